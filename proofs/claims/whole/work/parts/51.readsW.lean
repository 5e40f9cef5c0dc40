/-! ===== the model reads the whole text ===== -/
theorem tk_cod {B : Nat → Nat} {N s : Nat} (hs : s < N) : (cod B s (lt B N s) < 6 → tk B N s = 5 + cod B s (lt B N s) ∧ nx B N s = lt B N s) ∧ (¬ cod B s (lt B N s) < 6 → 0 < tk B N s ∧ tk B N s < 5) := by
  refine ⟨fun h => ⟨?_, ?_⟩, fun h => ?_⟩
  · unfold tk
    rw [if_pos hs, if_pos h]
  · have hne : ¬ lt B N s = s := fun e => by
      rw [e, cod_7 (by omega)] at h; omega
    have hl : bLt B s = true := by
      cases e : bLt B s
      · exact absurd (re_n (fun _ => e)) hne
      · rfl
    unfold nx
    rw [if_pos hs, if_pos hl]
  · unfold tk
    rw [if_pos hs, if_neg h]
    repeat' split
    all_goals omega
theorem tk_0 {B : Nat → Nat} {N s : Nat} (hs : ¬ s < N) : tk B N s = 0 := by unfold tk; rw [if_neg hs]
def zMe (h : HP) : ZE ⊕ ZD → Prop
  | .inl f => h.1 52 23 = nI f.1 ∧ h.1 52 20 = nI f.2
  | .inr D => zDm D h
section WM
variable {E : jEnv} {n : Nat} {X : State → Prop} {P : Option Value → HP → Prop} {B : Nat → Nat} {N : Nat}
theorem zm_allL {h0 : HP} (hY : zY B N h0) {res : ZE ⊕ ZD} (kx : ∀ h, zGm h0 h → zMe h res → P (some (.int (okI res))) h) : ∀ (q : Nat) (D : ZD) (a : Nat) (h : HP), N - a ≤ q → a ≤ N → zDok D → zGm h0 h → zTk B N (sk B N a) h → zDm D h → res = tAll B N q D a → jG E mX8_reads (n + 6) X P 106 [some (.ref 52), none] [] h := by
  have hN := hY.1
  have done : ∀ (D : ZD) (a : Nat) (h : HP), ¬ sk B N a < N → zGm h0 h → zTk B N (sk B N a) h → zDm D h → res = .inr D → jG E mX8_reads (n + 6) X P 106 [some (.ref 52), none] [] h := fun D a h hs hf ht hd er => by
    have e21 : h.1 52 21 = 0 := by rw [ht.2.1, tk_0 hs]; rfl
    have := kx h hf (by rw [er]; exact hd)
    rw [er] at this
    exact q_Moreads_106 (n := n + 5) h (fun _ => this) (fun c => absurd e21 c) (fun c => absurd e21 c) (fun c => absurd e21 c) (fun c => absurd e21 c) (fun c => absurd e21 c) (fun c => absurd e21 c) (fun c => absurd e21 c) (fun c => absurd e21 c) (fun c => absurd e21 c) (fun c => absurd e21 c) (fun c => absurd e21 c)
  intro q
  induction q with
  | zero =>
    intro D a h hq ha hD hf ht hd er
    have hs := sk_le (B := B) ha
    exact done D a h (by omega) hf ht hd er
  | succ q ih =>
    intro D a h hq ha hD hf ht hd er
    have hs := sk_le (B := B) ha
    have hl := lt_le (B := B) hs.2
    have er' : res = if sk B N a < N then bnd (tStm B N D a) (fun r => tAll B N q r.1 r.2) else .inr D := er
    by_cases hsN : sk B N a < N
    · rw [if_pos hsN] at er'
      have hY' := zY_g hf hY
      obtain ⟨tc1, tc2⟩ := tk_cod (B := B) hsN
      have htk := tk_lt B N (sk B N a)
      have e21 : ∀ t : Nat, t ≤ 10 → (h.1 52 21 = nI t ↔ tk B N (sk B N a) = t) := fun t ht' => by rw [ht.2.1]; exact nI_eq (by omega) (by omega)
      have stm : ∀ c, cod B (sk B N a) (lt B N (sk B N a)) = c → tStm B N D a = if c = 0 then .inl (3, sk B N a) else if c = 1 then tRow B N D (lt B N (sk B N a)) else if c = 2 then tTide B N D (sk B N a) (lt B N (sk B N a)) else if c = 3 then tMan B N D (sk B N a) (lt B N (sk B N a)) else if c = 4 then tNews B N D (sk B N a) (lt B N (sk B N a)) else if c = 5 then tCas B N D (sk B N a) (lt B N (sk B N a)) else .inl (1, sk B N a) := fun c hc => by
        unfold tStm
        rw [hc]
      have back : ∀ (v : Option Value) (h2 : HP), zMo B N v h2 (tStm B N D a) → zGm h h2 → (∃ f, tStm B N D a = .inl f ∧ v = some (.int 0) ∧ P (some (.int 0)) h2) ∨ (v = some (.int 1) ∧ jG E mX8_reads (n + 6) X P 106 [some (.ref 52), none] [] h2) := fun v h2 ho hf2 => by
        cases qs : tStm B N D a with
        | inl f =>
          rw [qs] at ho er'
          have := kx h2 (hf.trans hf2) (by rw [er']; exact ⟨ho.2.1, ho.2.2⟩)
          rw [er'] at this
          exact Or.inl ⟨f, rfl, ho.1, this⟩
        | inr x =>
          rw [qs] at ho er'
          obtain ⟨x1, x2, x3⟩ := tStm_ok ha hD (show tStm B N D a = .inr (x.1, x.2) from qs)
          exact Or.inr ⟨ho.1, ih x.1 x.2 h2 (by omega) x3 x1 (hf.trans hf2) ho.2.1 ho.2.2 er'⟩
      have bad : ∀ (kd : Nat), tStm B N D a = .inl (kd, sk B N a) → P (some (.int 0)) (jPI h 52 23 (nI kd)) := fun kd hb => by
        rw [hb] at er'
        have := kx (jPI h 52 23 (nI kd)) (hf.trans (zGm_I (Or.inl ⟨rfl, by decide⟩))) (by rw [er']; exact ⟨rfl, ht.1⟩)
        rw [er'] at this
        exact this
      have cd : ∀ c, c < 6 → h.1 52 21 = nI (5 + c) → cod B (sk B N a) (lt B N (sk B N a)) = c := fun c hc w => by
        have w' := (e21 (5 + c) (by omega)).mp w
        by_cases e : cod B (sk B N a) (lt B N (sk B N a)) < 6
        · have := (tc1 e).1; omega
        · have := tc2 e; omega
      have h19 : ∀ c, c < 6 → h.1 52 21 = nI (5 + c) → h.1 52 19 = nI (lt B N (sk B N a)) := fun c hc w => by
        rw [ht.2.2.1, (tc1 (by rw [cd c hc w]; exact hc)).2]
      have n0 : ¬ h.1 52 21 = 0 := fun e => by
        have e' := (e21 0 (by omega)).mp e
        by_cases e2 : cod B (sk B N a) (lt B N (sk B N a)) < 6
        · have := (tc1 e2).1; omega
        · have := tc2 e2; omega
      refine q_Moreads_106 (n := n + 5) h (fun c => absurd c n0) (fun _ w => ?_) (fun _ _ => rfl) (fun _ _ w => ?_) (fun _ _ _ w => ?_) (fun _ _ _ _ w => ?_) (fun _ _ _ _ _ w _ => ?_) (fun _ _ _ _ _ w w2 => absurd w w2) (fun _ _ _ _ _ w _ w2 => absurd w2 w) (fun _ _ _ _ _ _ w _ => ?_) (fun _ w5 w6 w7 w8 w9 w10 => ?_) (fun _ _ _ _ _ _ _ => rfl)
      · exact bad 3 (stm 0 (cd 0 (by omega) w))
      · have hc := cd 1 (by omega) w
        have et : tStm B N D a = tRow B N D (lt B N (sk B N a)) := stm 1 hc
        refine ⟨_, c_scans (n := n + 3) hl.2 h hY' (h19 1 (by omega) w), fun v h2 hp => ?_⟩
        obtain ⟨ev, hf2, ht2⟩ := hp
        rw [ev]
        refine q_Moreads_142 (n := n + 5) h2 ?_
        have hG2 : zGm h h2 := hf2.g (by decide)
        refine ⟨_, c_Morow (n := n + 1) hD hl.2 h2 (zY_g hG2 hY') ht2 (zDm_52 hf2 (by decide) hd), fun v h3 hp => ?_⟩
        obtain ⟨ho3, hf3⟩ := hp
        rw [← et] at ho3
        rcases back v h3 ho3 (hG2.trans hf3) with ⟨f, _, ev3, hP⟩ | ⟨ev3, hg⟩
        · rw [ev3]; exact q_Moreads_146 (n := n + 5) _ h3 (fun _ => hP) (fun w => absurd rfl w)
        · rw [ev3]; exact q_Moreads_146 (n := n + 5) _ h3 (fun w => absurd w one0) (fun _ => hg)
      · have hc := cd 2 (by omega) w
        have et : tStm B N D a = tTide B N D (sk B N a) (lt B N (sk B N a)) := stm 2 hc
        refine ⟨_, c_Motides (n := n + 1) hD hl.2 h hY' ht.1 (h19 2 (by omega) w) hd, fun v h3 hp => ?_⟩
        obtain ⟨ho3, hf3⟩ := hp
        rw [← et] at ho3
        rcases back v h3 ho3 hf3 with ⟨f, _, ev3, hP⟩ | ⟨ev3, hg⟩
        · rw [ev3]; exact q_Moreads_163 (n := n + 5) _ h3 (fun _ => hP) (fun w => absurd rfl w)
        · rw [ev3]; exact q_Moreads_163 (n := n + 5) _ h3 (fun w => absurd w one0) (fun _ => hg)
      · have hc := cd 3 (by omega) w
        have et : tStm B N D a = tMan B N D (sk B N a) (lt B N (sk B N a)) := stm 3 hc
        refine ⟨_, c_Mosomebody (n := n) hD hl.2 h hY' ht.1 (h19 3 (by omega) w) hd, fun v h3 hp => ?_⟩
        obtain ⟨ho3, hf3⟩ := hp
        rw [← et] at ho3
        rcases back v h3 ho3 hf3 with ⟨f, _, ev3, hP⟩ | ⟨ev3, hg⟩
        · rw [ev3]; exact q_Moreads_180 (n := n + 5) _ h3 (fun _ => hP) (fun w => absurd rfl w)
        · rw [ev3]; exact q_Moreads_180 (n := n + 5) _ h3 (fun w => absurd w one0) (fun _ => hg)
      · have hc := cd 4 (by omega) w
        have et : tStm B N D a = tNews B N D (sk B N a) (lt B N (sk B N a)) := stm 4 hc
        refine ⟨_, c_Monews (n := n) hD hl.2 h hY' ht.1 (h19 4 (by omega) w) hd, fun v h3 hp => ?_⟩
        obtain ⟨ho3, hf3⟩ := hp
        rw [← et] at ho3
        rcases back v h3 ho3 hf3 with ⟨f, _, ev3, hP⟩ | ⟨ev3, hg⟩
        · rw [ev3]; exact q_Moreads_220 (n := n + 5) _ h3 (fun _ => hP) (fun w => absurd rfl w)
        · rw [ev3]; exact q_Moreads_220 (n := n + 5) _ h3 (fun w => absurd w one0) (fun _ => hg)
      · have hc := cd 5 (by omega) w
        have et : tStm B N D a = tCas B N D (sk B N a) (lt B N (sk B N a)) := stm 5 hc
        refine ⟨_, c_Mocas (n := n) hD hl.2 h hY' ht.1 (h19 5 (by omega) w) hd, fun v h3 hp => ?_⟩
        obtain ⟨ho3, hf3⟩ := hp
        rw [← et] at ho3
        rcases back v h3 ho3 hf3 with ⟨f, _, ev3, hP⟩ | ⟨ev3, hg⟩
        · rw [ev3]; exact q_Moreads_220 (n := n + 5) _ h3 (fun _ => hP) (fun w => absurd rfl w)
        · rw [ev3]; exact q_Moreads_220 (n := n + 5) _ h3 (fun w => absurd w one0) (fun _ => hg)
      · have hc : cod B (sk B N a) (lt B N (sk B N a)) = 6 := by
          by_cases e : cod B (sk B N a) (lt B N (sk B N a)) < 6
          · exfalso
            have e1 := (tc1 e).1
            have : cod B (sk B N a) (lt B N (sk B N a)) = 0 ∨ cod B (sk B N a) (lt B N (sk B N a)) = 1 ∨ cod B (sk B N a) (lt B N (sk B N a)) = 2 ∨ cod B (sk B N a) (lt B N (sk B N a)) = 3 ∨ cod B (sk B N a) (lt B N (sk B N a)) = 4 ∨ cod B (sk B N a) (lt B N (sk B N a)) = 5 := by omega
            rcases this with r | r | r | r | r | r
            · exact w5 ((e21 5 (by omega)).mpr (by omega))
            · exact w6 ((e21 6 (by omega)).mpr (by omega))
            · exact w7 ((e21 7 (by omega)).mpr (by omega))
            · exact w8 ((e21 8 (by omega)).mpr (by omega))
            · exact w9 ((e21 9 (by omega)).mpr (by omega))
            · exact w10 ((e21 10 (by omega)).mpr (by omega))
          · have := cod_le (B := B) (s := sk B N a) (e := lt B N (sk B N a)); omega
        exact bad 1 (stm 6 hc)
    · rw [if_neg hsN] at er'
      exact done D a h hsN hf ht hd er'
theorem c_Moreads (h : HP) (hY : zY B N h) : jC E mX8_reads (n + 6) [.ref 52] h (fun v h2 => v = some (.int (okI (tRead B N))) ∧ zGm h h2 ∧ zMe h2 (tRead B N)) := by
  have hN := hY.1
  refine jC.of (lv := [some (.ref 52), none]) (by decide) (Nat.le_of_ble_eq_true rfl) ⟨rfl, trivial⟩ (q_Moreads_0 (n := n + 5) h ?_)
  have hf1 : zGm h (jPI (jPI (jPI (jPI (jPI (jPI (jPI (jPI (jPI h 52 19 0) 52 26 0) 52 27 0) 52 30 0) 52 31 0) 52 33 0) 52 35 0) 52 36 0) 52 37 0) := ((((((((zGm_I (Or.inl ⟨rfl, by decide⟩)).trans (zGm_I (Or.inl ⟨rfl, by decide⟩))).trans (zGm_I (Or.inl ⟨rfl, by decide⟩))).trans (zGm_I (Or.inl ⟨rfl, by decide⟩))).trans (zGm_I (Or.inl ⟨rfl, by decide⟩))).trans (zGm_I (Or.inl ⟨rfl, by decide⟩))).trans (zGm_I (Or.inl ⟨rfl, by decide⟩))).trans (zGm_I (Or.inl ⟨rfl, by decide⟩))).trans (zGm_I (Or.inl ⟨rfl, by decide⟩))
  have zero : ∀ (q c : Nat) (h' : HP), c + q = 36 → zGm h h' → (h'.1 52 19 = 0 ∧ h'.1 52 26 = 0 ∧ h'.1 52 27 = 0 ∧ h'.1 52 30 = 0 ∧ h'.1 52 31 = 0 ∧ h'.1 52 33 = 0 ∧ h'.1 52 35 = 0 ∧ h'.1 52 36 = 0 ∧ h'.1 52 37 = 0) → (∀ i, i < c → h'.1 62 i = 0) → jG E mX8_reads (n + 6) (fun _ => True) (fun v h2 => v = some (.int (okI (tRead B N))) ∧ zGm h h2 ∧ zMe h2 (tRead B N)) 47 [some (.ref 52), some (.int (nI c))] [] h' := by
    intro q
    induction q with
    | zero =>
      intro c h' hc hf h52 h62
      obtain rfl : c = 36 := by omega
      have h36 : (36 : Int32) ≤ nI 36 := by decide
      refine q_Moreads_47 (n := n + 5) _ h' (fun _ => ?_) (fun c => absurd h36 c) (fun c => absurd h36 c)
      have hd : zDm D0 h' := by
        obtain ⟨_, e26, e27, e30, e31, e33, e35, e36, e37⟩ := h52
        exact ⟨⟨e26, e27, e30, e31, e33, e35, e36, e37⟩, h62, fun t ht => absurd ht (by show ¬ t < 0; omega), fun m hm => absurd hm (by show ¬ m < 0; omega), fun m hm => absurd hm (by show ¬ m < 0; omega)⟩
      refine ⟨_, c_scans (n := n + 3) (a := 0) (Nat.zero_le _) h' (zY_g hf hY) h52.1, fun v h2 hp => ?_⟩
      obtain ⟨ev, hf2, ht2⟩ := hp
      rw [ev]
      have hG2 : zGm h h2 := hf.trans (hf2.g (by decide))
      have hY2 := zY_g hG2 hY
      have hd2 := zDm_52 hf2 (by decide) hd
      have hs := sk_le (B := B) (Nat.zero_le N)
      have hl := lt_le (B := B) hs.2
      have htk := tk_lt B N (sk B N 0)
      have e21 : ∀ t : Nat, t ≤ 10 → (h2.1 52 21 = nI t ↔ tk B N (sk B N 0) = t) := fun t ht' => by rw [ht2.2.1]; exact nI_eq (by omega) (by omega)
      by_cases hsN : sk B N 0 < N
      · obtain ⟨tc1, tc2⟩ := tk_cod (B := B) hsN
        have er : tRead B N = bnd (tLand B N D0 0) (fun r => tAll B N 500 r.1 r.2) := by unfold tRead; rw [if_pos hsN]
        have n0 : ¬ h2.1 52 21 = 0 := fun e => by
          have e' := (e21 0 (by omega)).mp e
          by_cases e2 : cod B (sk B N 0) (lt B N (sk B N 0)) < 6
          · have := (tc1 e2).1; omega
          · have := tc2 e2; omega
        refine q_Moreads_70 (n := n + 5) h2 (fun c => absurd c n0) (fun _ w => ?_) (fun _ w => ?_) (fun _ _ => rfl)
        · have w' := (e21 5 (by omega)).mp w
          have hc : cod B (sk B N 0) (lt B N (sk B N 0)) = 0 := by
            by_cases e : cod B (sk B N 0) (lt B N (sk B N 0)) < 6
            · have := (tc1 e).1; omega
            · have := tc2 e; omega
          have el : tLand B N D0 0 = bnd (tNum B N 1 9 (lt B N (sk B N 0))) (fun w => bnd (tNum B N 1 (if 36 / w.1 < 9 then 36 / w.1 else 9) w.2) (fun g => bnd (tSgn B N 59 g.2) (fun e => .inr (uL D0 w.1 g.1, e)))) := by unfold tLand; rw [if_pos hc]
          refine ⟨_, c_scans (n := n + 3) hl.2 h2 hY2 (by rw [ht2.2.2.1, (tc1 (by omega)).2]), fun v h3 hp => ?_⟩
          obtain ⟨ev3, hf3, ht3⟩ := hp
          rw [ev3]
          refine q_Moreads_97 (n := n + 5) h3 ?_
          have hG3 : zGm h h3 := hG2.trans (hf3.g (by decide))
          refine ⟨_, c_Moland (n := n + 1) (D := D0) rfl hl.2 h3 (zY_g hG3 hY) ht3 (zDm_52 hf3 (by decide) hd2), fun v h4 hp => ?_⟩
          obtain ⟨ho4, hf4⟩ := hp
          rw [← el] at ho4
          have hG4 := hG3.trans hf4
          cases ql : tLand B N D0 0 with
          | inl f =>
            rw [ql] at ho4 er
            rw [ho4.1]
            exact q_Moreads_101 (n := n + 5) _ h4 (fun _ => by rw [er]; exact ⟨rfl, hG4, ho4.2.1, ho4.2.2⟩) (fun w => absurd rfl w)
          | inr x =>
            rw [ql] at ho4 er
            obtain ⟨x1, x2, x3⟩ := tLand_ok (Nat.zero_le _) (show tLand B N D0 0 = .inr (x.1, x.2) from ql)
            rw [ho4.1]
            refine q_Moreads_101 (n := n + 5) _ h4 (fun w => absurd w one0) (fun _ => ?_)
            exact zm_allL (n := n) (h0 := h) hY (fun h5 hf5 he5 => ⟨rfl, hf5, he5⟩) 500 x.1 x.2 h4 (by omega) x3 x1 hG4 ho4.2.1 ho4.2.2 er
        · have hc : ¬ cod B (sk B N 0) (lt B N (sk B N 0)) = 0 := fun e => w ((e21 5 (by omega)).mpr (by have := (tc1 (by omega)).1; omega))
          have el : tRead B N = .inl (1, sk B N 0) := by
            rw [er]; unfold tLand; rw [if_neg hc]; rfl
          rw [el]
          exact ⟨rfl, hG2.trans (zGm_I (Or.inl ⟨rfl, by decide⟩)), rfl, ht2.1⟩
      · have er : tRead B N = .inr D0 := by unfold tRead; rw [if_neg hsN]
        have e0 : h2.1 52 21 = 0 := by rw [ht2.2.1, tk_0 hsN]; rfl
        exact q_Moreads_70 (n := n + 5) h2 (fun _ => by rw [er]; exact ⟨rfl, hG2, hd2⟩) (fun c => absurd e0 c) (fun c => absurd e0 c) (fun c => absurd e0 c)
    | succ q ih =>
      intro c h' hc hf h52 h62
      have h36 : ¬ (36 : Int32) ≤ nI c := by rw [show (36 : Int32) = nI 36 from rfl]; exact nI_ge (by omega) (by omega)
      refine q_Moreads_47 (n := n + 5) _ h' (fun c => absurd c h36) (fun _ => z_vp (by omega) (by omega)) (fun _ => ?_)
      rw [nI_clamp (by omega), nI_1]
      refine ih (c + 1) _ (by omega) (hf.trans (zGm_I (Or.inr (Or.inl rfl)))) h52 (fun i hi => ?_)
      show upd (h'.1 62) c 0 i = 0
      by_cases e : i = c
      · rw [e, upd_eq]
      · rw [upd_ne e]; exact h62 i (by omega)
  exact zero 36 0 _ rfl hf1 ⟨rfl, rfl, rfl, rfl, rfl, rfl, rfl, rfl, rfl⟩ (fun i hi => absurd hi (by omega))
end WM
