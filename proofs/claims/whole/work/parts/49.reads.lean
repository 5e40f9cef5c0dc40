/-! ===== the model's reader: statements ===== -/
def zTr (B : Nat → Nat) (N : Nat) (v : Option Value) (h : HP) : ZE ⊕ Nat → Prop
  | .inl f => v = some (.int 0) ∧ h.1 52 23 = nI f.1 ∧ h.1 52 20 = nI f.2
  | .inr e => v = some (.int 1) ∧ zTk B N (sk B N e) h
def zTt : List Nat := [19, 20, 21, 22, 23, 25]
theorem tk_2 {B : Nat → Nat} {N s : Nat} (hs : s ≤ N) : tk B N s = 2 ↔ ¬ fg B N s = s := by
  by_cases hlt : s < N
  · by_cases hf : bFg B s = true
    · have hnl : bLt B s = false := by
        unfold bFg at hf
        unfold bLt
        rw [Bool.and_eq_true, decide_eq_true_eq, decide_eq_true_eq] at hf
        cases e : (decide (97 ≤ B s) && decide (B s ≤ 122))
        · rfl
        · rw [Bool.and_eq_true, decide_eq_true_eq, decide_eq_true_eq] at e; omega
      have elt : lt B N s = s := re_n (fun _ => hnl)
      have hgt : s < fg B N s := re_gt hlt hf
      unfold tk
      rw [if_pos hlt, elt, cod_7 (by omega), if_neg (by omega), if_pos hf]
      exact ⟨fun _ e => by omega, fun _ => rfl⟩
    · have e : fg B N s = s := re_n (fun _ => by simpa using hf)
      have hne : ¬ tk B N s = 2 := by
        unfold tk
        rw [if_pos hlt, if_neg hf]
        repeat' split
        all_goals omega
      exact ⟨fun q => absurd q hne, fun q => absurd e q⟩
  · have e : fg B N s = s := re_n (fun w => absurd w hlt)
    have hne : ¬ tk B N s = 2 := by unfold tk; rw [if_neg hlt]; omega
    exact ⟨fun q => absurd q hne, fun q => absurd e q⟩
theorem nx_2 {B : Nat → Nat} {N s : Nat} (hs : s ≤ N) (h : ¬ fg B N s = s) : nx B N s = fg B N s := by
  have hlt : s < N := by
    rcases Nat.lt_or_ge s N with e | e
    · exact e
    · exact absurd (re_n (fun w => absurd w (by omega))) h
  have hf : bFg B s = true := by
    cases e : bFg B s
    · exact absurd (re_n (fun _ => e)) h
    · rfl
  have hnl : ¬ bLt B s = true := fun e => by
    unfold bFg at hf
    unfold bLt at e
    rw [Bool.and_eq_true, decide_eq_true_eq, decide_eq_true_eq] at hf e
    omega
  unfold nx
  rw [if_pos hlt, if_neg hnl, if_pos hf]
theorem tk_sgn {B : Nat → Nat} {N s t c : Nat} (hs : s ≤ N) (hc : (t = 3 ∧ c = 59) ∨ (t = 4 ∧ c = 44)) : (tk B N s = t ↔ s < N ∧ B s = c) ∧ (s < N ∧ B s = c → nx B N s = s + 1) := by
  have nlt : s < N → B s = c → lt B N s = s ∧ bFg B s = false ∧ bLt B s = false := fun h1 h2 => by
    have hl : bLt B s = false := by
      unfold bLt
      cases e : (decide (97 ≤ B s) && decide (B s ≤ 122))
      · rfl
      · rw [Bool.and_eq_true, decide_eq_true_eq, decide_eq_true_eq] at e; omega
    refine ⟨re_n (fun _ => hl), ?_, hl⟩
    unfold bFg
    cases e : (decide (48 ≤ B s) && decide (B s ≤ 57))
    · rfl
    · rw [Bool.and_eq_true, decide_eq_true_eq, decide_eq_true_eq] at e; omega
  refine ⟨⟨fun q => ?_, fun ⟨h1, h2⟩ => ?_⟩, fun ⟨h1, h2⟩ => ?_⟩
  · unfold tk at q
    split at q
    · rename_i hlt
      refine ⟨hlt, ?_⟩
      split at q
      · omega
      · split at q
        · omega
        · split at q
          · omega
          · split at q <;> omega
    · omega
  · obtain ⟨e1, e2, e3⟩ := nlt h1 h2
    unfold tk
    rw [if_pos h1, e1, cod_7 (by omega), if_neg (by omega), if_neg (by rw [e2]; decide)]
    rcases hc with ⟨rfl, rfl⟩ | ⟨rfl, rfl⟩
    · rw [if_pos h2]
    · rw [if_neg (by omega), if_pos h2]
  · obtain ⟨e1, e2, e3⟩ := nlt h1 h2
    unfold nx
    rw [if_pos h1, if_neg (by rw [e3]; decide), if_neg (by rw [e2]; decide)]
theorem tk_lt (B : Nat → Nat) (N s : Nat) : tk B N s ≤ 10 := by
  unfold tk
  repeat' split
  all_goals omega
section TM
variable {E : jEnv} {n : Nat} {X : State → Prop} {P : Option Value → HP → Prop} {B : Nat → Nat} {N : Nat}
theorem zTk_25 {s : Nat} {h : HP} {x : Int32} (q : zTk B N s h) : zTk B N s (jPI h 52 25 x) := q
theorem mv_is {a lo hi : Nat} (ha : a ≤ N) (hhi : hi < 1000) (h2 : ¬ fg B N (sk B N a) = sk B N a) : (lo ≤ mv B N (sk B N a) ∧ mv B N (sk B N a) ≤ hi → tNum B N lo hi a = .inr (mv B N (sk B N a), fg B N (sk B N a))) ∧ (¬ (lo ≤ mv B N (sk B N a) ∧ mv B N (sk B N a) ≤ hi) → tNum B N lo hi a = .inl (2, sk B N a)) := by
  unfold tNum mv
  rw [if_neg h2]
  by_cases e : 3 < fg B N (sk B N a) - sk B N a
  · rw [if_pos e, if_pos (Or.inl e)]
    exact ⟨fun q => by omega, fun _ => rfl⟩
  · rw [if_neg e]
    refine ⟨fun q => ?_, fun q => ?_⟩
    · rw [if_neg (by rintro (r | r); exact e r; exact r q)]
    · rw [if_pos (Or.inr q)]
theorem mv_lt {s : Nat} (hs : s ≤ N) : mv B N s < 10000 := by
  unfold mv
  split
  · omega
  · have hfig : ∀ i, i < fg B N s - s → B (s + i) ≤ 57 := fun i hi => by
      have := re_all (p := bFg B) (N := N) (a := s) hs (s + i) (by omega) (by show s + i < fg B N s; omega)
      unfold bFg at this
      rw [Bool.and_eq_true, decide_eq_true_eq, decide_eq_true_eq] at this
      exact this.2
    have := vl_lt (B := B) (s := s) _ hfig
    omega
theorem c_takes {a lo hi : Nat} (ha : a ≤ N) (hlo : lo < 1000) (hhi : hi < 1000) (h : HP) (hY : zY B N h) (ht : zTk B N (sk B N a) h) : jC E mX8_takes (n + 3) [.ref 52, .int (nI lo), .int (nI hi)] h (fun v h2 => zTr B N v h2 (ps (tNum B N lo hi a)) ∧ zF52 zTt h h2 ∧ ∀ x, tNum B N lo hi a = .inr x → h2.1 52 25 = nI x.1) := by
  have hN := hY.1
  have hs := sk_le (B := B) ha
  have hfg := fg_le (B := B) hs.2
  have hmv := mv_lt (B := B) hs.2
  have htk := tk_lt B N (sk B N a)
  have e21 : h.1 52 21 = 2 ↔ ¬ fg B N (sk B N a) = sk B N a := by
    rw [ht.2.1, ← tk_2 hs.2]; exact nI_eq (b := 2) (by omega) (by omega)
  refine jC.of (lv := [some (.ref 52), some (.int (nI lo)), some (.int (nI hi))]) (by decide) (Nat.le_of_ble_eq_true rfl) ⟨rfl, rfl, rfl, trivial⟩ (q_Motakes_0 (n := n + 2) _ _ h (fun w w2 => ?_) (fun _ _ => rfl) (fun w w2 => ?_) (fun w => ?_) (fun _ => rfl))
  · have w' := e21.mp w
    have h22 := ht.2.2.2 ((tk_2 hs.2).mpr w')
    rw [h22, z_Moin, z_l, z_l, z_l, nI_toInt (by omega), nI_toInt (by omega), nI_toInt (by omega)] at w2
    have hno : ¬ (lo ≤ mv B N (sk B N a) ∧ mv B N (sk B N a) ≤ hi) := fun q => by
      rw [if_pos (by omega)] at w2; exact one0 w2
    have et := (mv_is ha hhi w').2 hno
    rw [et]
    exact ⟨⟨rfl, rfl, ht.1⟩, zF52_I (by decide), fun x hx => by cases hx⟩
  · have w' := e21.mp w
    have h22 := ht.2.2.2 ((tk_2 hs.2).mpr w')
    rw [h22, z_Moin, z_l, z_l, z_l, nI_toInt (by omega), nI_toInt (by omega), nI_toInt (by omega)] at w2
    have hyes : lo ≤ mv B N (sk B N a) ∧ mv B N (sk B N a) ≤ hi := by
      by_cases q : lo ≤ mv B N (sk B N a) ∧ mv B N (sk B N a) ≤ hi
      · exact q
      · rw [if_neg (by omega)] at w2; exact absurd rfl w2
    have et := (mv_is (B := B) ha hhi w').1 hyes
    have hf1 : zF52 zTt h (jPI h 52 25 (h.1 52 22)) := zF52_I (by decide)
    refine ⟨_, c_scans (n := n) (a := fg B N (sk B N a)) hfg.2 (jPI h 52 25 (h.1 52 22)) (zY_52 hf1 (by decide) hY) (by show h.1 52 19 = _; rw [ht.2.2.1, nx_2 hs.2 w']), fun v h2 hp => ?_⟩
    obtain ⟨ev, hf2, ht2⟩ := hp
    rw [ev]
    refine q_Motakes_47 (n := n + 2) h2 ?_
    rw [et]
    refine ⟨⟨rfl, ht2⟩, hf1.trans (hf2.sub (by decide)), fun x hx => ?_⟩
    cases hx
    rw [hf2.2 25 (by decide)]
    exact h22
  · have w' : fg B N (sk B N a) = sk B N a := by
      by_cases q : fg B N (sk B N a) = sk B N a
      · exact q
      · exact absurd (e21.mpr q) w
    have et : tNum B N lo hi a = .inl (1, sk B N a) := by unfold tNum; rw [if_pos w']
    rw [et]
    exact ⟨⟨rfl, rfl, ht.1⟩, zF52_I (by decide), fun x hx => by cases hx⟩
theorem c_signs {a t c : Nat} (hc : (t = 3 ∧ c = 59) ∨ (t = 4 ∧ c = 44)) (ha : a ≤ N) (h : HP) (hY : zY B N h) (ht : zTk B N (sk B N a) h) : jC E mX8_signs (n + 3) [.ref 52, .int (nI t)] h (fun v h2 => zTr B N v h2 (tSgn B N c a) ∧ zF52 zTt h h2) := by
  have hN := hY.1
  have hs := sk_le (B := B) ha
  have htk := tk_lt B N (sk B N a)
  obtain ⟨k1, k2⟩ := tk_sgn (B := B) hs.2 hc
  have e21 : h.1 52 21 = nI t ↔ sk B N a < N ∧ B (sk B N a) = c := by
    rw [ht.2.1, ← k1]; exact nI_eq (by omega) (by omega)
  refine jC.of (lv := [some (.ref 52), some (.int (nI t))]) (by decide) (Nat.le_of_ble_eq_true rfl) ⟨rfl, rfl, trivial⟩ (q_Mosigns_0 (n := n + 2) _ h (fun w => ?_) (fun w => ?_) (fun _ => rfl))
  · have w' := e21.mp w
    refine ⟨_, c_scans (n := n) (a := sk B N a + 1) (by omega) h hY (by rw [ht.2.2.1, k2 w']), fun v h2 hp => ?_⟩
    obtain ⟨ev, hf2, ht2⟩ := hp
    rw [ev]
    refine q_Mosigns_18 (n := n + 2) h2 ⟨?_, hf2.sub (by decide)⟩
    unfold tSgn
    rw [if_pos w']
    exact ⟨rfl, ht2⟩
  · refine ⟨?_, zF52_I (by decide)⟩
    unfold tSgn
    rw [if_neg (fun q => w (e21.mpr q))]
    exact ⟨rfl, rfl, ht.1⟩
theorem c_spot {a w g : Nat} (hw : 0 < w ∧ w ≤ 9) (hg : 0 < g ∧ g ≤ 9) (ha : a ≤ N) (h : HP) (hY : zY B N h) (ht : zTk B N (sk B N a) h) (h26 : h.1 52 26 = nI w) (h27 : h.1 52 27 = nI g) : jC E mX8_spot (n + 4) [.ref 52] h (fun v h2 => zTr B N v h2 (ps (tCel B N w g a)) ∧ zF52 zTt h h2 ∧ ∀ x, tCel B N w g a = .inr x → h2.1 52 25 = nI x.1) := by
  have ew : nI w - 1 = nI (w - 1) := pk_sub (b := 1) (by omega)
  have eg : nI g - 1 = nI (g - 1) := pk_sub (b := 1) (by omega)
  refine jC.of (lv := [some (.ref 52), none]) (by decide) (Nat.le_of_ble_eq_true rfl) ⟨rfl, trivial⟩ (q_Mospot_0 (n := n + 3) h ?_)
  rw [h26, ew]
  refine ⟨_, c_takes (n := n) (lo := 0) (hi := w - 1) ha (by omega) (by omega) h hY ht, fun v h2 hp => ?_⟩
  obtain ⟨hr2, hf2, hg2⟩ := hp
  unfold tCel
  cases q1 : tNum B N 0 (w - 1) a with
  | inl f =>
    rw [q1] at hr2
    obtain ⟨ev, e1, e2⟩ := hr2
    rw [ev]
    exact q_Mospot_11 (n := n + 3) _ h2 (fun _ => ⟨⟨rfl, e1, e2⟩, hf2, fun x hx => by cases hx⟩) (fun q => absurd rfl q)
  | inr x =>
    rw [q1] at hr2
    obtain ⟨ev, ht2⟩ := hr2
    rw [ev]
    have hx25 := hg2 x q1
    obtain ⟨_, _, _, x4⟩ := tNum_ok ha (show tNum B N 0 (w - 1) a = .inr (x.1, x.2) from q1)
    refine q_Mospot_11 (n := n + 3) _ h2 (fun q => absurd q one0) (fun _ => ?_)
    have g27 : h2.1 52 27 = nI g := by rw [hf2.2 27 (by decide)]; exact h27
    have g26 : h2.1 52 26 = nI w := by rw [hf2.2 26 (by decide)]; exact h26
    rw [g27, eg, hx25]
    refine ⟨_, c_takes (n := n) (lo := 0) (hi := g - 1) x4 (by omega) (by omega) h2 (zY_52 hf2 (by decide) hY) ht2, fun v3 h3 hp => ?_⟩
    obtain ⟨hr3, hf3, hg3⟩ := hp
    show jG E mX8_spot (n + 4) (fun _ => True) (fun v h2 => zTr B N v h2 (ps (bnd (tNum B N 0 (g - 1) x.2) (fun y => .inr (w * y.1 + x.1, y.2)))) ∧ zF52 zTt h h2 ∧ ∀ z, bnd (tNum B N 0 (g - 1) x.2) (fun y => .inr (w * y.1 + x.1, y.2)) = .inr z → h2.1 52 25 = nI z.1) 32 _ _ h3
    cases q2 : tNum B N 0 (g - 1) x.2 with
    | inl f =>
      rw [q2] at hr3
      obtain ⟨ev3, e1, e2⟩ := hr3
      rw [ev3]
      exact q_Mospot_32 (n := n + 3) _ _ h3 (fun _ => ⟨⟨rfl, e1, e2⟩, hf2.trans hf3, fun x hx => by cases hx⟩) (fun q => absurd rfl q)
    | inr y =>
      rw [q2] at hr3
      obtain ⟨ev3, ht3⟩ := hr3
      rw [ev3]
      have hy25 := hg3 y q2
      refine q_Mospot_32 (n := n + 3) _ _ h3 (fun q => absurd q one0) (fun _ => ⟨⟨rfl, zTk_25 ht3⟩, (hf2.trans hf3).trans (zF52_I (by decide)), fun z hz => ?_⟩)
      cases hz
      show h3.1 52 26 * h3.1 52 25 + nI x.1 = _
      rw [hf3.2 26 (by decide), g26, hy25, pk_mul, nI_add]
end TM
/-- a draft as the model holds it -/
def zDm (D : ZD) (h : HP) : Prop :=
  (h.1 52 26 = nI (dW D) ∧ h.1 52 27 = nI (dG D) ∧ h.1 52 30 = nI (dH D) ∧ h.1 52 31 = nI (dM D) ∧ h.1 52 33 = nI (dN D) ∧ h.1 52 35 = nI (dC D) ∧ h.1 52 36 = nI (dR D) ∧ h.1 52 37 = nI (dK D)) ∧
  (∀ c, c < 36 → h.1 62 c = nI (dO D c)) ∧ (∀ t, t < dH D → h.1 63 t = nI (dT D t)) ∧
  (∀ m, m < dM D → h.1 64 (3 * m) = nI (dX D m % dW D) ∧ h.1 64 (3 * m + 1) = nI (dX D m / dW D) ∧ h.1 64 (3 * m + 2) = nI (dS D m)) ∧ ∀ k, k < dN D → h.1 65 k = nI (dP D k)
def zMc : List Nat := [19, 20, 21, 22, 23, 25, 26, 27, 30, 31, 33, 35, 36, 37]
/-- what reading changes of the model -/
def zGm (h h2 : HP) : Prop := zFr [52, 62, 63, 64, 65] h h2 ∧ ∀ i, i ∉ zMc → h2.1 52 i = h.1 52 i
theorem zGm.refl (h : HP) : zGm h h := ⟨zFr.refl _ h, fun _ _ => rfl⟩
theorem zGm.trans {h h2 h3 : HP} (p : zGm h h2) (q : zGm h2 h3) : zGm h h3 := ⟨p.1.trans q.1, fun i hi => (q.2 i hi).trans (p.2 i hi)⟩
theorem zF52.g {l : List Nat} {h h2 : HP} (hf : zF52 l h h2) (hl : ∀ i, i ∈ l → i ∈ zMc) : zGm h h2 := ⟨hf.1.sub (by decide), fun i hi => hf.2 i (fun q => hi (hl i q))⟩
theorem zGm_I {h : HP} {k j : Nat} {x : Int32} (hk : (k = 52 ∧ j ∈ zMc) ∨ k = 62 ∨ k = 63 ∨ k = 64 ∨ k = 65) : zGm h (jPI h k j x) := by
  rcases hk with ⟨rfl, hj⟩ | rfl | rfl | rfl | rfl
  · exact ⟨zFr_I (by decide), fun i hi => upd_ne (fun e => hi (e ▸ hj))⟩
  · exact ⟨zFr_I (by decide), fun i _ => rfl⟩
  · exact ⟨zFr_I (by decide), fun i _ => rfl⟩
  · exact ⟨zFr_I (by decide), fun i _ => rfl⟩
  · exact ⟨zFr_I (by decide), fun i _ => rfl⟩
theorem zY_g {B : Nat → Nat} {N : Nat} {h h2 : HP} (hf : zGm h h2) (q : zY B N h) : zY B N h2 := by
  unfold zY
  rw [hf.2 18 (by decide), (hf.1 61 (by decide)).1]
  exact q
theorem zDm_52 {D : ZD} {l : List Nat} {h h2 : HP} (hf : zF52 l h h2) (hl : ∀ i, i ∈ [26, 27, 30, 31, 33, 35, 36, 37] → i ∉ l) (q : zDm D h) : zDm D h2 := by
  unfold zDm
  rw [hf.2 26 (hl 26 (by decide)), hf.2 27 (hl 27 (by decide)), hf.2 30 (hl 30 (by decide)), hf.2 31 (hl 31 (by decide)), hf.2 33 (hl 33 (by decide)), hf.2 35 (hl 35 (by decide)), hf.2 36 (hl 36 (by decide)), hf.2 37 (hl 37 (by decide)), (hf.1 62 (by decide)).1, (hf.1 63 (by decide)).1, (hf.1 64 (by decide)).1, (hf.1 65 (by decide)).1]
  exact q
def zMo (B : Nat → Nat) (N : Nat) (v : Option Value) (h : HP) : ZE ⊕ (ZD × Nat) → Prop
  | .inl f => v = some (.int 0) ∧ h.1 52 23 = nI f.1 ∧ h.1 52 20 = nI f.2
  | .inr x => v = some (.int 1) ∧ zTk B N (sk B N x.2) h ∧ zDm x.1 h
/-- the sign at the end -/
theorem zMo_end {B : Nat → Nat} {N : Nat} {v : Option Value} {h h2 : HP} {D : ZD} {a : Nat} (hr : zTr B N v h2 (tSgn B N 59 a)) (hf : zF52 zTt h h2) (hd : zDm D h) : zMo B N v h2 (bnd (tSgn B N 59 a) (fun e => .inr (D, e))) := by
  cases q : tSgn B N 59 a with
  | inl f => rw [q] at hr; exact hr
  | inr e => rw [q] at hr; exact ⟨hr.1, hr.2, zDm_52 hf (by decide) hd⟩
theorem zTr_b {B : Nat → Nat} {N : Nat} {v : Option Value} {h : HP} {r : ZE ⊕ Nat} (hr : zTr B N v h r) : ∃ s0 : Int32, v = some (.int s0) ∧ narrow .boolean (.int s0) = .int s0 := by
  cases r with
  | inl f => exact ⟨0, hr.1, rfl⟩
  | inr e => exact ⟨1, hr.1, rfl⟩
section TS
variable {E : jEnv} {n : Nat} {X : State → Prop} {P : Option Value → HP → Prop} {B : Nat → Nat} {N : Nat}
theorem c_Moland {D : ZD} {a : Nat} (hM0 : dM D = 0) (ha : a ≤ N) (h : HP) (hY : zY B N h) (ht : zTk B N (sk B N a) h) (hd : zDm D h) : jC E mX8_land (n + 4) [.ref 52] h (fun v h2 => zMo B N v h2 (bnd (tNum B N 1 9 a) (fun w => bnd (tNum B N 1 (if 36 / w.1 < 9 then 36 / w.1 else 9) w.2) (fun g => bnd (tSgn B N 59 g.2) (fun e => .inr (uL D w.1 g.1, e))))) ∧ zGm h h2) := by
  refine jC.of (lv := [some (.ref 52)]) (by decide) (Nat.le_of_ble_eq_true rfl) ⟨rfl, trivial⟩ (q_Moland_0 (n := n + 3) h ?_)
  refine ⟨_, c_takes (n := n) (lo := 1) (hi := 9) ha (by omega) (by omega) h hY ht, fun v h2 hp => ?_⟩
  obtain ⟨hr2, hf2, hg2⟩ := hp
  have hG2 : zGm h h2 := hf2.g (by decide)
  cases q1 : tNum B N 1 9 a with
  | inl f =>
    rw [q1] at hr2
    obtain ⟨ev, e1, e2⟩ := hr2
    rw [ev]
    exact q_Moland_7 (n := n + 3) _ h2 (fun _ => ⟨⟨rfl, e1, e2⟩, hG2⟩) (fun q => absurd rfl q) (fun q => absurd rfl q) (fun q => absurd rfl q) (fun q => absurd rfl q) (fun q => absurd rfl q)
  | inr w =>
    rw [q1] at hr2
    obtain ⟨ev, ht2⟩ := hr2
    rw [ev]
    have h25 := hg2 w q1
    obtain ⟨w1, w2, _, w4⟩ := tNum_ok ha (show tNum B N 1 9 a = .inr (w.1, w.2) from q1)
    have hs := sk_le (B := B) w4
    have hN := hY.1
    have htk := tk_lt B N (sk B N w.2)
    have hmv := mv_lt (B := B) hs.2
    have hY2 := zY_52 hf2 (by decide) hY
    have hd2 := zDm_52 hf2 (by decide) hd
    show jG E mX8_land (n + 4) (fun _ => True) (fun v h2 => zMo B N v h2 (bnd (tNum B N 1 (if 36 / w.1 < 9 then 36 / w.1 else 9) w.2) (fun g => bnd (tSgn B N 59 g.2) (fun e => .inr (uL D w.1 g.1, e)))) ∧ zGm h h2) 7 _ _ h2
    have h9 : 36 / w.1 ≤ 36 := Nat.div_le_self _ _
    have big : ∀ v : Nat, (w.1 * v ≤ 36 ↔ v ≤ 36 / w.1) := fun v => by
      rw [Nat.le_div_iff_mul_le (by omega), Nat.mul_comm]
    have hhi : (if 36 / w.1 < 9 then 36 / w.1 else 9) < 1000 := by split <;> omega
    have second : (tNum B N 1 9 w.2 = tNum B N 1 (if 36 / w.1 < 9 then 36 / w.1 else 9) w.2) → jCall E mX8_takes (n + 3) [.ref 52, .int 1, .int 9] (jPI h2 52 26 (h2.1 52 25)) (fun v h3 => jG E mX8_land (n + 4) (fun _ => True) (fun v h2 => zMo B N v h2 (bnd (tNum B N 1 (if 36 / w.1 < 9 then 36 / w.1 else 9) w.2) (fun g => bnd (tSgn B N 59 g.2) (fun e => .inr (uL D w.1 g.1, e)))) ∧ zGm h h2) 70 [some (.ref 52)] (v.toList ++ []) h3) := fun hsame => by
      rw [← hsame]
      have hf3 : zF52 zMc h2 (jPI h2 52 26 (h2.1 52 25)) := zF52_I (by decide)
      refine ⟨_, c_takes (n := n) (lo := 1) (hi := 9) w4 (by omega) (by omega) (jPI h2 52 26 (h2.1 52 25)) (zY_52 hf3 (by decide) hY2) ht2, fun v h4 hp => ?_⟩
      obtain ⟨hr4, hf4, hg4⟩ := hp
      have hG4 : zGm h h4 := (hG2.trans (zGm_I (Or.inl ⟨rfl, by decide⟩))).trans (hf4.g (by decide))
      cases q2 : tNum B N 1 9 w.2 with
      | inl f =>
        rw [q2] at hr4
        obtain ⟨ev4, e1, e2⟩ := hr4
        rw [ev4]
        exact q_Moland_70 (n := n + 3) _ h4 (fun _ => ⟨⟨rfl, e1, e2⟩, hG4⟩) (fun q => absurd rfl q)
      | inr g =>
        rw [q2] at hr4
        obtain ⟨ev4, ht4⟩ := hr4
        rw [ev4]
        have g25 := hg4 g q2
        obtain ⟨g1, g2, _, g4⟩ := tNum_ok w4 (show tNum B N 1 9 w.2 = .inr (g.1, g.2) from q2)
        refine q_Moland_70 (n := n + 3) _ h4 (fun q => absurd q one0) (fun _ => ?_)
        have hG5 : zGm h4 (jPI h4 52 27 (h4.1 52 25)) := zGm_I (Or.inl ⟨rfl, by decide⟩)
        have hd5 : zDm (uL D w.1 g.1) (jPI h4 52 27 (h4.1 52 25)) := by
          have e52 : ∀ i, i ∉ zTt → i ≠ 26 → h4.1 52 i = h2.1 52 i := fun i hi h26 => (hf4.2 i hi).trans (upd_ne h26)
          have eo : ∀ k, k ∉ [52] → h4.1 k = h2.1 k := fun k hk => (hf4.1 k hk).1.trans (by
            show va_up h2.1 52 _ k = _
            unfold va_up
            rw [if_neg (fun e => hk (by rw [e]; decide))])
          obtain ⟨d1, d2, d3, d4, d5⟩ := hd2
          refine ⟨⟨?_, g25, ?_, ?_, ?_, ?_, ?_, ?_⟩, ?_, ?_, ?_, ?_⟩
          · show h4.1 52 26 = nI w.1
            rw [hf4.2 26 (by decide)]; exact h25
          · show h4.1 52 30 = _; rw [e52 30 (by decide) (by decide)]; exact d1.2.2.1
          · show h4.1 52 31 = _; rw [e52 31 (by decide) (by decide)]; exact d1.2.2.2.1
          · show h4.1 52 33 = _; rw [e52 33 (by decide) (by decide)]; exact d1.2.2.2.2.1
          · show h4.1 52 35 = _; rw [e52 35 (by decide) (by decide)]; exact d1.2.2.2.2.2.1
          · show h4.1 52 36 = _; rw [e52 36 (by decide) (by decide)]; exact d1.2.2.2.2.2.2.1
          · show h4.1 52 37 = _; rw [e52 37 (by decide) (by decide)]; exact d1.2.2.2.2.2.2.2
          · show ∀ c, c < 36 → h4.1 62 c = _; rw [eo 62 (by decide)]; exact d2
          · show ∀ t, t < dH D → h4.1 63 t = _; rw [eo 63 (by decide)]; exact d3
          · intro m hm
            exact absurd hm (by have := hM0; show ¬ m < dM D; omega)
          · show ∀ k, k < dN D → h4.1 65 k = _; rw [eo 65 (by decide)]; exact d5
        refine ⟨_, c_signs (n := n) (t := 3) (c := 59) (Or.inl ⟨rfl, rfl⟩) g4 (jPI h4 52 27 (h4.1 52 25)) (zY_g (hG4.trans hG5) hY) ht4, fun v h6 hp => ?_⟩
        obtain ⟨hr6, hf6⟩ := hp
        obtain ⟨s0, es, hnar⟩ := zTr_b hr6
        have hfin := zMo_end hr6 hf6 hd5
        rw [es] at hfin ⊢
        exact q_Moland_88 (n := n + 3) _ h6 ⟨hfin, (hG4.trans hG5).trans (hf6.g (by decide))⟩ hnar
    have e21 : h2.1 52 21 = 2 ↔ ¬ fg B N (sk B N w.2) = sk B N w.2 := by
      rw [ht2.2.1, ← tk_2 hs.2]; exact nI_eq (b := 2) (by omega) (by omega)
    have inE : ∀ (q : h2.1 52 21 = 2), f_Moin ((h2.1 52 22).toInt64) 1 9 = if 1 ≤ mv B N (sk B N w.2) ∧ mv B N (sk B N w.2) ≤ 9 then 1 else 0 := fun q => by
      rw [ht2.2.2.2 ((tk_2 hs.2).mpr (e21.mp q)), z_Moin, z_l, nI_toInt (by omega), show (1 : Int64).toInt = 1 from rfl, show (9 : Int64).toInt = 9 from rfl]
      by_cases e : 1 ≤ mv B N (sk B N w.2) ∧ mv B N (sk B N w.2) ≤ 9
      · rw [if_pos e, if_pos (by omega)]
      · rw [if_neg e, if_neg (by omega)]
    refine q_Moland_7 (n := n + 3) _ h2 (fun q => absurd q one0) (fun _ t i => second ?_) (fun _ t i m => second ?_) (fun _ t i m => ?_) (fun _ _ _ _ => rfl) (fun _ t => second ?_)
    · rw [inE t] at i
      have hno : ¬ (1 ≤ mv B N (sk B N w.2) ∧ mv B N (sk B N w.2) ≤ 9) := fun e => by rw [if_pos e] at i; exact one0 i
      rw [(mv_is w4 (by omega) (e21.mp t)).2 hno, (mv_is w4 hhi (e21.mp t)).2 (fun e => hno ⟨e.1, by have := e.2; split at this <;> omega⟩)]
    · rw [inE t] at i
      have hyes : 1 ≤ mv B N (sk B N w.2) ∧ mv B N (sk B N w.2) ≤ 9 := by
        by_cases e : 1 ≤ mv B N (sk B N w.2) ∧ mv B N (sk B N w.2) ≤ 9
        · exact e
        · rw [if_neg e] at i; exact absurd rfl i
      have m' : w.1 * mv B N (sk B N w.2) ≤ 36 := by
        rw [h25, ht2.2.2.2 ((tk_2 hs.2).mpr (e21.mp t)), pk_mul] at m
        have : w.1 * mv B N (sk B N w.2) ≤ 9 * 9 := Nat.mul_le_mul w2 hyes.2
        exact (nI_leI (b := 36) (by omega) (by omega)).mp m
      rw [(mv_is w4 (by omega) (e21.mp t)).1 hyes, (mv_is w4 hhi (e21.mp t)).1 ⟨hyes.1, by have := (big _).mp m'; split <;> omega⟩]
    · rw [inE t] at i
      have hyes : 1 ≤ mv B N (sk B N w.2) ∧ mv B N (sk B N w.2) ≤ 9 := by
        by_cases e : 1 ≤ mv B N (sk B N w.2) ∧ mv B N (sk B N w.2) ≤ 9
        · exact e
        · rw [if_neg e] at i; exact absurd rfl i
      have m' : ¬ w.1 * mv B N (sk B N w.2) ≤ 36 := fun e => m (by
        rw [h25, ht2.2.2.2 ((tk_2 hs.2).mpr (e21.mp t)), pk_mul]
        exact (nI_leI (b := 36) (by omega) (by omega)).mpr e)
      rw [(mv_is w4 hhi (e21.mp t)).2 (fun e => m' ((big _).mpr (by have := e.2; split at this <;> omega)))]
      exact ⟨⟨rfl, rfl, ht2.1⟩, (hG2.trans (zGm_I (Or.inl ⟨rfl, by decide⟩))).trans (zGm_I (Or.inl ⟨rfl, by decide⟩))⟩
    · have t' : fg B N (sk B N w.2) = sk B N w.2 := by
        by_cases q : fg B N (sk B N w.2) = sk B N w.2
        · exact q
        · exact absurd (e21.mpr q) t
      unfold tNum
      rw [if_pos t', if_pos t']
end TS
