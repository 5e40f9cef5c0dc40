/-! ===== the model's reader: rows, tide, men, places, the whole text ===== -/
theorem z_hasM : ∀ a, a < 512 → ∀ k, k < 9 → (((nI a >>> (nI k &&& 31)) &&& 1) = 1 ↔ a.testBit k = true) := by decide +kernel
theorem zTr_x {B : Nat → Nat} {N : Nat} {v : Option Value} {h : HP} {r : ZE ⊕ (Nat × Nat)} (hr : zTr B N v h (ps r)) : (∃ f, r = .inl f ∧ v = some (.int 0) ∧ h.1 52 23 = nI f.1 ∧ h.1 52 20 = nI f.2) ∨ ∃ x, r = .inr x ∧ v = some (.int 1) ∧ zTk B N (sk B N x.2) h := by
  cases r with
  | inl f => exact Or.inl ⟨f, rfl, hr⟩
  | inr x => exact Or.inr ⟨x, rfl, hr⟩
section TR
variable {E : jEnv} {n : Nat} {X : State → Prop} {P : Option Value → HP → Prop} {B : Nat → Nat} {N : Nat}
theorem zm_rowR {h0 : HP} (hY : zY B N h0) {y : Nat} {res : ZE ⊕ (ZD × Nat)} (kx : ∀ v h, zGm h0 h → zMo B N v h res → P v h) : ∀ (k x : Nat) (D : ZD) (a : Nat) (h : HP), x + k = dW D → y < dG D → zDok D → a ≤ N → zGm h0 h → zTk B N (sk B N a) h → zDm D h → res = tRowL B N y k x D a → jG E mX8_row (n + 4) X P 83 [some (.ref 52), some (.int (nI y)), some (.int (nI x))] [] h := by
  intro k
  induction k with
  | zero =>
    intro x D a h hx hy hD ha hf ht hd er
    have hle : h.1 52 26 ≤ nI x := by rw [hd.1.1, show x = dW D by omega]; exact Int32.le_refl _
    have er' : res = bnd (tSgn B N 59 a) (fun e => .inr (D, e)) := er
    refine q_Morow_83 (n := n + 3) _ _ h (fun _ => ?_) (fun c => absurd hle c) (fun c => absurd hle c)
    refine ⟨_, c_signs (n := n) (t := 3) (c := 59) (Or.inl ⟨rfl, rfl⟩) ha h (zY_g hf hY) ht, fun v h2 hp => ?_⟩
    obtain ⟨hr2, hf2⟩ := hp
    obtain ⟨s0, es, hnar⟩ := zTr_b hr2
    have hfin := kx v h2 (hf.trans (hf2.g (by decide))) (by rw [er']; exact zMo_end hr2 hf2 hd)
    rw [es] at hfin ⊢
    exact q_Morow_145 (n := n + 3) _ h2 hfin hnar
  | succ k ih =>
    intro x D a h hx hy hD ha hf ht hd er
    have hw9 := hD.1.2
    have hlt : ¬ h.1 52 26 ≤ nI x := by rw [hd.1.1]; exact nI_ge (by omega) (by omega)
    have hcell : dW D * y + x < dW D * dG D := z_lin (by omega) hy
    have h36 := hD.2.2.1
    have er' : res = bnd (if x = 0 then .inr a else tSgn B N 44 a) (fun b => bnd (tNum B N 0 9 b) (fun v => tRowL B N y k (x + 1) (uO D (dW D * y + x) v.1) v.2)) := er
    have num : ∀ (b : Nat) (h1 : HP), (if x = 0 then .inr a else tSgn B N 44 a) = .inr b → b ≤ N → zF52 zTt h h1 → zTk B N (sk B N b) h1 → jCall E mX8_takes (n + 3) [.ref 52, .int 0, .int 9] h1 (fun v h2 => jG E mX8_row (n + 4) X P 112 [some (.ref 52), some (.int (nI y)), some (.int (nI x))] (v.toList ++ []) h2) := fun b h1 eb hb hf1 ht1 => by
      rw [eb] at er'
      have er2 : res = bnd (tNum B N 0 9 b) (fun v => tRowL B N y k (x + 1) (uO D (dW D * y + x) v.1) v.2) := er'
      have hF1 := hf.trans (hf1.g (by decide))
      refine ⟨_, c_takes (n := n) (lo := 0) (hi := 9) hb (by omega) (by omega) h1 (zY_g hF1 hY) ht1, fun v h4 hp => ?_⟩
      obtain ⟨hr4, hf4, hg4⟩ := hp
      have hF4 := hF1.trans (hf4.g (by decide))
      have hd4 := zDm_52 (hf1.trans hf4) (by decide) hd
      rcases zTr_x hr4 with ⟨f, q, ev, e1, e2⟩ | ⟨x', q, ev, ht4⟩
      · rw [ev]
        rw [q] at er2
        refine q_Morow_112 (n := n + 3) _ _ _ h4 (fun _ => ?_) (fun w => absurd rfl w) (fun w => absurd rfl w)
        exact kx _ h4 hF4 (by rw [er2]; exact ⟨rfl, e1, e2⟩)
      · rw [ev]
        rw [q] at er2
        obtain ⟨x1, x2, x3, x4⟩ := tNum_ok hb (show tNum B N 0 9 b = .inr (x'.1, x'.2) from q)
        have h25 := hg4 x' q
        have ecell : h4.1 52 26 * nI y + nI x = nI (dW D * y + x) := by rw [hd4.1.1, pk_mul, nI_add]
        refine q_Morow_112 (n := n + 3) _ _ _ h4 (fun w => absurd w one0) (fun _ => by rw [ecell]; exact z_vp (by omega) (by omega)) (fun _ => ?_)
        rw [ecell, nI_clamp (by omega), nI_1, h25]
        have hD2 : zDok (uO D (dW D * y + x) x'.1) := by
          obtain ⟨g1, g2, g3, g4, g5, g6, g7, g8, g9, g10, g11, g12, g13⟩ := hD
          exact ⟨g1, g2, g3, g4, g5, g6, g7, g8, g9, up1_bnd x2 g10, g11, g12, g13⟩
        refine ih (x + 1) (uO D (dW D * y + x) x'.1) x'.2 _ (by show x + 1 + k = dW D; omega) hy hD2 x4 (hF4.trans (zGm_I (Or.inr (Or.inl rfl)))) ht4 ?_ er2
        obtain ⟨d1, d2, d3, d4, d5⟩ := hd4
        exact ⟨d1, fun c hc => updn (d2 c hc), d3, d4, d5⟩
    refine q_Morow_83 (n := n + 3) _ _ h (fun c => absurd c hlt) (fun _ w => ?_) (fun _ w => ?_)
    · have hx0 : x = 0 := by
        rcases Nat.eq_zero_or_pos x with q | q
        · exact q
        · exact absurd w (nI_nle q (by omega))
      exact num a h (by rw [if_pos hx0]) ha (zF52.refl _ h) ht
    · have hx0 : ¬ x = 0 := fun e => w (by rw [e]; decide)
      refine ⟨_, c_signs (n := n) (t := 4) (c := 44) (Or.inr ⟨rfl, rfl⟩) ha h (zY_g hf hY) ht, fun v h2 hp => ?_⟩
      obtain ⟨hr2, hf2⟩ := hp
      cases q : tSgn B N 44 a with
      | inl f =>
        rw [q] at hr2
        obtain ⟨ev, e1, e2⟩ := hr2
        rw [ev]
        rw [if_neg hx0, q] at er'
        exact q_Morow_100 (n := n + 3) _ _ _ h2 (fun _ => kx _ h2 (hf.trans (hf2.g (by decide))) (by rw [er']; exact ⟨rfl, e1, e2⟩)) (fun w => absurd rfl w)
      | inr b =>
        rw [q] at hr2
        obtain ⟨ev, ht2⟩ := hr2
        rw [ev]
        exact q_Morow_100 (n := n + 3) _ _ _ h2 (fun w => absurd w one0) (fun _ => num b h2 (by rw [if_neg hx0, q]) (tSgn_ok ha q).2 hf2 ht2)
theorem c_Morow {D : ZD} {a : Nat} (hD : zDok D) (ha : a ≤ N) (h : HP) (hY : zY B N h) (ht : zTk B N (sk B N a) h) (hd : zDm D h) : jC E mX8_row (n + 4) [.ref 52] h (fun v h2 => zMo B N v h2 (tRow B N D a) ∧ zGm h h2) := by
  have hN := hY.1
  have hg9 := hD.2.1
  have hR : dR D < 512 := hD.2.2.2.2.2.2.2.1
  have hs := sk_le (B := B) ha
  have htk := tk_lt B N (sk B N a)
  have hmv := mv_lt (B := B) hs.2
  have eg : h.1 52 27 - 1 = nI (dG D - 1) := by rw [hd.1.2.1]; exact pk_sub (b := 1) (by omega)
  have e21 : h.1 52 21 = 2 ↔ ¬ fg B N (sk B N a) = sk B N a := by
    rw [ht.2.1, ← tk_2 hs.2]; exact nI_eq (b := 2) (by omega) (by omega)
  have inE : ∀ (q : h.1 52 21 = 2), f_Moin ((h.1 52 22).toInt64) 0 ((h.1 52 27 - 1).toInt64) = if 0 ≤ mv B N (sk B N a) ∧ mv B N (sk B N a) ≤ dG D - 1 then 1 else 0 := fun q => by
    rw [eg, ht.2.2.2 ((tk_2 hs.2).mpr (e21.mp q)), z_Moin, z_l, z_l, nI_toInt (by omega), nI_toInt (by omega), show (0 : Int64).toInt = 0 from rfl]
    by_cases e : 0 ≤ mv B N (sk B N a) ∧ mv B N (sk B N a) ≤ dG D - 1
    · rw [if_pos e, if_pos (by omega)]
    · rw [if_neg e, if_neg (by omega)]
  have call : (∀ x, tNum B N 0 (dG D - 1) a = .inr x → (dR D).testBit x.1 = false) → jCall E mX8_takes (n + 3) [.ref 52, .int 0, .int (h.1 52 27 - 1)] h (fun v h2 => jG E mX8_row (n + 4) (fun _ => True) (fun v h2 => zMo B N v h2 (tRow B N D a) ∧ zGm h h2) 59 [some (.ref 52), none, none] (v.toList ++ []) h2) := fun hno => by
    rw [eg]
    refine ⟨_, c_takes (n := n) (lo := 0) (hi := dG D - 1) ha (by omega) (by omega) h hY ht, fun v h2 hp => ?_⟩
    obtain ⟨hr2, hf2, hg2⟩ := hp
    have hF2 : zGm h h2 := hf2.g (by decide)
    have hd2 := zDm_52 hf2 (by decide) hd
    rcases zTr_x hr2 with ⟨f, q, ev, e1, e2⟩ | ⟨x, q, ev, ht2⟩
    · rw [ev]
      have et : tRow B N D a = .inl f := by unfold tRow; rw [q]; rfl
      exact q_Morow_59 (n := n + 3) _ h2 (fun _ => ⟨by rw [et]; exact ⟨rfl, e1, e2⟩, hF2⟩) (fun w => absurd rfl w)
    · rw [ev]
      obtain ⟨x1, x2, x3, x4⟩ := tNum_ok ha (show tNum B N 0 (dG D - 1) a = .inr (x.1, x.2) from q)
      have h25 := hg2 x q
      have et : tRow B N D a = tRowL B N x.1 (dW D) 0 (uR D (dR D ||| 2 ^ x.1)) x.2 := by
        unfold tRow; rw [q]
        show (if (dR D).testBit x.1 = true then _ else _) = _
        rw [if_neg (by rw [hno x q]; decide)]
      refine q_Morow_59 (n := n + 3) _ h2 (fun w => absurd w one0) (fun _ => ?_)
      rw [h25, hd2.1.2.2.2.2.2.2.1, z_1shl9 x.1 (by omega), fa_or]
      have hD2 : zDok (uR D (dR D ||| 2 ^ x.1)) := by
        obtain ⟨g1, g2, g3, g4, g5, g6, g7, g8, g9, g10, g11, g12, g13⟩ := hD
        refine ⟨g1, g2, g3, g4, g5, g6, g7, ?_, g9, g10, g11, g12, g13⟩
        exact Nat.or_lt_two_pow (n := 9) g8 (Nat.pow_lt_pow_right (by omega) (by omega))
      refine zm_rowR (h0 := h) hY (y := x.1) (fun v h5 hf5 ho => ⟨ho, hf5⟩) (dW D) 0 (uR D (dR D ||| 2 ^ x.1)) x.2 _ (by show 0 + dW D = dW D; omega) (by show x.1 < dG D; omega) hD2 x4 (hF2.trans (zGm_I (Or.inl ⟨rfl, by decide⟩))) ht2 ?_ et
      obtain ⟨d1, d2, d3, d4, d5⟩ := hd2
      exact ⟨⟨d1.1, d1.2.1, d1.2.2.1, d1.2.2.2.1, d1.2.2.2.2.1, d1.2.2.2.2.2.1, rfl, d1.2.2.2.2.2.2.2⟩, d2, d3, d4, d5⟩
  refine jC.of (lv := [some (.ref 52), none, none]) (by decide) (Nat.le_of_ble_eq_true rfl) ⟨rfl, trivial⟩ (q_Morow_0 (n := n + 3) h (fun t i => call (fun x q => ?_)) (fun t i w => ?_) (fun _ _ _ => rfl) (fun t i w => call (fun x q => ?_)) (fun t => call (fun x q => ?_)))
  · rw [inE t] at i
    have hno : ¬ (0 ≤ mv B N (sk B N a) ∧ mv B N (sk B N a) ≤ dG D - 1) := fun e => by rw [if_pos e] at i; exact one0 i
    rw [(mv_is ha (by omega) (e21.mp t)).2 hno] at q
    cases q
  · rw [inE t] at i
    have hyes : 0 ≤ mv B N (sk B N a) ∧ mv B N (sk B N a) ≤ dG D - 1 := by
      by_cases e : 0 ≤ mv B N (sk B N a) ∧ mv B N (sk B N a) ≤ dG D - 1
      · exact e
      · rw [if_neg e] at i; exact absurd rfl i
    rw [ht.2.2.2 ((tk_2 hs.2).mpr (e21.mp t)), hd.1.2.2.2.2.2.2.1] at w
    have hb := (z_hasM _ hR (mv B N (sk B N a)) (by omega)).mp w
    have et : tRow B N D a = .inl (4, sk B N a) := by
      unfold tRow
      rw [(mv_is ha (by omega) (e21.mp t)).1 hyes]
      show (if (dR D).testBit (mv B N (sk B N a)) = true then _ else _) = _
      rw [if_pos hb]
    rw [et]
    exact ⟨⟨rfl, rfl, ht.1⟩, zGm_I (Or.inl ⟨rfl, by decide⟩)⟩
  · rw [inE t] at i
    have hyes : 0 ≤ mv B N (sk B N a) ∧ mv B N (sk B N a) ≤ dG D - 1 := by
      by_cases e : 0 ≤ mv B N (sk B N a) ∧ mv B N (sk B N a) ≤ dG D - 1
      · exact e
      · rw [if_neg e] at i; exact absurd rfl i
    rw [(mv_is ha (by omega) (e21.mp t)).1 hyes] at q
    cases q
    rw [ht.2.2.2 ((tk_2 hs.2).mpr (e21.mp t)), hd.1.2.2.2.2.2.2.1] at w
    cases e : (dR D).testBit (mv B N (sk B N a))
    · rfl
    · exact absurd ((z_hasM _ hR (mv B N (sk B N a)) (by omega)).mpr e) w
  · have t' : fg B N (sk B N a) = sk B N a := by
      by_cases q : fg B N (sk B N a) = sk B N a
      · exact q
      · exact absurd (e21.mpr q) t
    unfold tNum at q
    rw [if_pos t'] at q
    cases q
theorem zm_tideR {h0 : HP} (hY : zY B N h0) {res : ZE ⊕ (ZD × Nat)} (kx : ∀ v h, zGm h0 h → zMo B N v h res → P v h) : ∀ (k : Nat) (D : ZD) (a : Nat) (h : HP), dH D + k = 6 → 0 < dH D → zDok D → a ≤ N → zGm h0 h → zTk B N (sk B N a) h → zDm D h → res = tTideL B N k D a → jG E mX8_tides (n + 4) X P 44 [some (.ref 52)] [] h := by
  intro k
  have semi : ∀ (D : ZD) (a : Nat) (h : HP), a ≤ N → zGm h0 h → zTk B N (sk B N a) h → zDm D h → res = bnd (tSgn B N 59 a) (fun e => .inr (D, e)) → jCall E mX8_signs (n + 3) [.ref 52, .int 3] h (fun v h2 => jG E mX8_tides (n + 4) X P 108 [none] (v.toList ++ []) h2) := fun D a h ha hf ht hd er => by
    refine ⟨_, c_signs (n := n) (t := 3) (c := 59) (Or.inl ⟨rfl, rfl⟩) ha h (zY_g hf hY) ht, fun v h2 hp => ?_⟩
    obtain ⟨hr2, hf2⟩ := hp
    obtain ⟨s0, es, hnar⟩ := zTr_b hr2
    have hfin := kx v h2 (hf.trans (hf2.g (by decide))) (by rw [er]; exact zMo_end hr2 hf2 hd)
    rw [es] at hfin ⊢
    exact q_Motides_108 (n := n + 3) _ h2 hfin hnar
  induction k with
  | zero =>
    intro D a h hk h0' hD ha hf ht hd er
    have h6 : (6 : Int32) ≤ h.1 52 30 := by rw [hd.1.2.2.1, show dH D = 6 by omega]; decide
    exact q_Motides_44 (n := n + 3) h (fun _ _ => semi D a h ha hf ht hd er) (fun _ c => absurd h6 c) (fun _ => semi D a h ha hf ht hd er)
  | succ k ih =>
    intro D a h hk h0' hD ha hf ht hd er
    have hN := hY.1
    have hs := sk_le (B := B) ha
    have htk := tk_lt B N (sk B N a)
    have h6 : ¬ (6 : Int32) ≤ h.1 52 30 := by rw [hd.1.2.2.1, show (6 : Int32) = nI 6 from rfl]; exact nI_ge (by omega) (by omega)
    obtain ⟨k1, k2⟩ := tk_sgn (B := B) (N := N) (s := sk B N a) (t := 4) (c := 44) hs.2 (Or.inr ⟨rfl, rfl⟩)
    have e21 : h.1 52 21 = 4 ↔ sk B N a < N ∧ B (sk B N a) = 44 := by
      rw [ht.2.1, ← k1]; exact nI_eq (b := 4) (by omega) (by omega)
    have er' : res = if sk B N a < N ∧ B (sk B N a) = 44 then bnd (tNum B N 0 9 (sk B N a + 1)) (fun v => tTideL B N k (uT D (dH D) v.1) v.2) else bnd (tSgn B N 59 a) (fun e => .inr (D, e)) := er
    refine q_Motides_44 (n := n + 3) h (fun _ c => absurd c h6) (fun w _ => ?_) (fun w => ?_)
    · have w' := e21.mp w
      rw [if_pos w'] at er'
      have hsN : sk B N a + 1 ≤ N := by omega
      refine ⟨_, c_scans (n := n + 1) (a := sk B N a + 1) hsN h (zY_g hf hY) (by rw [ht.2.2.1, k2 w']), fun v h2 hp => ?_⟩
      obtain ⟨ev, hf2, ht2⟩ := hp
      rw [ev]
      refine q_Motides_65 (n := n + 3) h2 ?_
      have hF2 := hf.trans (hf2.g (by decide))
      refine ⟨_, c_takes (n := n) (lo := 0) (hi := 9) hsN (by omega) (by omega) h2 (zY_g hF2 hY) ht2, fun v h4 hp => ?_⟩
      obtain ⟨hr4, hf4, hg4⟩ := hp
      have hF4 := hF2.trans (hf4.g (by decide))
      have hd4 := zDm_52 hf4 (by decide) (zDm_52 hf2 (by decide) hd)
      rcases zTr_x hr4 with ⟨f, q, ev4, e1, e2⟩ | ⟨x, q, ev4, ht4⟩
      · rw [ev4]
        rw [q] at er'
        exact q_Motides_72 (n := n + 3) _ h4 (fun _ => kx _ h4 hF4 (by rw [er']; exact ⟨rfl, e1, e2⟩)) (fun w => absurd rfl w) (fun w => absurd rfl w)
      · rw [ev4]
        rw [q] at er'
        obtain ⟨x1, x2, x3, x4⟩ := tNum_ok hsN (show tNum B N 0 9 (sk B N a + 1) = .inr (x.1, x.2) from q)
        have h25 := hg4 x q
        refine q_Motides_72 (n := n + 3) _ h4 (fun w => absurd w one0) (fun _ => by rw [hd4.1.2.2.1]; exact z_vp (by omega) (by omega)) (fun _ => ?_)
        rw [hd4.1.2.2.1, nI_clamp (by omega), nI_1, h25]
        refine ih (uT D (dH D) x.1) x.2 _ (by show dH D + 1 + k = 6; omega) (by show 0 < dH D + 1; omega) (uT_ok hD (by omega) x2) x4 ((hF4.trans (zGm_I (Or.inr (Or.inr (Or.inl rfl))))).trans (zGm_I (Or.inl ⟨rfl, by decide⟩))) ht4 ?_ er'
        obtain ⟨d1, d2, d3, d4, d5⟩ := hd4
        refine ⟨⟨d1.1, d1.2.1, rfl, d1.2.2.2.1, d1.2.2.2.2.1, d1.2.2.2.2.2.1, d1.2.2.2.2.2.2.1, d1.2.2.2.2.2.2.2⟩, d2, fun t htt => ?_, d4, d5⟩
        have htt' : t < dH D + 1 := htt
        show upd (h4.1 63) (dH D) (nI x.1) t = nI (up1 (dH D) x.1 (dT D) t)
        unfold up1
        by_cases et : t = dH D
        · rw [et, upd_eq, if_pos rfl]
        · rw [upd_ne et, if_neg et]; exact d3 t (by omega)
    · rw [if_neg (fun q => w (e21.mpr q))] at er'
      exact semi D a h ha hf ht hd er'
theorem c_Motides {D : ZD} {s e : Nat} (hD : zDok D) (he : e ≤ N) (h : HP) (hY : zY B N h) (h20 : h.1 52 20 = nI s) (h19 : h.1 52 19 = nI e) (hd : zDm D h) : jC E mX8_tides (n + 4) [.ref 52] h (fun v h2 => zMo B N v h2 (tTide B N D s e) ∧ zGm h h2) := by
  have hH : dH D ≤ 6 := hD.2.2.2.1
  refine jC.of (lv := [some (.ref 52)]) (by decide) (Nat.le_of_ble_eq_true rfl) ⟨rfl, trivial⟩ (q_Motides_0 (n := n + 3) h (fun w => ?_) (fun w => ?_) (fun _ => rfl))
  · have h0 : dH D = 0 := by
      rcases Nat.eq_zero_or_pos (dH D) with q | q
      · exact q
      · rw [hd.1.2.2.1] at w; exact absurd w (nI_nle q (by omega))
    have et : tTide B N D s e = bnd (tNum B N 0 9 e) (fun v => tTideL B N 5 (uT D 0 v.1) v.2) := by unfold tTide; rw [if_pos h0]
    refine ⟨_, c_scans (n := n + 1) (a := e) he h hY h19, fun v h2 hp => ?_⟩
    obtain ⟨ev, hf2, ht2⟩ := hp
    rw [ev]
    refine q_Motides_17 (n := n + 3) h2 ?_
    have hF2 : zGm h h2 := hf2.g (by decide)
    refine ⟨_, c_takes (n := n) (lo := 0) (hi := 9) he (by omega) (by omega) h2 (zY_g hF2 hY) ht2, fun v h4 hp => ?_⟩
    obtain ⟨hr4, hf4, hg4⟩ := hp
    have hF4 := hF2.trans (hf4.g (by decide))
    have hd4 := zDm_52 hf4 (by decide) (zDm_52 hf2 (by decide) hd)
    rcases zTr_x hr4 with ⟨f, q, ev4, e1, e2⟩ | ⟨x, q, ev4, ht4⟩
    · rw [ev4]
      rw [q] at et
      exact q_Motides_24 (n := n + 3) _ h4 (fun _ => ⟨by rw [et]; exact ⟨rfl, e1, e2⟩, hF4⟩) (fun w => absurd rfl w)
    · rw [ev4]
      rw [q] at et
      obtain ⟨x1, x2, x3, x4⟩ := tNum_ok he (show tNum B N 0 9 e = .inr (x.1, x.2) from q)
      have h25 := hg4 x q
      refine q_Motides_24 (n := n + 3) _ h4 (fun w => absurd w one0) (fun _ => ?_)
      rw [h25]
      refine zm_tideR (h0 := h) hY (fun v h5 hf5 ho => ⟨ho, hf5⟩) 5 (uT D 0 x.1) x.2 _ rfl (by show 0 < 0 + 1; omega) (uT_ok hD (by omega) x2) x4 ((hF4.trans (zGm_I (Or.inr (Or.inr (Or.inl rfl))))).trans (zGm_I (Or.inl ⟨rfl, by decide⟩))) ht4 ?_ et
      obtain ⟨d1, d2, d3, d4, d5⟩ := hd4
      refine ⟨⟨d1.1, d1.2.1, rfl, d1.2.2.2.1, d1.2.2.2.2.1, d1.2.2.2.2.2.1, d1.2.2.2.2.2.2.1, d1.2.2.2.2.2.2.2⟩, d2, fun t htt => ?_, d4, d5⟩
      have htt' : t < 0 + 1 := htt
      obtain rfl : t = 0 := by omega
      show nI x.1 = nI (up1 0 x.1 (dT D) 0)
      unfold up1
      rw [if_pos rfl]
  · have h0 : ¬ dH D = 0 := fun e => w (by rw [hd.1.2.2.1, e]; decide)
    have et : tTide B N D s e = .inl (3, s) := by unfold tTide; rw [if_neg h0]
    rw [et]
    exact ⟨⟨rfl, rfl, h20⟩, zGm_I (Or.inl ⟨rfl, by decide⟩)⟩
theorem z_3x (m : Nat) : 3 * nI m = nI (3 * m) := pk_mul 3 m
theorem c_Mosomebody {D : ZD} {s e : Nat} (hD : zDok D) (he : e ≤ N) (h : HP) (hY : zY B N h) (h20 : h.1 52 20 = nI s) (h19 : h.1 52 19 = nI e) (hd : zDm D h) : jC E mX8_somebody (n + 5) [.ref 52] h (fun v h2 => zMo B N v h2 (tMan B N D s e) ∧ zGm h h2) := by
  have hM4 : dM D ≤ 4 := hD.2.2.2.2.1
  have hw9 := hD.1
  have h36 := hD.2.2.1
  have e4 : h.1 52 31 = 4 ↔ dM D = 4 := by rw [hd.1.2.2.2.1]; exact nI_eq (b := 4) (by omega) (by omega)
  refine jC.of (lv := [some (.ref 52)]) (by decide) (Nat.le_of_ble_eq_true rfl) ⟨rfl, trivial⟩ (q_Mosomebody_0 (n := n + 4) h (fun w => ?_) (fun _ => rfl) (fun w => ?_))
  · have et : tMan B N D s e = .inl (3, s) := by unfold tMan; rw [if_pos (e4.mp w)]
    rw [et]
    exact ⟨⟨rfl, rfl, h20⟩, zGm_I (Or.inl ⟨rfl, by decide⟩)⟩
  · have hne : ¬ dM D = 4 := fun q => w (e4.mpr q)
    have et : tMan B N D s e = bnd (tCel B N (dW D) (dG D) e) (fun c => bnd (tNum B N 0 6 c.2) (fun l => bnd (tSgn B N 59 l.2) (fun e => .inr (uM D c.1 l.1, e)))) := by unfold tMan; rw [if_neg hne]
    refine ⟨_, c_scans (n := n + 2) (a := e) he h hY h19, fun v h2 hp => ?_⟩
    obtain ⟨ev, hf2, ht2⟩ := hp
    rw [ev]
    refine q_Mosomebody_18 (n := n + 4) h2 ?_
    have hF2 : zGm h h2 := hf2.g (by decide)
    have hd2 := zDm_52 hf2 (by decide) hd
    refine ⟨_, c_spot (n := n) hD.1 hD.2.1 he h2 (zY_g hF2 hY) ht2 hd2.1.1 hd2.1.2.1, fun v h3 hp => ?_⟩
    obtain ⟨hr3, hf3, hg3⟩ := hp
    have hF3 := hF2.trans (hf3.g (by decide))
    have hd3 := zDm_52 hf3 (by decide) hd2
    rcases zTr_x hr3 with ⟨f, q, ev3, e1, e2⟩ | ⟨c, q, ev3, ht3⟩
    · rw [ev3]
      rw [q] at et
      exact q_Mosomebody_22 (n := n + 4) _ h3 (fun _ => ⟨by rw [et]; exact ⟨rfl, e1, e2⟩, hF3⟩) (fun w => absurd rfl w) (fun w => absurd rfl w) (fun w => absurd rfl w) (fun w => absurd rfl w) (fun w => absurd rfl w)
    · rw [ev3]
      rw [q] at et
      obtain ⟨c1, c2, c3⟩ := tCel_ok hD.1.1 hD.2.1.1 he (show tCel B N (dW D) (dG D) e = .inr (c.1, c.2) from q)
      have h25 := hg3 c q
      have hne0 : ¬ h3.1 52 26 = 0 := by rw [hd3.1.1]; exact nI_ne0 (by omega) (by omega)
      refine q_Mosomebody_22 (n := n + 4) _ h3 (fun w => absurd w one0) (fun _ => hne0) (fun _ => by rw [hd3.1.2.2.2.1, z_3x]; exact z_vp (by omega) (by omega)) (fun _ => hne0) (fun _ => by rw [hd3.1.2.2.2.1, z_3x, nI_1]; exact z_vp (by omega) (by omega)) (fun _ => ?_)
      rw [hd3.1.2.2.2.1, z_3x, nI_1, nI_clamp (by omega), nI_clamp (by omega), h25, hd3.1.1, pk_rem (by omega) (by omega) (by omega), pk_div (by omega) (by omega) (by omega)]
      have hG4 : zGm h3 (jPI (jPI h3 64 (3 * dM D) (nI (c.1 % dW D))) 64 (3 * dM D + 1) (nI (c.1 / dW D))) := (zGm_I (Or.inr (Or.inr (Or.inr (Or.inl rfl))))).trans (zGm_I (Or.inr (Or.inr (Or.inr (Or.inl rfl)))))
      have hF4 := hF3.trans hG4
      refine ⟨_, c_takes (n := n + 1) (lo := 0) (hi := 6) c3 (by omega) (by omega) _ (zY_g hF4 hY) ht3, fun v h5 hp => ?_⟩
      obtain ⟨hr5, hf5, hg5⟩ := hp
      have hF5 := hF4.trans (hf5.g (by decide))
      have et2 : tMan B N D s e = bnd (tNum B N 0 6 c.2) (fun l => bnd (tSgn B N 59 l.2) (fun e => .inr (uM D c.1 l.1, e))) := et
      rcases zTr_x hr5 with ⟨f, q5, ev5, e1, e2⟩ | ⟨l, q5, ev5, ht5⟩
      · rw [ev5]
        rw [q5] at et2
        exact q_Mosomebody_76 (n := n + 4) _ h5 (fun _ => ⟨by rw [et2]; exact ⟨rfl, e1, e2⟩, hF5⟩) (fun w => absurd rfl w) (fun w => absurd rfl w)
      · rw [ev5]
        rw [q5] at et2
        have et3 : tMan B N D s e = bnd (tSgn B N 59 l.2) (fun e => .inr (uM D c.1 l.1, e)) := et2
        obtain ⟨_, l2, _, l4⟩ := tNum_ok c3 (show tNum B N 0 6 c.2 = .inr (l.1, l.2) from q5)
        have l25 := hg5 l q5
        have e31 : h5.1 52 31 = nI (dM D) := by rw [hf5.2 31 (by decide)]; exact hd3.1.2.2.2.1
        refine q_Mosomebody_76 (n := n + 4) _ h5 (fun w => absurd w one0) (fun _ => by rw [e31, z_3x, show nI (3 * dM D) + 2 = nI (3 * dM D + 2) from nI_add _ 2]; exact z_vp (by omega) (by omega)) (fun _ => ?_)
        rw [e31, z_3x, show nI (3 * dM D) + 2 = nI (3 * dM D + 2) from nI_add _ 2, nI_clamp (by omega), nI_1, l25]
        have hG6 : zGm h5 (jPI (jPI h5 64 (3 * dM D + 2) (nI l.1)) 52 31 (nI (dM D + 1))) := (zGm_I (Or.inr (Or.inr (Or.inr (Or.inl rfl))))).trans (zGm_I (Or.inl ⟨rfl, by decide⟩))
        have hF6 := hF5.trans hG6
        have hd6 : zDm (uM D c.1 l.1) (jPI (jPI h5 64 (3 * dM D + 2) (nI l.1)) 52 31 (nI (dM D + 1))) := by
          have e52 : ∀ i, i ∉ zTt → h5.1 52 i = h3.1 52 i := fun i hi => hf5.2 i hi
          have e64 : h5.1 64 = upd (upd (h3.1 64) (3 * dM D) (nI (c.1 % dW D))) (3 * dM D + 1) (nI (c.1 / dW D)) := (hf5.1 64 (by decide)).1
          obtain ⟨d1, d2, d3, d4, d5⟩ := hd3
          refine ⟨⟨?_, ?_, ?_, rfl, ?_, ?_, ?_, ?_⟩, ?_, ?_, fun m hm => ?_, ?_⟩
          · show h5.1 52 26 = _; rw [e52 26 (by decide)]; exact d1.1
          · show h5.1 52 27 = _; rw [e52 27 (by decide)]; exact d1.2.1
          · show h5.1 52 30 = _; rw [e52 30 (by decide)]; exact d1.2.2.1
          · show h5.1 52 33 = _; rw [e52 33 (by decide)]; exact d1.2.2.2.2.1
          · show h5.1 52 35 = _; rw [e52 35 (by decide)]; exact d1.2.2.2.2.2.1
          · show h5.1 52 36 = _; rw [e52 36 (by decide)]; exact d1.2.2.2.2.2.2.1
          · show h5.1 52 37 = _; rw [e52 37 (by decide)]; exact d1.2.2.2.2.2.2.2
          · show ∀ c, c < 36 → h5.1 62 c = _; rw [(hf5.1 62 (by decide)).1]; exact d2
          · show ∀ t, t < dH D → h5.1 63 t = _; rw [(hf5.1 63 (by decide)).1]; exact d3
          · have hm' : m < dM D + 1 := hm
            show upd (h5.1 64) (3 * dM D + 2) (nI l.1) (3 * m) = nI (up1 (dM D) c.1 (dX D) m % dW D) ∧ upd (h5.1 64) (3 * dM D + 2) (nI l.1) (3 * m + 1) = nI (up1 (dM D) c.1 (dX D) m / dW D) ∧ upd (h5.1 64) (3 * dM D + 2) (nI l.1) (3 * m + 2) = nI (up1 (dM D) l.1 (dS D) m)
            rw [e64]
            unfold up1
            by_cases em : m = dM D
            · rw [em, if_pos rfl, if_pos rfl, upd_eq, upd_ne (by omega), upd_ne (by omega), upd_eq, upd_ne (by omega), upd_eq]
              exact ⟨rfl, rfl, rfl⟩
            · rw [if_neg em, if_neg em, upd_ne (by omega), upd_ne (by omega), upd_ne (by omega), upd_ne (by omega), upd_ne (by omega), upd_ne (by omega), upd_ne (by omega), upd_ne (by omega), upd_ne (by omega)]
              exact d4 m (by omega)
          · show ∀ k, k < dN D → h5.1 65 k = _; rw [(hf5.1 65 (by decide)).1]; exact d5
        refine ⟨_, c_signs (n := n + 1) (t := 3) (c := 59) (Or.inl ⟨rfl, rfl⟩) l4 _ (zY_g hF6 hY) ht5, fun v h7 hp => ?_⟩
        obtain ⟨hr7, hf7⟩ := hp
        obtain ⟨s0, es, hnar⟩ := zTr_b hr7
        have hfin := zMo_end hr7 hf7 hd6
        rw [es] at hfin ⊢
        exact q_Mosomebody_113 (n := n + 4) _ h7 ⟨by rw [et3]; exact hfin, hF6.trans (hf7.g (by decide))⟩ hnar
theorem c_Monews {D : ZD} {s e : Nat} (hD : zDok D) (he : e ≤ N) (h : HP) (hY : zY B N h) (h20 : h.1 52 20 = nI s) (h19 : h.1 52 19 = nI e) (hd : zDm D h) : jC E mX8_place (n + 5) [.ref 52, .int 1] h (fun v h2 => zMo B N v h2 (tNews B N D s e) ∧ zGm h h2) := by
  have hN4 : dN D ≤ 4 := hD.2.2.2.2.2.1
  have e4 : h.1 52 33 = 4 ↔ dN D = 4 := by rw [hd.1.2.2.2.2.1]; exact nI_eq (b := 4) (by omega) (by omega)
  refine jC.of (lv := [some (.ref 52), some (.int 1)]) (by decide) (Nat.le_of_ble_eq_true rfl) ⟨rfl, rfl, trivial⟩ (q_Moplace_0 (n := n + 4) _ h (fun w => absurd w one0) (fun w => absurd w one0) (fun w => absurd w one0) (fun _ w => ?_) (fun _ _ => rfl) (fun _ w => ?_))
  · have et : tNews B N D s e = .inl (3, s) := by unfold tNews; rw [if_pos (e4.mp w)]
    rw [et]
    exact ⟨⟨rfl, rfl, h20⟩, zGm_I (Or.inl ⟨rfl, by decide⟩)⟩
  · have hne : ¬ dN D = 4 := fun q => w (e4.mpr q)
    have et : tNews B N D s e = bnd (tCel B N (dW D) (dG D) e) (fun c => bnd (tSgn B N 59 c.2) (fun e => .inr (uN D c.1, e))) := by unfold tNews; rw [if_neg hne]
    refine ⟨_, c_scans (n := n + 2) (a := e) he h hY h19, fun v h2 hp => ?_⟩
    obtain ⟨ev, hf2, ht2⟩ := hp
    rw [ev]
    refine q_Moplace_32 (n := n + 4) _ h2 ?_
    have hF2 : zGm h h2 := hf2.g (by decide)
    have hd2 := zDm_52 hf2 (by decide) hd
    refine ⟨_, c_spot (n := n) hD.1 hD.2.1 he h2 (zY_g hF2 hY) ht2 hd2.1.1 hd2.1.2.1, fun v h3 hp => ?_⟩
    obtain ⟨hr3, hf3, hg3⟩ := hp
    have hF3 := hF2.trans (hf3.g (by decide))
    have hd3 := zDm_52 hf3 (by decide) hd2
    rcases zTr_x hr3 with ⟨f, q, ev3, e1, e2⟩ | ⟨c, q, ev3, ht3⟩
    · rw [ev3]
      rw [q] at et
      exact q_Moplace_36 (n := n + 4) _ _ h3 (fun _ => ⟨by rw [et]; exact ⟨rfl, e1, e2⟩, hF3⟩) (fun w => absurd rfl w) (fun w => absurd rfl w) (fun w => absurd rfl w)
    · rw [ev3]
      rw [q] at et
      have et3 : tNews B N D s e = bnd (tSgn B N 59 c.2) (fun e => .inr (uN D c.1, e)) := et
      obtain ⟨c1, c2, c3⟩ := tCel_ok hD.1.1 hD.2.1.1 he (show tCel B N (dW D) (dG D) e = .inr (c.1, c.2) from q)
      have h25 := hg3 c q
      refine q_Moplace_36 (n := n + 4) _ _ h3 (fun w => absurd w one0) (fun _ w => absurd w one0) (fun _ _ => by rw [hd3.1.2.2.2.2.1]; exact z_vp (by omega) (by omega)) (fun _ _ => ?_)
      rw [hd3.1.2.2.2.2.1, nI_clamp (by omega), nI_1, h25]
      have hG6 : zGm h3 (jPI (jPI h3 65 (dN D) (nI c.1)) 52 33 (nI (dN D + 1))) := (zGm_I (Or.inr (Or.inr (Or.inr (Or.inr rfl))))).trans (zGm_I (Or.inl ⟨rfl, by decide⟩))
      have hF6 := hF3.trans hG6
      have hd6 : zDm (uN D c.1) (jPI (jPI h3 65 (dN D) (nI c.1)) 52 33 (nI (dN D + 1))) := by
        obtain ⟨d1, d2, d3, d4, d5⟩ := hd3
        refine ⟨⟨d1.1, d1.2.1, d1.2.2.1, d1.2.2.2.1, rfl, d1.2.2.2.2.2.1, d1.2.2.2.2.2.2.1, d1.2.2.2.2.2.2.2⟩, d2, d3, d4, fun m hm => ?_⟩
        have hm' : m < dN D + 1 := hm
        show upd (h3.1 65) (dN D) (nI c.1) m = nI (up1 (dN D) c.1 (dP D) m)
        unfold up1
        by_cases em : m = dN D
        · rw [em, upd_eq, if_pos rfl]
        · rw [upd_ne em, if_neg em]; exact d5 m (by omega)
      refine ⟨_, c_signs (n := n + 1) (t := 3) (c := 59) (Or.inl ⟨rfl, rfl⟩) c3 _ (zY_g hF6 hY) ht3, fun v h7 hp => ?_⟩
      obtain ⟨hr7, hf7⟩ := hp
      obtain ⟨s0, es, hnar⟩ := zTr_b hr7
      have hfin := zMo_end hr7 hf7 hd6
      rw [es] at hfin ⊢
      exact q_Moplace_89 (n := n + 4) _ h7 ⟨by rw [et3]; exact hfin, hF6.trans (hf7.g (by decide))⟩ hnar
theorem c_Mocas {D : ZD} {s e : Nat} (hD : zDok D) (he : e ≤ N) (h : HP) (hY : zY B N h) (h20 : h.1 52 20 = nI s) (h19 : h.1 52 19 = nI e) (hd : zDm D h) : jC E mX8_place (n + 5) [.ref 52, .int 0] h (fun v h2 => zMo B N v h2 (tCas B N D s e) ∧ zGm h h2) := by
  have hK1 : dK D ≤ 1 := hD.2.2.2.2.2.2.2.2.1
  have e4 : h.1 52 37 = 0 ↔ dK D = 0 := by rw [hd.1.2.2.2.2.2.2.2]; exact nI_eq (b := 0) (by omega) (by omega)
  refine jC.of (lv := [some (.ref 52), some (.int 0)]) (by decide) (Nat.le_of_ble_eq_true rfl) ⟨rfl, rfl, trivial⟩ (q_Moplace_0 (n := n + 4) _ h (fun _ w => ?_) (fun _ w => ?_) (fun _ _ => rfl) (fun w => absurd rfl w) (fun w => absurd rfl w) (fun w => absurd rfl w))
  · have et : tCas B N D s e = bnd (tCel B N (dW D) (dG D) e) (fun c => bnd (tSgn B N 59 c.2) (fun e => .inr (uC D c.1, e))) := by unfold tCas; rw [if_pos (e4.mp w)]
    refine ⟨_, c_scans (n := n + 2) (a := e) he h hY h19, fun v h2 hp => ?_⟩
    obtain ⟨ev, hf2, ht2⟩ := hp
    rw [ev]
    refine q_Moplace_32 (n := n + 4) _ h2 ?_
    have hF2 : zGm h h2 := hf2.g (by decide)
    have hd2 := zDm_52 hf2 (by decide) hd
    refine ⟨_, c_spot (n := n) hD.1 hD.2.1 he h2 (zY_g hF2 hY) ht2 hd2.1.1 hd2.1.2.1, fun v h3 hp => ?_⟩
    obtain ⟨hr3, hf3, hg3⟩ := hp
    have hF3 := hF2.trans (hf3.g (by decide))
    have hd3 := zDm_52 hf3 (by decide) hd2
    rcases zTr_x hr3 with ⟨f, q, ev3, e1, e2⟩ | ⟨c, q, ev3, ht3⟩
    · rw [ev3]
      rw [q] at et
      exact q_Moplace_36 (n := n + 4) _ _ h3 (fun _ => ⟨by rw [et]; exact ⟨rfl, e1, e2⟩, hF3⟩) (fun w => absurd rfl w) (fun w => absurd rfl w) (fun w => absurd rfl w)
    · rw [ev3]
      rw [q] at et
      have et3 : tCas B N D s e = bnd (tSgn B N 59 c.2) (fun e => .inr (uC D c.1, e)) := et
      obtain ⟨c1, c2, c3⟩ := tCel_ok hD.1.1 hD.2.1.1 he (show tCel B N (dW D) (dG D) e = .inr (c.1, c.2) from q)
      have h25 := hg3 c q
      refine q_Moplace_36 (n := n + 4) _ _ h3 (fun w => absurd w one0) (fun _ _ => ?_) (fun _ w => absurd rfl w) (fun _ w => absurd rfl w)
      rw [h25]
      have hG6 : zGm h3 (jPI (jPI h3 52 35 (nI c.1)) 52 37 1) := (zGm_I (Or.inl ⟨rfl, by decide⟩)).trans (zGm_I (Or.inl ⟨rfl, by decide⟩))
      have hF6 := hF3.trans hG6
      have hd6 : zDm (uC D c.1) (jPI (jPI h3 52 35 (nI c.1)) 52 37 1) := by
        obtain ⟨d1, d2, d3, d4, d5⟩ := hd3
        exact ⟨⟨d1.1, d1.2.1, d1.2.2.1, d1.2.2.2.1, d1.2.2.2.2.1, rfl, d1.2.2.2.2.2.2.1, rfl⟩, d2, d3, d4, d5⟩
      refine ⟨_, c_signs (n := n + 1) (t := 3) (c := 59) (Or.inl ⟨rfl, rfl⟩) c3 _ (zY_g hF6 hY) ht3, fun v h7 hp => ?_⟩
      obtain ⟨hr7, hf7⟩ := hp
      obtain ⟨s0, es, hnar⟩ := zTr_b hr7
      have hfin := zMo_end hr7 hf7 hd6
      rw [es] at hfin ⊢
      exact q_Moplace_89 (n := n + 4) _ h7 ⟨by rw [et3]; exact hfin, hF6.trans (hf7.g (by decide))⟩ hnar
  · have et : tCas B N D s e = .inl (3, s) := by unfold tCas; rw [if_neg (fun q => w (e4.mpr q))]
    rw [et]
    exact ⟨⟨rfl, rfl, h20⟩, zGm_I (Or.inl ⟨rfl, by decide⟩)⟩
end TR
