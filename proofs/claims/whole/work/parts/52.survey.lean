/-! ===== a province: the class surveys it and begins ===== -/
def zLD (D : ZD) : ZL := ((dW D, dG D, (if dH D = 0 then 1 else dH D), dM D, dN D, dC D), dO D, (fun t => if dH D = 0 then 5 else dT D t), dP D)
theorem zLD_ok {D : ZD} (h : D = D0 ∨ zDok D) : zLok (zLD D) := by
  rcases h with rfl | h
  · refine ⟨by decide, by decide, by decide, by decide, by decide, by decide, by decide, by decide, by decide, fun c _ => Nat.zero_le _, fun t _ => by show 5 ≤ 9; omega, fun k hk => absurd hk (by show ¬ k < 0; omega)⟩
  · obtain ⟨h1, h2, h3, h4, h5, h6, h7, h8, h9, h10, h11, h12, h13⟩ := h
    refine ⟨h1.2, h2.2, h3, fun _ => h2.1, ?_, h5, h6, fun e => absurd e (by show ¬ dW D = 0; omega), fun _ => h7, fun c _ => h10 c, fun t _ => ?_, h13⟩
    · show 1 ≤ (if dH D = 0 then 1 else dH D) ∧ (if dH D = 0 then 1 else dH D) ≤ 6
      split <;> omega
    · show (if dH D = 0 then 5 else dT D t) ≤ 9
      split
      · omega
      · exact h11 t
/-- the class's land without its sets -/
def zCl0 (L : ZL) (h : HP) : Prop :=
  (h.1 3 0 = nI (zW L) ∧ h.1 3 1 = nI (zG L) ∧ h.1 3 2 = nI (zT L) ∧ h.1 3 3 = nI (zM L) ∧ h.1 3 4 = nI (zN L) ∧ h.1 3 5 = nI (zC L)) ∧
  (∀ c, c < 36 → h.1 4 c = nI (zO L c)) ∧ (∀ t, t < zT L → h.1 5 t = nI (zD L t)) ∧ (∀ k, k < zN L → h.1 8 k = nI (zP L k))
theorem zB_ext {x : Int64} {c : Nat} {q : Nat → Bool} (hc : c < 64) (hx : zB x (fun i => decide (i < c) && q i)) {y : Int64} (hy : y = if q c = true then 1 <<< ((nI c).toInt64 &&& 63) else 0) : zB (x ||| y) (fun i => decide (i < c + 1) && q i) := by
  intro i hi
  rw [bt_or, hx i hi, hy]
  by_cases e : q c = true
  · rw [if_pos e, bt_one hc hi]
    by_cases w : i = c
    · rw [w]; dsimp only; rw [e]; simp
    · by_cases w2 : i < c
      · have : i < c + 1 := by omega
        simp [w, w2, this]
      · have : ¬ i < c + 1 := by omega
        simp [w, w2, this]
  · rw [if_neg e, bt0, Bool.or_false]
    have e' : q c = false := by simpa using e
    by_cases w : i = c
    · rw [w]; dsimp only; rw [e']; simp
    · by_cases w2 : i < c
      · have : i < c + 1 := by omega
        simp [w2, this]
      · have : ¬ i < c + 1 := by omega
        simp [w2, this]
section SV
variable {E : jEnv} {n : Nat} {X : State → Prop} {P : Option Value → HP → Prop} {L : ZL}
theorem zCl0_L {h : HP} (q : zCl0 L h) {k j : Nat} {x : Int64} : zCl0 L (jPL h k j x) := q
theorem c_LdcellsNoDeeper (hL : zLok L) {l t : Nat} (hl : l ≤ 7) (ht : t < zT L) (h : HP) (hc : zCl0 L h) : jC E mX2_cellsNoDeeper (n + 2) [.ref 3, .int (nI l), .int (nI t)] h (fun v h2 => (∃ x, v = some (.long x) ∧ zB x (fun c => decide (c < zA L) && decide (zWa L c t ≤ l))) ∧ h2 = h) := by
  have hA := hL.2.2.1
  have ht6 := hL.2.2.2.2.1
  have hAe : f_Ldcells (h.1 3 0) (h.1 3 1) = nI (zA L) := by unfold f_Ldcells; rw [hc.1.1, hc.1.2.1, pk_mul]; rfl
  refine jC.of (lv := [some (.ref 3), some (.int (nI l)), some (.int (nI t)), none, none, none]) (by decide) (Nat.le_of_ble_eq_true rfl) ⟨rfl, rfl, rfl, trivial⟩ (q_LdcellsNoDeeper_0 _ _ h ?_)
  have main : ∀ (q c : Nat) (x : Int64), c + q = zA L → zB x (fun i => decide (i < c) && decide (zWa L i t ≤ l)) → jG E mX2_cellsNoDeeper (n + 2) (fun _ => True) (fun v h2 => (∃ x, v = some (.long x) ∧ zB x (fun c => decide (c < zA L) && decide (zWa L c t ≤ l))) ∧ h2 = h) 5 [some (.ref 3), some (.int (nI l)), some (.int (nI t)), some (.long x), none, some (.int (nI c))] [] h := by
    intro q
    induction q with
    | zero =>
      intro c x hq hx
      obtain rfl : c = zA L := by omega
      have hle : f_Ldcells (h.1 3 0) (h.1 3 1) ≤ nI (zA L) := by rw [hAe]; exact Int32.le_refl _
      exact q_LdcellsNoDeeper_5 _ _ _ _ h (fun _ => ⟨⟨x, rfl, hx⟩, rfl⟩) (fun c => absurd hle c) (fun c => absurd hle c) (fun c => absurd hle c)
    | succ q ih =>
      intro c x hq hx
      have hlt : ¬ f_Ldcells (h.1 3 0) (h.1 3 1) ≤ nI c := by rw [hAe]; exact nI_ge (by omega) (by omega)
      have hwa : f_LdwaterOn (h.1 3 2) (h.1 4) (h.1 5) (nI c) (nI t) = nI (zWa L c t) := by
        rw [hc.1.2.2.1]; exact z_water hL hc.2.1 hc.2.2.1 (by omega) (by omega)
      have hle := zDe_le hL (fun _ => false) (c := c) (t := t) (by omega)
      have hle' : zWa L c t ≤ 13 := hle
      refine q_LdcellsNoDeeper_5 _ _ _ _ h (fun c => absurd c hlt) (fun _ _ _ _ => by rw [hc.1.2.2.1]; exact z_tin hL (by omega)) (fun _ w => ?_) (fun _ w => ?_)
      · rw [hwa] at w
        have w' : ¬ zWa L c t ≤ l := by have := (nI_ltI (by omega) (by omega)).mp w; omega
        rw [nI_1]
        have := zB_ext (c := c) (q := fun i => decide (zWa L i t ≤ l)) (by omega) hx (y := 0) (by rw [if_neg (by simpa using w')])
        rw [Int64.or_zero] at this
        exact ih (c + 1) x (by omega) this
      · rw [hwa] at w
        have w' : zWa L c t ≤ l := by
          rcases Nat.lt_or_ge l (zWa L c t) with e | e
          · exact absurd (nI_lt e (by omega)) w
          · exact e
        rw [nI_1]
        exact ih (c + 1) _ (by omega) (zB_ext (q := fun i => decide (zWa L i t ≤ l)) (by omega) hx (by rw [if_pos (by simpa using w')]))
  exact main (zA L) 0 0 (by omega) (fun i hi => by rw [bt0]; simp)
theorem vp_updL_ne {f : Nat → Int64} {k j : Nat} {x : Int64} (h : j ≠ k) : vp_updL f k x j = f j := by unfold vp_updL; rw [if_neg h]
theorem vp_updL_eq {f : Nat → Int64} {k : Nat} {x : Int64} : vp_updL f k x k = x := by unfold vp_updL; rw [if_pos rfl]
theorem zm_tabL (hL : zLok L) {h0 : HP} (hc : zCl0 L h0) (kx : ∀ h, zFr [9] h0 h → (∀ l t, l < 8 → t < zT L → zB (h.2 9 (6 * l + t)) (fun c => decide (c < zA L) && decide (zWa L c t ≤ l))) → P none h) : ∀ (q l : Nat) (h : HP), l + q = 8 → zFr [9] h0 h → zCl0 L h → (∀ l' t, l' < l → t < zT L → zB (h.2 9 (6 * l' + t)) (fun c => decide (c < zA L) && decide (zWa L c t ≤ l'))) → jG E mX2_survey (n + 3) X P 98 [some (.ref 3), some (.int (nI l)), none, none, none] [] h := by
  have ht6 := hL.2.2.2.2.1
  intro q
  induction q with
  | zero =>
    intro l h hq hf hc' htab
    obtain rfl : l = 8 := by omega
    exact q_Ldsurvey_98 (n := n + 2) _ h (fun _ => kx h hf htab) (fun c => absurd (by decide) c)
  | succ q ih =>
    intro l h hq hf hc' htab
    have h7 : ¬ (7 : Int32) < nI l := by rw [show (7 : Int32) = nI 7 from rfl]; exact nI_nlt (by omega) (by omega)
    refine q_Ldsurvey_98 (n := n + 2) _ h (fun c => absurd c h7) (fun _ => ?_)
    have inner : ∀ (r t : Nat) (h' : HP), t + r = zT L → zFr [9] h0 h' → zCl0 L h' → (∀ l' t', (l' < l ∧ t' < zT L) ∨ (l' = l ∧ t' < t) → zB (h'.2 9 (6 * l' + t')) (fun c => decide (c < zA L) && decide (zWa L c t' ≤ l'))) → jG E mX2_survey (n + 3) X P 106 [some (.ref 3), some (.int (nI l)), some (.int (nI t)), none, none] [] h' := by
      intro r
      induction r with
      | zero =>
        intro t h' hr hf' hc'' htab'
        obtain rfl : t = zT L := by omega
        have hle : h'.1 3 2 ≤ nI (zT L) := by rw [hc''.1.2.2.1]; exact Int32.le_refl _
        refine q_Ldsurvey_106 (n := n + 2) _ _ h' (fun _ => ?_) (fun c => absurd hle c)
        rw [nI_1]
        exact ih (l + 1) h' (by omega) hf' hc'' (fun l' t' h1 h2 => htab' l' t' (by
          by_cases e : l' = l
          · exact Or.inr ⟨e, h2⟩
          · exact Or.inl ⟨by omega, h2⟩))
      | succ r ihr =>
        intro t h' hr hf' hc'' htab'
        have hlt : ¬ h'.1 3 2 ≤ nI t := by rw [hc''.1.2.2.1]; exact nI_ge (by omega) (by omega)
        refine q_Ldsurvey_106 (n := n + 2) _ _ h' (fun c => absurd c hlt) (fun _ => ?_)
        refine ⟨_, c_LdcellsNoDeeper (n := n) hL (show l ≤ 7 by omega) (show t < zT L by omega) h' hc'', fun v h2 hp => ?_⟩
        obtain ⟨⟨x, ev, hx⟩, eh⟩ := hp
        rw [ev, eh]
        have e6 : nI l * 6 + nI t = nI (6 * l + t) := by rw [show nI l * 6 = nI (l * 6) from pk_mul l 6, nI_add, Nat.mul_comm]
        rw [e6]
        refine q_Ldsurvey_130 (n := n + 2) _ _ x _ h' (z_vp (by omega) (by omega)) ?_
        rw [nI_clamp (by omega), nI_1]
        refine ihr (t + 1) _ (by omega) (hf'.trans (zFr_L (by decide))) hc'' (fun l' t' hlt' => ?_)
        show zB (vp_updL (h'.2 9) (6 * l + t) x (6 * l' + t')) _
        by_cases e : l' = l ∧ t' = t
        · rw [e.1, e.2, vp_updL_eq]; exact hx
        · rw [vp_updL_ne (by omega)]
          exact htab' l' t' (by omega)
    exact inner (zT L) 0 h (by omega) hf hc' (fun l' t' hlt' => htab l' t' (by omega) (by omega))
theorem c_Ldsurvey (hL : zLok L) (h : HP) (hc : zCl0 L h) : jC E mX2_survey (n + 3) [.ref 3] h (fun v h2 => v = none ∧ zFr [3, 9] h h2 ∧ zCl L h2) := by
  have hA := hL.2.2.1
  have hW9 := hL.1
  refine jC.of (lv := [some (.ref 3), none, none, none, none]) (by decide) (Nat.le_of_ble_eq_true rfl) ⟨rfl, trivial⟩ (q_Ldsurvey_0 (n := n + 2) h ?_)
  have main : ∀ (q c : Nat) (h' : HP), c + q = zA L → zFr [3] h h' → zCl0 L h' → zB (h'.2 3 6) (fun i => decide (i < c) && true) → zB (h'.2 3 7) (fun i => decide (i < c) && decide (0 < i % zW L)) → zB (h'.2 3 8) (fun i => decide (i < c) && decide (i % zW L + 1 < zW L)) → jG E mX2_survey (n + 3) (fun _ => True) (fun v h2 => v = none ∧ zFr [3, 9] h h2 ∧ zCl L h2) 17 [some (.ref 3), some (.int (nI c)), none, none, none] [] h' := by
    intro q
    induction q with
    | zero =>
      intro c h' hq hf hc' b6 b7 b8
      obtain rfl : c = zA L := by omega
      have hAe : f_Ldcells (h'.1 3 0) (h'.1 3 1) = nI (zA L) := by unfold f_Ldcells; rw [hc'.1.1, hc'.1.2.1, pk_mul]; rfl
      have hle : f_Ldcells (h'.1 3 0) (h'.1 3 1) ≤ nI (zA L) := by rw [hAe]; exact Int32.le_refl _
      refine q_Ldsurvey_17 (n := n + 2) _ h' (fun _ => ?_) (fun c => absurd hle c) (fun c => absurd hle c) (fun c => absurd hle c) (fun c => absurd hle c)
      refine zm_tabL (n := n) hL hc' (fun h2 hf2 htab => ⟨rfl, (hf.sub (by decide)).trans (hf2.sub (by decide)), ?_⟩) 8 0 h' rfl (zFr.refl _ h') hc' (fun l' t h1 => absurd h1 (by omega))
      obtain ⟨g1, g2, g3, g4⟩ := hc'
      refine ⟨by rw [(hf2 3 (by decide)).1]; exact g1, by rw [(hf2 4 (by decide)).1]; exact g2, by rw [(hf2 5 (by decide)).1]; exact g3, by rw [(hf2 8 (by decide)).1]; exact g4, ?_, ?_, ?_, htab⟩
      · rw [(hf2 3 (by decide)).2]
        exact zB_eq b6 (fun i _ => Bool.and_true _)
      · rw [(hf2 3 (by decide)).2]; exact b7
      · rw [(hf2 3 (by decide)).2]; exact b8
    | succ q ih =>
      intro c h' hq hf hc' b6 b7 b8
      have hAe : f_Ldcells (h'.1 3 0) (h'.1 3 1) = nI (zA L) := by unfold f_Ldcells; rw [hc'.1.1, hc'.1.2.1, pk_mul]; rfl
      have hlt : ¬ f_Ldcells (h'.1 3 0) (h'.1 3 1) ≤ nI c := by rw [hAe]; exact nI_ge (by omega) (by omega)
      have hW0 : 0 < zW L := by
        rcases Nat.eq_zero_or_pos (zW L) with q | q
        · have : zA L = 0 := by unfold zA; rw [q, Nat.zero_mul]
          omega
        · exact q
      have hcol : f_LdcolumnOf (h'.1 3 0) (nI c) = nI (c % zW L) := by rw [hc'.1.1]; exact (z_col hW0 hW9 (by omega)).1
      have hmod : c % zW L < zW L := Nat.mod_lt _ hW0
      have hw1 : h'.1 3 0 - 1 = nI (zW L - 1) := by rw [hc'.1.1]; exact pk_sub (b := 1) (by omega)
      have c0 : f_LdcolumnOf (h'.1 3 0) (nI c) ≤ 0 ↔ ¬ 0 < c % zW L := by
        rw [hcol]
        have := nI_leI (a := c % zW L) (b := 0) (by omega) (by omega)
        rw [show (0 : Int32) = nI 0 from rfl, this]; omega
      have c1 : h'.1 3 0 - 1 ≤ f_LdcolumnOf (h'.1 3 0) (nI c) ↔ ¬ c % zW L + 1 < zW L := by
        rw [hcol, hw1, nI_leI (by omega) (by omega)]; omega
      have go : ∀ (y7 y8 : Int64), y7 = (if decide (0 < c % zW L) = true then 1 <<< ((nI c).toInt64 &&& 63) else 0) → y8 = (if decide (c % zW L + 1 < zW L) = true then 1 <<< ((nI c).toInt64 &&& 63) else 0) → jG E mX2_survey (n + 3) (fun _ => True) (fun v h2 => v = none ∧ zFr [3, 9] h h2 ∧ zCl L h2) 17 [some (.ref 3), some (.int (nI c + 1)), none, none, none] [] (jPL (jPL (jPL h' 3 6 ((h'.2 3 6) ||| (1 <<< ((nI c).toInt64 &&& 63)))) 3 7 ((h'.2 3 7) ||| y7)) 3 8 ((h'.2 3 8) ||| y8)) := fun y7 y8 e7 e8 => by
        rw [nI_1]
        refine ih (c + 1) _ (by omega) (hf.trans (((zFr_L (by decide)).trans (zFr_L (by decide))).trans (zFr_L (by decide)))) hc' ?_ ?_ ?_
        · show zB (vp_updL (vp_updL (vp_updL (h'.2 3) 6 ((h'.2 3 6) ||| (1 <<< ((nI c).toInt64 &&& 63)))) 7 ((h'.2 3 7) ||| y7)) 8 ((h'.2 3 8) ||| y8) 6) _
          rw [vp_updL_ne (by decide), vp_updL_ne (by decide), vp_updL_eq]
          exact zB_ext (q := fun _ => true) (by omega) b6 (by rw [if_pos rfl])
        · show zB (vp_updL (vp_updL (vp_updL (h'.2 3) 6 ((h'.2 3 6) ||| (1 <<< ((nI c).toInt64 &&& 63)))) 7 ((h'.2 3 7) ||| y7)) 8 ((h'.2 3 8) ||| y8) 7) _
          rw [vp_updL_ne (by decide), vp_updL_eq]
          exact zB_ext (q := fun i => decide (0 < i % zW L)) (by omega) b7 e7
        · show zB (vp_updL (vp_updL (vp_updL (h'.2 3) 6 ((h'.2 3 6) ||| (1 <<< ((nI c).toInt64 &&& 63)))) 7 ((h'.2 3 7) ||| y7)) 8 ((h'.2 3 8) ||| y8) 8) _
          rw [vp_updL_eq]
          exact zB_ext (q := fun i => decide (i % zW L + 1 < zW L)) (by omega) b8 e8
      refine q_Ldsurvey_17 (n := n + 2) _ h' (fun c => absurd c hlt) (fun _ w w2 => go 0 0 ?_ ?_) (fun _ w w2 => go 0 _ ?_ ?_) (fun _ w w2 => go _ 0 ?_ ?_) (fun _ w w2 => go _ _ ?_ ?_)
      · rw [if_neg (by have := c0.mp w; simpa using this)]
      · rw [if_neg (by have := c1.mp w2; simpa using this)]
      · rw [if_neg (by have := c0.mp w; simpa using this)]
      · have : c % zW L + 1 < zW L := by
          by_cases e : c % zW L + 1 < zW L
          · exact e
          · exact absurd (c1.mpr e) w2
        rw [if_pos (decide_eq_true this)]
      · have : 0 < c % zW L := by
          by_cases e : 0 < c % zW L
          · exact e
          · exact absurd (c0.mpr e) w
        rw [if_pos (decide_eq_true this)]
      · rw [if_neg (by have := c1.mp w2; simpa using this)]
      · have : 0 < c % zW L := by
          by_cases e : 0 < c % zW L
          · exact e
          · exact absurd (c0.mpr e) w
        rw [if_pos (decide_eq_true this)]
      · have : c % zW L + 1 < zW L := by
          by_cases e : c % zW L + 1 < zW L
          · exact e
          · exact absurd (c1.mpr e) w2
        rw [if_pos (decide_eq_true this)]
  refine main (zA L) 0 _ (by omega) (((zFr_L (by decide)).trans (zFr_L (by decide))).trans (zFr_L (by decide))) hc ?_ ?_ ?_
  · intro i hi
    show bt (vp_updL (vp_updL (vp_updL (h.2 3) 6 0) 7 0) 8 0 6) i = _
    rw [vp_updL_ne (by decide), vp_updL_ne (by decide), vp_updL_eq, bt0]; simp
  · intro i hi
    show bt (vp_updL (vp_updL (vp_updL (h.2 3) 6 0) 7 0) 8 0 7) i = _
    rw [vp_updL_ne (by decide), vp_updL_eq, bt0]; simp
  · intro i hi
    show bt (vp_updL (vp_updL (vp_updL (h.2 3) 6 0) 7 0) 8 0 8) i = _
    rw [vp_updL_eq, bt0]; simp
theorem z_cp36 {f g : Nat → Int32} {m : Nat} (hm : m < 36) : va_cpy f g (0 : Int32).toNatClampNeg (0 : Int32).toNatClampNeg (36 : Int32).toNatClampNeg m = f m := by
  show (if 0 ≤ m ∧ m < 0 + 36 then f (0 + (m - 0)) else g m) = f m
  rw [if_pos (by omega), Nat.sub_zero, Nat.zero_add]
theorem z_cp6 {f g : Nat → Int32} {m : Nat} (hm : m < 6) : va_cpy f g (0 : Int32).toNatClampNeg (0 : Int32).toNatClampNeg (6 : Int32).toNatClampNeg m = f m := by
  show (if 0 ≤ m ∧ m < 0 + 6 then f (0 + (m - 0)) else g m) = f m
  rw [if_pos (by omega), Nat.sub_zero, Nat.zero_add]
theorem c_Ldbecome {D : ZD} (hD : D = D0 ∨ zDok D) (h : HP) (hd : zDc D h) : jC E mX2_become (n + 4) [.ref 3, .ref 11] h (fun v h2 => v = none ∧ zFr [3, 4, 5, 6, 7, 8, 9] h h2 ∧ zCl (zLD D) h2 ∧ ∀ m, m < dM D → h2.1 6 m = nI (dX D m) ∧ h2.1 7 m = nI (dS D m)) := by
  have hL := zLD_ok hD
  have hM4 : dM D ≤ 4 := hL.2.2.2.2.2.1
  have hN4 : dN D ≤ 4 := hL.2.2.2.2.2.2.1
  obtain ⟨d1, d2, d3, d4, d5, d6, d7⟩ := hd
  refine jC.of (lv := [some (.ref 3), some (.ref 11)]) (by decide) (Nat.le_of_ble_eq_true rfl) ⟨rfl, rfl, trivial⟩ (q_Ldbecome3_0 (n := n + 3) h ?_)
  have hfr : zFr [3, 4, 5, 6, 7, 8, 9] h (jPA (jPA (jPA (jPA (jPA (jPI (jPI (jPI (jPI (jPI (jPI h 3 0 (h.1 11 0)) 3 1 (h.1 11 1)) 3 2 (h.1 11 2)) 3 3 (h.1 11 3)) 3 4 (h.1 11 4)) 3 5 (h.1 11 5)) 4 (va_cpy (h.1 12) (h.1 4) (0 : Int32).toNatClampNeg (0 : Int32).toNatClampNeg (36 : Int32).toNatClampNeg)) 5 (va_cpy (h.1 13) (h.1 5) (0 : Int32).toNatClampNeg (0 : Int32).toNatClampNeg (6 : Int32).toNatClampNeg)) 6 (va_cpy (h.1 14) (h.1 6) (0 : Int32).toNatClampNeg (0 : Int32).toNatClampNeg (4 : Int32).toNatClampNeg)) 7 (va_cpy (h.1 15) (h.1 7) (0 : Int32).toNatClampNeg (0 : Int32).toNatClampNeg (4 : Int32).toNatClampNeg)) 8 (va_cpy (h.1 16) (h.1 8) (0 : Int32).toNatClampNeg (0 : Int32).toNatClampNeg (4 : Int32).toNatClampNeg)) :=
    ((((((((((zFr_I (by decide)).trans (zFr_I (by decide))).trans (zFr_I (by decide))).trans (zFr_I (by decide))).trans (zFr_I (by decide))).trans (zFr_I (by decide))).trans (zFr_A (by decide))).trans (zFr_A (by decide))).trans (zFr_A (by decide))).trans (zFr_A (by decide))).trans (zFr_A (by decide))
  have hc0 : zCl0 (zLD D) (jPA (jPA (jPA (jPA (jPA (jPI (jPI (jPI (jPI (jPI (jPI h 3 0 (h.1 11 0)) 3 1 (h.1 11 1)) 3 2 (h.1 11 2)) 3 3 (h.1 11 3)) 3 4 (h.1 11 4)) 3 5 (h.1 11 5)) 4 (va_cpy (h.1 12) (h.1 4) (0 : Int32).toNatClampNeg (0 : Int32).toNatClampNeg (36 : Int32).toNatClampNeg)) 5 (va_cpy (h.1 13) (h.1 5) (0 : Int32).toNatClampNeg (0 : Int32).toNatClampNeg (6 : Int32).toNatClampNeg)) 6 (va_cpy (h.1 14) (h.1 6) (0 : Int32).toNatClampNeg (0 : Int32).toNatClampNeg (4 : Int32).toNatClampNeg)) 7 (va_cpy (h.1 15) (h.1 7) (0 : Int32).toNatClampNeg (0 : Int32).toNatClampNeg (4 : Int32).toNatClampNeg)) 8 (va_cpy (h.1 16) (h.1 8) (0 : Int32).toNatClampNeg (0 : Int32).toNatClampNeg (4 : Int32).toNatClampNeg)) := by
    refine ⟨⟨d1.1, d1.2.1, d1.2.2.1, d1.2.2.2.1, d1.2.2.2.2.1, d1.2.2.2.2.2⟩, fun c hc => ?_, fun t ht => ?_, fun k hk => ?_⟩
    · show va_cpy (h.1 12) (h.1 4) _ _ _ c = _
      rw [z_cp36 hc]; exact d3 c hc
    · have ht6 := hL.2.2.2.2.1.2
      show va_cpy (h.1 13) (h.1 5) _ _ _ t = nI (if dH D = 0 then 5 else dT D t)
      rw [z_cp6 (by omega)]
      have ht' : t < if dH D = 0 then 1 else dH D := ht
      by_cases e : dH D = 0
      · rw [if_pos e] at ht' ⊢
        obtain rfl : t = 0 := by omega
        exact d4 e
      · rw [if_neg e] at ht' ⊢
        exact d5 t ht'
    · have hk' : k < dN D := hk
      show va_cpy (h.1 16) (h.1 8) _ _ _ k = _
      rw [z_cp4 (by omega)]; exact d7 k hk'
  refine ⟨_, c_Ldsurvey (n := n) hL _ hc0, fun v h2 hp => ?_⟩
  obtain ⟨ev, hf2, hcl⟩ := hp
  rw [ev]
  refine q_Ldbecome3_124 (n := n + 3) h2 ⟨rfl, hfr.trans (hf2.sub (by decide)), hcl, fun m hm => ?_⟩
  rw [(hf2 6 (by decide)).1, (hf2 7 (by decide)).1]
  show va_cpy (h.1 14) (h.1 6) _ _ _ m = _ ∧ va_cpy (h.1 15) (h.1 7) _ _ _ m = _
  rw [z_cp4 (by omega), z_cp4 (by omega)]
  exact d6 m hm
/-- what goes on at hour 0, before anybody has heard -/
def sBeg (D : ZD) (sd : Nat) : ZS := ((0, sd), fun _ => false, dX D, dS D, fun _ => 0, fun _ => 0, fun _ => 0)
theorem sBeg_ok {D : ZD} (hD : D = D0 ∨ zDok D) {sd : Nat} (hs : sd < 2 ^ 31) (B : Nat) : zSok (zLD D) (sBeg D sd) B := by
  refine ⟨Nat.zero_le _, hs, fun c hc => (by cases hc), fun m hm => ?_⟩
  have hm' : m < dM D := hm
  rcases hD with rfl | hD
  · exact absurd hm' (by show ¬ m < 0; omega)
  · obtain ⟨a, b⟩ := hD.2.2.2.2.2.2.2.2.2.2.2.1 m hm'
    exact ⟨a, b, Nat.two_pow_pos _, Nat.zero_le _, Nat.zero_le _⟩
theorem c_Stbegin {D : ZD} (hD : D = D0 ∨ zDok D) {sd : Nat} (h : HP) (hCl : zCl (zLD D) h) (h67 : ∀ m, m < dM D → h.1 6 m = nI (dX D m) ∧ h.1 7 m = nI (dS D m)) (hsd : h.1 18 2 = nI sd) : jC E mX5_begin (n + 2) [.ref 18] h (fun v h2 => v = none ∧ zFr [18, 19, 20, 21, 22, 23] h h2 ∧ zCs (zLD D) (zShare (zLD D) (zHear (zLD D) (sBeg D sd))) 18 h2) := by
  have hL := zLD_ok hD
  have hM4 : dM D ≤ 4 := hL.2.2.2.2.2.1
  have hA := hL.2.2.1
  refine jC.of (lv := [some (.ref 18)]) (by decide) (Nat.le_of_ble_eq_true rfl) ⟨rfl, trivial⟩ (q_Stbegin_0 (n := n + 1) h ?_)
  have hf0 : zFr [18, 19, 20, 21, 22, 23] h (jPA (jPA (jPL (jPI h 18 1 0) 18 3 0) 19 (va_cpy (h.1 6) (h.1 19) (0 : Int32).toNatClampNeg (0 : Int32).toNatClampNeg (4 : Int32).toNatClampNeg)) 20 (va_cpy (h.1 7) (h.1 20) (0 : Int32).toNatClampNeg (0 : Int32).toNatClampNeg (4 : Int32).toNatClampNeg)) := (((zFr_I (by decide)).trans (zFr_L (by decide))).trans (zFr_A (by decide))).trans (zFr_A (by decide))
  refine ⟨_, c_fill21 0 _, fun v h1 hp => ?_⟩
  obtain ⟨ev1, hf1, f21⟩ := hp
  rw [ev1]
  refine q_Stbegin_52 (n := n + 1) h1 ?_
  refine ⟨_, c_fill22 0 _, fun v h2 hp => ?_⟩
  obtain ⟨ev2, hf2, f22⟩ := hp
  rw [ev2]
  refine q_Stbegin_60 (n := n + 1) h2 ?_
  refine ⟨_, c_fill23 0 _, fun v h3 hp => ?_⟩
  obtain ⟨ev3, hf3, f23⟩ := hp
  rw [ev3]
  refine q_Stbegin_68 (n := n + 1) h3 ?_
  have hF : zFr [18, 19, 20, 21, 22, 23] h h3 := ((hf0.trans (hf1.sub (by decide))).trans (hf2.sub (by decide))).trans (hf3.sub (by decide))
  have back : ∀ k, k ∉ [21] → k ∉ [22] → k ∉ [23] → h3.1 k = (jPA (jPA (jPL (jPI h 18 1 0) 18 3 0) 19 (va_cpy (h.1 6) (h.1 19) (0 : Int32).toNatClampNeg (0 : Int32).toNatClampNeg (4 : Int32).toNatClampNeg)) 20 (va_cpy (h.1 7) (h.1 20) (0 : Int32).toNatClampNeg (0 : Int32).toNatClampNeg (4 : Int32).toNatClampNeg)).1 k ∧ h3.2 k = (jPA (jPA (jPL (jPI h 18 1 0) 18 3 0) 19 (va_cpy (h.1 6) (h.1 19) (0 : Int32).toNatClampNeg (0 : Int32).toNatClampNeg (4 : Int32).toNatClampNeg)) 20 (va_cpy (h.1 7) (h.1 20) (0 : Int32).toNatClampNeg (0 : Int32).toNatClampNeg (4 : Int32).toNatClampNeg)).2 k := fun k q1 q2 q3 => ⟨(hf3 k q3).1.trans ((hf2 k q2).1.trans (hf1 k q1).1), (hf3 k q3).2.trans ((hf2 k q2).2.trans (hf1 k q1).2)⟩
  have hs3 : zCs (zLD D) (sBeg D sd) 18 h3 := by
    refine ⟨?_, ?_, ?_, fun m hm => ?_⟩
    · rw [(back 18 (by decide) (by decide) (by decide)).1]; rfl
    · rw [(back 18 (by decide) (by decide) (by decide)).1]; exact hsd
    · rw [(back 18 (by decide) (by decide) (by decide)).2]
      intro i hi
      exact bt0 i
    · have hm' : m < dM D := hm
      obtain ⟨a, b⟩ := h67 m hm'
      refine ⟨?_, ?_, ?_, ?_, ?_⟩
      · show h3.1 19 m = nI (dX D m)
        rw [(back 19 (by decide) (by decide) (by decide)).1]
        show va_cpy (h.1 6) (h.1 19) _ _ _ m = _
        rw [z_cp4 (by omega)]; exact a
      · show h3.1 20 m = nI (dS D m)
        rw [(back 20 (by decide) (by decide) (by decide)).1]
        show va_cpy (h.1 7) (h.1 20) _ _ _ m = _
        rw [z_cp4 (by omega)]; exact b
      · show h3.1 21 m = nI 0
        rw [(hf3 21 (by decide)).1, (hf2 21 (by decide)).1, f21 m (by omega)]; rfl
      · show h3.1 22 m = nI 0
        rw [(hf3 22 (by decide)).1, f22 m (by omega)]; rfl
      · show h3.1 23 m = nI 0
        rw [f23 m (by omega)]; rfl
  refine ⟨_, c_SthearAndShare (n := n) (S := sBeg D sd) hL (fun m hm => ?_) h3 (zCl_fr hF (by decide) hCl) hs3, fun v h4 hp => ?_⟩
  · have hm' : m < dM D := hm
    rcases hD with rfl | hD
    · exact absurd hm' (by show ¬ m < 0; omega)
    · have := (hD.2.2.2.2.2.2.2.2.2.2.2.1 m hm').1
      have h36 := hD.2.2.1
      show dX D m < 36
      omega
  · obtain ⟨ev4, hf4, hs4⟩ := hp
    rw [ev4]
    exact q_Stbegin_72 (n := n + 1) h4 ⟨rfl, hF.trans (hf4.sub (by decide)), hs4⟩
end SV
