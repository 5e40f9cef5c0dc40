/-! ===== the class's reader: statements ===== -/
/-- a draft as the class holds it -/
def zDc (D : ZD) (h : HP) : Prop :=
  (h.1 11 0 = nI (dW D) ∧ h.1 11 1 = nI (dG D) ∧ h.1 11 2 = nI (if dH D = 0 then 1 else dH D) ∧ h.1 11 3 = nI (dM D) ∧ h.1 11 4 = nI (dN D) ∧ h.1 11 5 = nI (dC D)) ∧
  (h.1 10 6 = nI (dR D) ∧ h.1 10 7 = (if dH D = 0 then 0 else 1) ∧ h.1 10 8 = nI (dK D)) ∧
  (∀ c, c < 36 → h.1 12 c = nI (dO D c)) ∧ (dH D = 0 → h.1 13 0 = 5) ∧ (∀ t, t < dH D → h.1 13 t = nI (dT D t)) ∧
  (∀ m, m < dM D → h.1 14 m = nI (dX D m) ∧ h.1 15 m = nI (dS D m)) ∧ ∀ k, k < dN D → h.1 16 k = nI (dP D k)
def zRc : List Nat := [10, 11, 12, 13, 14, 15, 16]
theorem zDc_10 {D : ZD} {l : List Nat} {h h2 : HP} (hf : zF10 l h h2) (hl : 6 ∉ l ∧ 7 ∉ l ∧ 8 ∉ l) (q : zDc D h) : zDc D h2 := by
  unfold zDc
  rw [(hf.1 11 (by decide)).1, hf.2 6 hl.1, hf.2 7 hl.2.1, hf.2 8 hl.2.2, (hf.1 12 (by decide)).1, (hf.1 13 (by decide)).1, (hf.1 14 (by decide)).1, (hf.1 15 (by decide)).1, (hf.1 16 (by decide)).1]
  exact q
theorem zF10.fr {l : List Nat} {h h2 : HP} (hf : zF10 l h h2) : zFr zRc h h2 := hf.1.sub (by decide)
def zOut (N : Nat) (h : HP) : ZE ⊕ (ZD × Nat) → Prop
  | .inl f => zRd N h (.inl f)
  | .inr x => zRd N h (.inr x.2) ∧ zDc x.1 h
theorem zX_rc {B : Nat → Nat} {N : Nat} {h h2 : HP} (hf : zFr zRc h h2) (q : zX B N h) : zX B N h2 := zX_fr hf (by decide) q
theorem z_hasR : ∀ a, a < 512 → ∀ k, k < 9 → f_Shhas ((nI a).toInt64) (nI k) = if a.testBit k = true then 1 else 0 := by decide +kernel
theorem z_1shl9 : ∀ k, k < 9 → (1 : Int32) <<< (nI k &&& 31) = nI (2 ^ k) := by decide +kernel
/-- writes beside cell 10 leave the reader's place alone -/
theorem zRd_o {N : Nat} {h : HP} {k j : Nat} {x : Int32} (hk : k ≠ 10) : ∀ {r : ZE ⊕ Nat}, zRd N h r → zRd N (jPI h k j x) r := by
  intro r q
  have e : (jPI h k j x).1 10 = h.1 10 := by
    show va_up h.1 k _ 10 = _
    unfold va_up
    rw [if_neg (fun w => hk w.symm)]
  cases r with
  | inl f =>
    unfold zRd
    rw [e]
    exact q
  | inr a =>
    unfold zRd
    rw [e]
    exact q
theorem zRd_j {N : Nat} {h : HP} {j : Nat} {x : Int32} (hj : j ≠ 2 ∧ j ≠ 3 ∧ j ≠ 4) : ∀ {r : ZE ⊕ Nat}, zRd N h r → zRd N (jPI h 10 j x) r := by
  intro r q
  have e : ∀ i, i ≠ j → (jPI h 10 j x).1 10 i = h.1 10 i := fun i hi => upd_ne hi
  cases r with
  | inl f =>
    unfold zRd
    rw [e 2 (Ne.symm hj.1), e 3 (Ne.symm hj.2.1), e 4 (Ne.symm hj.2.2)]
    exact q
  | inr a =>
    unfold zRd
    rw [e 2 (Ne.symm hj.1), e 3 (Ne.symm hj.2.1), e 4 (Ne.symm hj.2.2)]
    exact q
section KY
variable {B : Nat → Nat} {N : Nat}
theorem tMan_key (D : ZD) (s a : Nat) (r0 : ZE ⊕ Nat) (h0 : r0 = if dM D = 4 then .inl (3, s) else .inr a) : (∃ f, bnd (ps (bnd (ps (bnd r0 (tCel B N (dW D) (dG D)))) (tNum B N 0 6))) (tSgn B N 59) = .inl f ∧ tMan B N D s a = .inl f) ∨ ∃ c a1 l a2 e, bnd r0 (tCel B N (dW D) (dG D)) = .inr (c, a1) ∧ bnd (ps (bnd r0 (tCel B N (dW D) (dG D)))) (tNum B N 0 6) = .inr (l, a2) ∧ bnd (ps (bnd (ps (bnd r0 (tCel B N (dW D) (dG D)))) (tNum B N 0 6))) (tSgn B N 59) = .inr e ∧ tMan B N D s a = .inr (uM D c l, e) ∧ ¬ dM D = 4 := by
  unfold tMan
  by_cases hM : dM D = 4
  · rw [h0, if_pos hM, if_pos hM]
    exact Or.inl ⟨(3, s), rfl, rfl⟩
  · rw [h0, if_neg hM, if_neg hM]
    cases q1 : tCel B N (dW D) (dG D) a with
    | inl f => exact Or.inl ⟨f, by simp only [bnd, q1, ps], rfl⟩
    | inr c =>
      cases q2 : tNum B N 0 6 c.2 with
      | inl f => exact Or.inl ⟨f, by simp only [bnd, q1, ps, q2], by simp only [bnd, q2]⟩
      | inr l =>
        cases q3 : tSgn B N 59 l.2 with
        | inl f => exact Or.inl ⟨f, by simp only [bnd, q1, ps, q2, q3], by simp only [bnd, q2, q3]⟩
        | inr e => exact Or.inr ⟨c.1, c.2, l.1, l.2, e, by simp only [bnd, q1], by simp only [bnd, q1, ps, q2], by simp only [bnd, q1, ps, q2, q3], by simp only [bnd, q2, q3], hM⟩
theorem tNews_key (D : ZD) (s a : Nat) (r0 : ZE ⊕ Nat) (h0 : r0 = if dN D = 4 then .inl (3, s) else .inr a) : (∃ f, bnd (ps (bnd r0 (tCel B N (dW D) (dG D)))) (tSgn B N 59) = .inl f ∧ tNews B N D s a = .inl f) ∨ ∃ c a1 e, bnd r0 (tCel B N (dW D) (dG D)) = .inr (c, a1) ∧ bnd (ps (bnd r0 (tCel B N (dW D) (dG D)))) (tSgn B N 59) = .inr e ∧ tNews B N D s a = .inr (uN D c, e) ∧ ¬ dN D = 4 := by
  unfold tNews
  by_cases hM : dN D = 4
  · rw [h0, if_pos hM, if_pos hM]
    exact Or.inl ⟨(3, s), rfl, rfl⟩
  · rw [h0, if_neg hM, if_neg hM]
    cases q1 : tCel B N (dW D) (dG D) a with
    | inl f => exact Or.inl ⟨f, by simp only [bnd, q1, ps], rfl⟩
    | inr c =>
      cases q3 : tSgn B N 59 c.2 with
      | inl f => exact Or.inl ⟨f, by simp only [bnd, q1, ps, q3], by simp only [bnd, q3]⟩
      | inr e => exact Or.inr ⟨c.1, c.2, e, by simp only [bnd, q1], by simp only [bnd, q1, ps, q3], by simp only [bnd, q3], hM⟩
theorem tCas_key (D : ZD) (s a : Nat) (r0 : ZE ⊕ Nat) (h0 : r0 = if dK D = 0 then .inr a else .inl (3, s)) : (∃ f, bnd (ps (bnd r0 (tCel B N (dW D) (dG D)))) (tSgn B N 59) = .inl f ∧ tCas B N D s a = .inl f) ∨ ∃ c a1 e, bnd r0 (tCel B N (dW D) (dG D)) = .inr (c, a1) ∧ bnd (ps (bnd r0 (tCel B N (dW D) (dG D)))) (tSgn B N 59) = .inr e ∧ tCas B N D s a = .inr (uC D c, e) ∧ dK D = 0 := by
  unfold tCas
  by_cases hM : dK D = 0
  · rw [h0, if_pos hM, if_pos hM]
    cases q1 : tCel B N (dW D) (dG D) a with
    | inl f => exact Or.inl ⟨f, by simp only [bnd, q1, ps], rfl⟩
    | inr c =>
      cases q3 : tSgn B N 59 c.2 with
      | inl f => exact Or.inl ⟨f, by simp only [bnd, q1, ps, q3], by simp only [bnd, q3]⟩
      | inr e => exact Or.inr ⟨c.1, c.2, e, by simp only [bnd, q1], by simp only [bnd, q1, ps, q3], by simp only [bnd, q3], hM⟩
  · rw [h0, if_neg hM, if_neg hM]
    exact Or.inl ⟨(3, s), rfl, rfl⟩
end KY
section SC
variable {E : jEnv} {n : Nat} {X : State → Prop} {P : Option Value → HP → Prop} {B : Nat → Nat} {N : Nat}
theorem c_readMan {D : ZD} {s a : Nat} (hD : zDok D) (h : HP) (hX : zX B N h) (hr : zRd N h (.inr a)) (h5 : h.1 10 5 = nI s) (hd : zDc D h) : jC E mX3_readMan (n + 3) [.ref 10] h (fun v h2 => v = none ∧ zFr zRc h h2 ∧ zOut N h2 (tMan B N D s a)) := by
  have hM4 : dM D ≤ 4 := hD.2.2.2.2.1
  have main : ∀ (r0 : ZE ⊕ Nat) (h1 : HP), r0 = (if dM D = 4 then .inl (3, s) else .inr a) → zF10 [2, 3] h h1 → zRd N h1 r0 → jCall E mX3_takeCell (n + 2) [.ref 10] h1 (fun v h2 => jG E mX3_readMan (n + 3) (fun _ => True) (fun v h2 => v = none ∧ zFr zRc h h2 ∧ zOut N h2 (tMan B N D s a)) 24 [some (.ref 10), none, none] (v.toList ++ []) h2) := by
    intro r0 h1 e0 hf1 hr1
    have hd1 := zDc_10 hf1 (by decide) hd
    refine ⟨_, c_takeCell (r := r0) hD.1 hD.2.1 h1 (zX_fr hf1.1 (by decide) hX) hr1 hd1.1.1 hd1.1.2.1, fun v h2 hp => ?_⟩
    obtain ⟨⟨z, ev, hz⟩, hf2, hr2⟩ := hp
    rw [ev]
    refine q_RdreadMan_24 (n := n + 2) _ h2 ?_
    have hF2 := (hf1.sub (by decide)).trans hf2
    refine ⟨_, c_takeNumber (lo := 0) (hi := 6) (by omega) (by omega) h2 (zX_fr hF2.1 (by decide) hX) hr2, fun v h3 hp => ?_⟩
    obtain ⟨ev3, hf3, hr3⟩ := hp
    rw [ev3]
    refine q_RdreadMan_32 (n := n + 2) _ _ h3 ?_
    have hF3 := hF2.trans hf3
    refine ⟨_, c_takeSign (c := 59) (by omega) h3 (zX_fr hF3.1 (by decide) hX) hr3, fun v h4 hp => ?_⟩
    obtain ⟨ev4, hf4, hr4⟩ := hp
    rw [ev4]
    have hF4 := hF3.trans hf4
    have hd4 := zDc_10 hF4 (by decide) hd
    have key := tMan_key (B := B) (N := N) D s a r0 e0
    refine q_RdreadMan_39 (n := n + 2) _ _ h4 (fun w => ?_) (fun w => ?_) (fun w => ?_) (fun w => ?_)
    · obtain ⟨e, he⟩ := (z_failed hr4).1.mp w
      rcases key with ⟨f, k1, _⟩ | ⟨c, a1, l, a2, e', k1, k2, k3, k4, k5⟩
      · rw [k1] at he; cases he
      · rw [hd4.1.2.2.2.1]; exact z_vp (by omega) (by omega)
    · obtain ⟨e, he⟩ := (z_failed hr4).1.mp w
      rcases key with ⟨f, k1, _⟩ | ⟨c, a1, l, a2, e', k1, k2, k3, k4, k5⟩
      · rw [k1] at he; cases he
      · rw [hd4.1.2.2.2.1]; exact z_vp (by omega) (by omega)
    · obtain ⟨e, he⟩ := (z_failed hr4).1.mp w
      rcases key with ⟨f, k1, _⟩ | ⟨c, a1, l, a2, e', k1, k2, k3, k4, k5⟩
      · rw [k1] at he; cases he
      · rw [hd4.1.2.2.2.1, nI_clamp (by omega), nI_1, hz c a1 k1, show tv 0 (bnd (ps (bnd r0 (tCel B N (dW D) (dG D)))) (tNum B N 0 6)) = l by rw [k2]; rfl]
        refine ⟨rfl, hF4.fr.trans ((zFr_I (by decide)).trans ((zFr_I (by decide)).trans (zFr_I (by decide)))), ?_⟩
        rw [k4]
        rw [k3] at hr4
        refine ⟨zRd_o (by decide) (zRd_o (by decide) (zRd_o (by decide) hr4)), ?_⟩
        obtain ⟨d1, d2, d3, d4, d5, d6, d7⟩ := hd4
        refine ⟨⟨d1.1, d1.2.1, d1.2.2.1, rfl, d1.2.2.2.2.1, d1.2.2.2.2.2⟩, d2, d3, d4, d5, fun m hm => ?_, d7⟩
        have hm' : m < dM D + 1 := hm
        show upd (h4.1 14) (dM D) (nI c) m = nI (up1 (dM D) c (dX D) m) ∧ upd (h4.1 15) (dM D) (nI l) m = nI (up1 (dM D) l (dS D) m)
        unfold up1
        by_cases em : m = dM D
        · rw [em, upd_eq, upd_eq, if_pos rfl, if_pos rfl]; exact ⟨rfl, rfl⟩
        · rw [upd_ne em, upd_ne em, if_neg em, if_neg em]; exact d6 m (by omega)
    · obtain ⟨f, he⟩ := (z_failed hr4).2.mp w
      rcases key with ⟨f', k1, k2⟩ | ⟨c, a1, l, a2, e', k1, k2, k3, k4, k5⟩
      · rw [k1] at he hr4
        refine ⟨rfl, hF4.fr, ?_⟩
        rw [k2]
        exact hr4
      · rw [k3] at he; cases he
  refine jC.of (lv := [some (.ref 10), none, none]) (by decide) (Nat.le_of_ble_eq_true rfl) ⟨rfl, trivial⟩ (q_RdreadMan_0 (n := n + 2) h (fun w => ?_) (fun w => ?_))
  · rw [hd.1.2.2.2.1] at w
    have hne : ¬ dM D = 4 := fun e => by rw [e] at w; exact absurd w (by decide)
    exact main (.inr a) h (by rw [if_neg hne]) (zF10.refl _ h) hr
  · rw [hd.1.2.2.2.1] at w
    have he : dM D = 4 := by
      rcases Nat.lt_or_ge (dM D) 4 with q | q
      · exact absurd (nI_lt q (by omega)) w
      · omega
    rw [h5]
    refine ⟨_, c_Rdfail (nI 3) (nI s) h, fun v h1 hp => ?_⟩
    rw [hp.1, hp.2]
    obtain ⟨g1, g2⟩ := z_fail (k := 3) (w := s) (by decide) (by decide) hr
    exact q_RdreadMan_20 (n := n + 2) _ (main (.inl (3, s)) _ (by rw [if_pos he]) g2 g1)
theorem c_readNews {D : ZD} {s a : Nat} (hD : zDok D) (h : HP) (hX : zX B N h) (hr : zRd N h (.inr a)) (h5 : h.1 10 5 = nI s) (hd : zDc D h) : jC E mX3_readNews (n + 3) [.ref 10] h (fun v h2 => v = none ∧ zFr zRc h h2 ∧ zOut N h2 (tNews B N D s a)) := by
  have hM4 : dN D ≤ 4 := hD.2.2.2.2.2.1
  have main : ∀ (r0 : ZE ⊕ Nat) (h1 : HP), r0 = (if dN D = 4 then .inl (3, s) else .inr a) → zF10 [2, 3] h h1 → zRd N h1 r0 → jCall E mX3_takeCell (n + 2) [.ref 10] h1 (fun v h2 => jG E mX3_readNews (n + 3) (fun _ => True) (fun v h2 => v = none ∧ zFr zRc h h2 ∧ zOut N h2 (tNews B N D s a)) 24 [some (.ref 10), none] (v.toList ++ []) h2) := by
    intro r0 h1 e0 hf1 hr1
    have hd1 := zDc_10 hf1 (by decide) hd
    refine ⟨_, c_takeCell (r := r0) hD.1 hD.2.1 h1 (zX_fr hf1.1 (by decide) hX) hr1 hd1.1.1 hd1.1.2.1, fun v h2 hp => ?_⟩
    obtain ⟨⟨z, ev, hz⟩, hf2, hr2⟩ := hp
    rw [ev]
    refine q_RdreadNews_24 (n := n + 2) _ h2 ?_
    have hF3 := (hf1.sub (by decide)).trans hf2
    refine ⟨_, c_takeSign (c := 59) (by omega) h2 (zX_fr hF3.1 (by decide) hX) hr2, fun v h4 hp => ?_⟩
    obtain ⟨ev4, hf4, hr4⟩ := hp
    rw [ev4]
    have hF4 := hF3.trans hf4
    have hd4 := zDc_10 hF4 (by decide) hd
    have key := tNews_key (B := B) (N := N) D s a r0 e0
    refine q_RdreadNews_31 (n := n + 2) _ h4 (fun w => ?_) (fun w => ?_) (fun w => ?_)
    · obtain ⟨e, he⟩ := (z_failed hr4).1.mp w
      rcases key with ⟨f, k1, _⟩ | ⟨c, a1, e', k1, k3, k4, k5⟩
      · rw [k1] at he; cases he
      · rw [hd4.1.2.2.2.2.1]; exact z_vp (by omega) (by omega)
    · obtain ⟨e, he⟩ := (z_failed hr4).1.mp w
      rcases key with ⟨f, k1, _⟩ | ⟨c, a1, e', k1, k3, k4, k5⟩
      · rw [k1] at he; cases he
      · rw [hd4.1.2.2.2.2.1, nI_clamp (by omega), nI_1, hz c a1 k1]
        refine ⟨rfl, hF4.fr.trans ((zFr_I (by decide)).trans (zFr_I (by decide))), ?_⟩
        rw [k4]
        rw [k3] at hr4
        refine ⟨zRd_o (by decide) (zRd_o (by decide) hr4), ?_⟩
        obtain ⟨d1, d2, d3, d4, d5, d6, d7⟩ := hd4
        refine ⟨⟨d1.1, d1.2.1, d1.2.2.1, d1.2.2.2.1, rfl, d1.2.2.2.2.2⟩, d2, d3, d4, d5, d6, fun m hm => ?_⟩
        have hm' : m < dN D + 1 := hm
        show upd (h4.1 16) (dN D) (nI c) m = nI (up1 (dN D) c (dP D) m)
        unfold up1
        by_cases em : m = dN D
        · rw [em, upd_eq, if_pos rfl]
        · rw [upd_ne em, if_neg em]; exact d7 m (by omega)
    · obtain ⟨f, he⟩ := (z_failed hr4).2.mp w
      rcases key with ⟨f', k1, k2⟩ | ⟨c, a1, e', k1, k3, k4, k5⟩
      · rw [k1] at he hr4
        refine ⟨rfl, hF4.fr, ?_⟩
        rw [k2]
        exact hr4
      · rw [k3] at he; cases he
  refine jC.of (lv := [some (.ref 10), none]) (by decide) (Nat.le_of_ble_eq_true rfl) ⟨rfl, trivial⟩ (q_RdreadNews_0 (n := n + 2) h (fun w => ?_) (fun w => ?_))
  · rw [hd.1.2.2.2.2.1] at w
    have hne : ¬ dN D = 4 := fun e => by rw [e] at w; exact absurd w (by decide)
    exact main (.inr a) h (by rw [if_neg hne]) (zF10.refl _ h) hr
  · rw [hd.1.2.2.2.2.1] at w
    have he : dN D = 4 := by
      rcases Nat.lt_or_ge (dN D) 4 with q | q
      · exact absurd (nI_lt q (by omega)) w
      · omega
    rw [h5]
    refine ⟨_, c_Rdfail (nI 3) (nI s) h, fun v h1 hp => ?_⟩
    rw [hp.1, hp.2]
    obtain ⟨g1, g2⟩ := z_fail (k := 3) (w := s) (by decide) (by decide) hr
    exact q_RdreadNews_20 (n := n + 2) _ (main (.inl (3, s)) _ (by rw [if_pos he]) g2 g1)
theorem c_readCastle {D : ZD} {s a : Nat} (hD : zDok D) (h : HP) (hX : zX B N h) (hr : zRd N h (.inr a)) (h5 : h.1 10 5 = nI s) (hd : zDc D h) : jC E mX3_readCastle (n + 3) [.ref 10] h (fun v h2 => v = none ∧ zFr zRc h h2 ∧ zOut N h2 (tCas B N D s a)) := by
  have hK1 : dK D ≤ 1 := hD.2.2.2.2.2.2.2.2.1
  have main : ∀ (r0 : ZE ⊕ Nat) (h1 : HP), r0 = (if dK D = 0 then .inr a else .inl (3, s)) → zF10 [2, 3] h h1 → zRd N h1 r0 → jCall E mX3_takeCell (n + 2) [.ref 10] (jPI h1 10 8 1) (fun v h2 => jG E mX3_readCastle (n + 3) (fun _ => True) (fun v h2 => v = none ∧ zFr zRc h h2 ∧ zOut N h2 (tCas B N D s a)) 29 [some (.ref 10)] (v.toList ++ [.ref 11]) h2) := by
    intro r0 h1 e0 hf1 hr1
    have hd1 := zDc_10 hf1 (by decide) hd
    have hf8 : zF10 [2, 3, 4, 8] h1 (jPI h1 10 8 1) := zF10_I (by decide)
    have hF8 : zF10 [2, 3, 4, 8] h (jPI h1 10 8 1) := (hf1.sub (by decide)).trans hf8
    refine ⟨_, c_takeCell (r := r0) hD.1 hD.2.1 (jPI h1 10 8 1) (zX_fr hF8.1 (by decide) hX) (zRd_j (by decide) hr1) hd1.1.1 hd1.1.2.1, fun v h2 hp => ?_⟩
    obtain ⟨⟨z, ev, hz⟩, hf2, hr2⟩ := hp
    rw [ev]
    refine q_RdreadCastle_29 (n := n + 2) _ h2 ?_
    have hF2 := hF8.trans (hf2.sub (by decide))
    have hfr3 : zFr zRc h (jPI h2 11 5 z) := hF2.fr.trans (zFr_I (by decide))
    refine ⟨_, c_takeSign (c := 59) (by omega) (jPI h2 11 5 z) (zX_rc hfr3 hX) (zRd_o (by decide) hr2), fun v h4 hp => ?_⟩
    obtain ⟨ev4, hf4, hr4⟩ := hp
    rw [ev4]
    have key := tCas_key (B := B) (N := N) D s a r0 e0
    refine q_RdreadCastle_38 (n := n + 2) h4 ⟨rfl, hfr3.trans hf4.fr, ?_⟩
    rcases key with ⟨f', k1, k2⟩ | ⟨c, a1, e', k1, k3, k4, k5⟩
    · rw [k2]
      rw [k1] at hr4
      exact hr4
    · rw [k4]
      rw [k3] at hr4
      refine ⟨hr4, zDc_10 hf4 (by decide) ?_⟩
      obtain ⟨d1, d2, d3, d4, d5, d6, d7⟩ := hd
      have e10 : ∀ i, i ∉ [2, 3, 4, 8] → h2.1 10 i = h.1 10 i := hF2.2
      have eo : ∀ k, k ∉ [10] → h2.1 k = h.1 k := fun k hk => (hF2.1 k hk).1
      refine ⟨⟨?_, ?_, ?_, ?_, ?_, ?_⟩, ⟨?_, ?_, ?_⟩, ?_, ?_, ?_, ?_, ?_⟩
      · show h2.1 11 0 = _; rw [eo 11 (by decide)]; exact d1.1
      · show h2.1 11 1 = _; rw [eo 11 (by decide)]; exact d1.2.1
      · show h2.1 11 2 = _; rw [eo 11 (by decide)]; exact d1.2.2.1
      · show h2.1 11 3 = _; rw [eo 11 (by decide)]; exact d1.2.2.2.1
      · show h2.1 11 4 = _; rw [eo 11 (by decide)]; exact d1.2.2.2.2.1
      · show z = nI c; exact hz c a1 k1
      · show h2.1 10 6 = _; rw [e10 6 (by decide)]; exact d2.1
      · show h2.1 10 7 = _; rw [e10 7 (by decide)]; exact d2.2.1
      · show h2.1 10 8 = nI 1
        rw [hf2.2 8 (by decide)]; rfl
      · show ∀ c, c < 36 → h2.1 12 c = _; rw [eo 12 (by decide)]; exact d3
      · show dH D = 0 → h2.1 13 0 = 5; rw [eo 13 (by decide)]; exact d4
      · show ∀ t, t < dH D → h2.1 13 t = _; rw [eo 13 (by decide)]; exact d5
      · show ∀ m, m < dM D → h2.1 14 m = _ ∧ h2.1 15 m = _; rw [eo 14 (by decide), eo 15 (by decide)]; exact d6
      · show ∀ k, k < dN D → h2.1 16 k = _; rw [eo 16 (by decide)]; exact d7
  refine jC.of (lv := [some (.ref 10)]) (by decide) (Nat.le_of_ble_eq_true rfl) ⟨rfl, trivial⟩ (q_RdreadCastle_0 (n := n + 2) h (fun w => ?_) (fun w => ?_))
  · rw [hd.2.1.2.2] at w
    have he : dK D = 0 := (nI_eq (b := 0) (by omega) (by omega)).mp w
    exact main (.inr a) h (by rw [if_pos he]) (zF10.refl _ h) hr
  · rw [hd.2.1.2.2] at w
    have he : ¬ dK D = 0 := fun e => w (by rw [e]; rfl)
    rw [h5]
    refine ⟨_, c_Rdfail (nI 3) (nI s) h, fun v h1 hp => ?_⟩
    rw [hp.1, hp.2]
    obtain ⟨g1, g2⟩ := z_fail (k := 3) (w := s) (by decide) (by decide) hr
    exact q_RdreadCastle_16 (n := n + 2) _ (main (.inl (3, s)) _ (by rw [if_neg he]) g2 g1)
end SC
