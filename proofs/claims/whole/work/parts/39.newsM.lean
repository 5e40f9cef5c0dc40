/-! ===== the same of the model; canHear, first ===== -/
def zM1 (L : ZL) (k : Nat) (A W : Nat → Nat → Bool) (m c : Nat) : Bool := W m c || (A m c && decide (c = zP L k))
theorem zM1_mt (L : ZL) (k : Nat) (A W : Nat → Nat → Bool) (m c : Nat) : (zM1 L k A W m c || (A m c && zAny (fun i => zM1 L k A W i c) (zM L))) = zMt L k A W m c := by
  rw [Bool.eq_iff_iff]
  unfold zM1 zMt
  simp only [Bool.or_eq_true, Bool.and_eq_true, decide_eq_true_eq, zAny_iff]
  constructor
  · rintro ((h | ⟨h1, h2⟩) | ⟨h1, i, hi, h2 | ⟨h2, h3⟩⟩)
    · exact Or.inl h
    · exact Or.inr ⟨h1, Or.inl h2⟩
    · exact Or.inr ⟨h1, Or.inr ⟨i, hi, h2⟩⟩
    · exact Or.inr ⟨h1, Or.inl h3⟩
  · rintro (h | ⟨h1, h2 | ⟨i, hi, h2⟩⟩)
    · exact Or.inl (Or.inl h)
    · exact Or.inl (Or.inr ⟨h1, h2⟩)
    · exact Or.inr ⟨h1, i, hi, Or.inl h2⟩
theorem zMs_fr {L : ZL} {S : ZS} {b : List Nat} {h h2 : HP} (hf : zFr b h h2) (hb : 56 ∉ b) (q : zMs L S (h.1 56)) : zMs L S (h2.1 56) := by rw [(hf 56 hb).1]; exact q
section NM
variable {E : jEnv} {n : Nat} {X : State → Prop} {P : Option Value → HP → Prop} {L : ZL} {S : ZS} {k : Nat}
theorem c_Moshares (hL : zLok L) (hk : k < zN L) {A W : Nat → Nat → Bool} (h : HP) (hMl : zMl L h) (hA : zBs (zM L) 66 A h) (hW : zBs (zM L) 67 W h) : jC E mX8_shares n [.ref 52, .int (nI k)] h (fun v h2 => v = none ∧ zFr [67] h h2 ∧ zBs (zM L) 67 (zMt L k A W) h2) := by
  have hM : zM L ≤ 4 := hL.2.2.2.2.2.1
  have hN : zN L ≤ 4 := hL.2.2.2.2.2.2.1
  have hA36 := hL.2.2.1
  have hp36 := hL.2.2.2.2.2.2.2.2.2.2.2 k hk
  refine jC.of (lv := [some (.ref 52), some (.int (nI k)), none, none, none]) (by decide) (Nat.le_of_ble_eq_true rfl) ⟨rfl, rfl, trivial⟩ (q_Moshares_0 _ h ?_)
  have l2 : ∀ (x : Int64), zB x (fun c => zAny (fun i => zM1 L k A W i c) (zM L)) → ∀ (q a : Nat) (h' : HP), a + q = zM L → zFr [67] h h' → zBs (zM L) 67 (mxB a (zMt L k A W) (zM1 L k A W)) h' → jG E mX8_shares n (fun _ => True) (fun v h2 => v = none ∧ zFr [67] h h2 ∧ zBs (zM L) 67 (zMt L k A W) h2) 59 [some (.ref 52), none, some (.long x), none, some (.int (nI a))] [] h' := by
    intro x hx q
    induction q with
    | zero =>
      intro a h' ha hf hs
      obtain rfl : a = zM L := by omega
      have hle : h'.1 52 5 ≤ nI (zM L) := by rw [(zMl_fr hf (by decide) hMl).1.2.2.2.1]; exact Int32.le_refl _
      exact q_Moshares_59 _ _ h' (fun _ => ⟨rfl, hf, zBs_end hs⟩) (fun c => absurd hle c) (fun c => absurd hle c) (fun c => absurd hle c) (fun c => absurd hle c)
    | succ q ih =>
      intro a h' ha hf hs
      have hlt : ¬ h'.1 52 5 ≤ nI a := by rw [(zMl_fr hf (by decide) hMl).1.2.2.2.1]; exact nI_ge (by omega) (by omega)
      have hv : vp_in (nI a) 4 := z_vp (by omega) (by omega)
      refine q_Moshares_59 _ _ h' (fun c => absurd c hlt) (fun _ => hv) (fun _ => hv) (fun _ => hv) (fun _ => ?_)
      rw [nI_clamp (by omega), nI_1]
      refine ih (a + 1) _ (by omega) (hf.trans (zFr_L (by decide))) (zBs_put hs ?_)
      exact zB_eq (zB_or (zBs_at hs (by omega)) (zB_and (zBs_fr hf (by decide) hA a (by omega)) hx)) (fun c _ => zM1_mt L k A W a c)
  have l1 : ∀ (q a : Nat) (x : Int64) (h' : HP), a + q = zM L → zFr [67] h h' → zBs (zM L) 67 (mxB a (zM1 L k A W) W) h' → zB x (fun c => zAny (fun i => zM1 L k A W i c) a) → jG E mX8_shares n (fun _ => True) (fun v h2 => v = none ∧ zFr [67] h h2 ∧ zBs (zM L) 67 (zMt L k A W) h2) 5 [some (.ref 52), some (.int (nI k)), some (.long x), none, some (.int (nI a))] [] h' := by
    intro q
    induction q with
    | zero =>
      intro a x h' ha hf hs hx
      obtain rfl : a = zM L := by omega
      have hle : h'.1 52 5 ≤ nI (zM L) := by rw [(zMl_fr hf (by decide) hMl).1.2.2.2.1]; exact Int32.le_refl _
      exact q_Moshares_5 _ _ _ h' (fun _ => l2 x hx (zM L) 0 h' (by omega) hf (zBs_beg (zBs_end hs))) (fun c => absurd hle c) (fun c => absurd hle c) (fun c => absurd hle c) (fun c => absurd hle c) (fun c => absurd hle c) (fun c => absurd hle c)
    | succ q ih =>
      intro a x h' ha hf hs hx
      have hMl' := zMl_fr hf (by decide) hMl
      have hlt : ¬ h'.1 52 5 ≤ nI a := by rw [hMl'.1.2.2.2.1]; exact nI_ge (by omega) (by omega)
      have hv : vp_in (nI a) 4 := z_vp (by omega) (by omega)
      have hvk : vp_in (nI k) 4 := z_vp (by omega) (by omega)
      refine q_Moshares_5 _ _ _ h' (fun c => absurd c hlt) (fun _ => hv) (fun _ => hv) (fun _ => hvk) (fun _ => hv) (fun _ => hv) (fun _ => ?_)
      rw [nI_clamp (show a < 2 ^ 31 by omega), nI_clamp (show k < 2 ^ 31 by omega), hMl'.2.2.2 k hk, nI_1]
      have hw : zB ((h'.2 67 a) ||| ((h'.2 66 a) &&& (1 <<< ((nI (zP L k)).toInt64 &&& 63)))) (zM1 L k A W a) := zB_or (zBs_at hs (by omega)) (zB_and (zBs_fr hf (by decide) hA a (by omega)) (zB_one (show zP L k < 64 by omega)))
      exact ih (a + 1) _ _ (by omega) (hf.trans (zFr_L (by decide))) (zBs_put hs hw) (zB_eq (zB_or hx hw) (fun c _ => rfl))
  exact l1 (zM L) 0 0 h (by omega) (zFr.refl _ h) (zBs_beg hW) zB_0
theorem c_Mobegins (hL : zLok L) (hS : zSh L S) (hk : k < zN L) (h : HP) (hMl : zMl L h) (hs : zMs L S (h.1 56)) : jC E mX8_begins (n + 1) [.ref 52, .int (nI k)] h (fun v h2 => v = none ∧ zFr [66, 67] h h2 ∧ zNw L S k 0 66 67 h2) := by
  have hM : zM L ≤ 4 := hL.2.2.2.2.2.1
  have hN : zN L ≤ 4 := hL.2.2.2.2.2.2.1
  have hA36 := hL.2.2.1
  refine jC.of (lv := [some (.ref 52), some (.int (nI k)), none]) (by decide) (Nat.le_of_ble_eq_true rfl) ⟨rfl, rfl, trivial⟩ (q_Mobegins_0 _ h ?_)
  have main : ∀ (q a : Nat) (h' : HP), a + q = zM L → zFr [66, 67] h h' → zBf (zM L) 66 a (fun m => zRe L S m 0) h' → zBf (zM L) 67 a (zW0 S k) h' → jG E mX8_begins (n + 1) (fun _ => True) (fun v h2 => v = none ∧ zFr [66, 67] h h2 ∧ zNw L S k 0 66 67 h2) 2 [some (.ref 52), some (.int (nI k)), some (.int (nI a))] [] h' := by
    intro q
    induction q with
    | zero =>
      intro a h' ha hf h1 h2
      obtain rfl : a = zM L := by omega
      have hMl' := zMl_fr hf (by decide) hMl
      have hle : h'.1 52 5 ≤ nI (zM L) := by rw [hMl'.1.2.2.2.1]; exact Int32.le_refl _
      have hs1 : zBs (zM L) 66 (fun m => zRe L S m 0) h' := fun m hm => h1 m hm hm
      refine q_Mobegins_2 _ _ h' (fun _ => ?_) (fun c => absurd hle c) (fun c => absurd hle c) (fun c => absurd hle c) (fun c => absurd hle c) (fun c => absurd hle c) (fun c => absurd hle c) (fun c => absurd hle c) (fun c => absurd hle c) (fun c => absurd hle c)
      refine ⟨_, c_Moshares hL hk h' hMl' hs1 (fun m hm => h2 m hm hm), fun v h3 hp => ?_⟩
      obtain ⟨ev, hf3, hs3⟩ := hp
      rw [ev]
      exact q_Mobegins_71 h3 ⟨rfl, hf.trans (hf3.sub (by decide)), zBs_fr hf3 (by decide) hs1, hs3⟩
    | succ q ih =>
      intro a h' ha hf h1 h2
      have hMl' := zMl_fr hf (by decide) hMl
      have hs' := zMs_fr hf (by decide) hs
      have hlt : ¬ h'.1 52 5 ≤ nI a := by rw [hMl'.1.2.2.2.1]; exact nI_ge (by omega) (by omega)
      have hv : vp_in (nI a) 4 := z_vp (by omega) (by omega)
      have ham : a < zM L := by omega
      obtain ⟨s1, s2, s3⟩ := hS.2.2 a ham
      have hcl : (nI a).toNatClampNeg = a := nI_clamp (by omega)
      have hone : zB (1 <<< ((nI (zCe S a)).toInt64 &&& 63)) (zRe L S a 0) := zB_one (by omega)
      have hkn := z_knM _ (z_kn16 hL s3) k (by omega)
      have e5 : h'.1 56 (((2 + (6 * nI a)) + 3).toNatClampNeg) = nI (zKn S a) := by rw [z_ix3, nI_clamp (by omega)]; exact (hs'.2.2.2 a ham).2.2.2.1
      refine q_Mobegins_2 _ _ h' (fun c => absurd c hlt) (fun _ => by rw [z_ix1]; exact z_vp (by omega) (by omega)) (fun _ => by rw [z_ix0]; exact z_vp (by omega) (by omega)) (fun _ => hv) (fun _ => by rw [z_ix3]; exact z_vp (by omega) (by omega)) (fun _ _ => hv) (fun _ _ => hv) (fun _ w => ?_) (fun _ _ => hv) (fun _ w => ?_)
      · rw [e5] at w
        have hb := hkn.mp w
        rw [hcl, hMl'.1.1, z_spot hs' hM ham, nI_1]
        refine ih (a + 1) _ (by omega) (hf.trans ((zFr_L (by decide)).trans (zFr_L (by decide)))) (zBf_oth (zBf_put h1 hone) (by decide)) (zBf_put (zBf_oth h2 (by decide)) (zB_eq hone (fun c _ => ?_)))
        show decide (c = zCe S a) = ((zKn S a).testBit k && decide (c = zCe S a))
        rw [hb, Bool.true_and]
      · rw [e5] at w
        have hb : (zKn S a).testBit k = false := by
          cases r : (zKn S a).testBit k
          · rfl
          · exact absurd (hkn.mpr r) w
        rw [hcl, hMl'.1.1, z_spot hs' hM ham, nI_1]
        refine ih (a + 1) _ (by omega) (hf.trans ((zFr_L (by decide)).trans (zFr_L (by decide)))) (zBf_oth (zBf_put h1 hone) (by decide)) (zBf_put (zBf_oth h2 (by decide)) (zB_eq zB_0 (fun c _ => ?_)))
        show false = ((zKn S a).testBit k && decide (c = zCe S a))
        rw [hb, Bool.false_and]
  exact main (zM L) 0 h (by omega) (zFr.refl _ h) (fun m hm h2 => absurd h2 (by omega)) (fun m hm h2 => absurd h2 (by omega))
theorem c_Mocomes (hL : zLok L) (hS : zSh L S) (hk : k < zN L) {i : Nat} (hi : i < 2 ^ 28) (h : HP) (hMl : zMl L h) (hs : zMs L S (h.1 56)) (hN : zNw L S k i 66 67 h) : jC E mX8_comes (n + 5) [.ref 52, .int (nI k), .int (nI (zH S + (i + 1)))] h (fun v h2 => v = none ∧ zFr [66, 67] h h2 ∧ zNw L S k (i + 1) 66 67 h2) := by
  have hM : zM L ≤ 4 := hL.2.2.2.2.2.1
  have hH := hS.1
  refine jC.of (lv := [some (.ref 52), some (.int (nI k)), some (.int (nI (zH S + (i + 1)))), none]) (by decide) (Nat.le_of_ble_eq_true rfl) ⟨rfl, rfl, rfl, trivial⟩ (q_Mocomes_0 _ _ h ?_)
  have main : ∀ (q a : Nat) (h' : HP), a + q = zM L → zFr [66, 67] h h' → zBs (zM L) 66 (mxB a (fun m => zRe L S m (i + 1)) (fun m => zRe L S m i)) h' → zBs (zM L) 67 (mxB a (fun m => zSt L (zSk S) (zSl S m) (zH S + (i + 1)) (zWi L S k i m)) (zWi L S k i)) h' → jG E mX8_comes (n + 5) (fun _ => True) (fun v h2 => v = none ∧ zFr [66, 67] h h2 ∧ zNw L S k (i + 1) 66 67 h2) 2 [some (.ref 52), some (.int (nI k)), some (.int (nI (zH S + (i + 1)))), some (.int (nI a))] [] h' := by
    intro q
    induction q with
    | zero =>
      intro a h' ha hf h1 h2
      obtain rfl : a = zM L := by omega
      have hMl' := zMl_fr hf (by decide) hMl
      have hle : h'.1 52 5 ≤ nI (zM L) := by rw [hMl'.1.2.2.2.1]; exact Int32.le_refl _
      refine q_Mocomes_2 _ _ _ h' (fun _ => ?_) (fun c => absurd hle c) (fun c => absurd hle c) (fun c => absurd hle c)
      refine ⟨_, c_Moshares hL hk h' hMl' (zBs_end h1) (zBs_end h2), fun v h3 hp => ?_⟩
      obtain ⟨ev, hf3, hs3⟩ := hp
      rw [ev]
      exact q_Mocomes_81 h3 ⟨rfl, hf.trans (hf3.sub (by decide)), zBs_fr hf3 (by decide) (zBs_end h1), hs3⟩
    | succ q ih =>
      intro a h' ha hf h1 h2
      have hMl' := zMl_fr hf (by decide) hMl
      have hs' := zMs_fr hf (by decide) hs
      have hlt : ¬ h'.1 52 5 ≤ nI a := by rw [hMl'.1.2.2.2.1]; exact nI_ge (by omega) (by omega)
      have hv : vp_in (nI a) 4 := z_vp (by omega) (by omega)
      have hv2 : vp_in ((2 + (6 * nI a)) + 2) 62 := by rw [z_ix2]; exact z_vp (by omega) (by omega)
      have hcl : (nI a).toNatClampNeg = a := nI_clamp (by omega)
      have ham : a < zM L := by omega
      obtain ⟨s1, s2, s3⟩ := hS.2.2 a ham
      have e4 : h'.1 56 (((2 + (6 * nI a)) + 2).toNatClampNeg) = nI (zSl S a) := by rw [z_ix2, nI_clamp (by omega)]; exact (hs'.2.2.2 a ham).2.2.1
      refine q_Mocomes_2 _ _ _ h' (fun c => absurd c hlt) (fun _ => hv) (fun _ => hv2) (fun _ => ?_)
      rw [hcl, e4]
      refine ⟨_, c_Mostepped hL h' hMl' hs'.2.2.1 s2 (by omega) (zBs_at h1 ham) (zRe_sup hS ham i), fun v h3 hp => ?_⟩
      obtain ⟨⟨y, ev, hy⟩, eh⟩ := hp
      rw [ev, eh]
      refine q_Mocomes_39 _ _ _ y _ h' hv hv hv2 ?_
      rw [hcl, e4]
      have hf4 : zFr [66, 67] h' (jPL h' 66 a y) := zFr_L (by decide)
      refine ⟨_, c_Mostepped hL (jPL h' 66 a y) (zMl_fr hf4 (by decide) hMl') (zMs_fr hf4 (by decide) hs').2.2.1 s2 (by omega) (zBs_at h2 ham) (zWi_sup hS ham i), fun v h5 hp => ?_⟩
      obtain ⟨⟨y2, ev2, hy2⟩, eh2⟩ := hp
      rw [ev2, eh2]
      refine q_Mocomes_69 _ _ _ y2 _ _ hv ?_
      rw [hcl, nI_1]
      exact ih (a + 1) _ (by omega) ((hf.trans hf4).trans (zFr_L (by decide))) (zBs_oth (zBs_put h1 hy) (by decide)) (zBs_put (zBs_oth h2 (by decide)) hy2)
  exact main (zM L) 0 h (by omega) (zFr.refl _ h) (zBs_beg hN.1) (zBs_beg hN.2)
theorem c_MofirstOf (hL : zLok L) (hS : zSh L S) (hk : k < zN L) {lim : Nat} (hlim : lim ≤ 40) (h : HP) (hMl : zMl L h) (hs : zMs L S (h.1 56)) : jC E mX8_firstOf (n + 6) [.ref 52, .int (nI k), .int (nI lim)] h (fun v h2 => v = some (.int (zFi (zGo L S k) (lim + 1) 0)) ∧ zFr [52, 66, 67] h h2 ∧ (∀ i, i ≠ 40 → h2.1 52 i = h.1 52 i) ∧ ∀ i, i < 2 ^ 31 → zFi (zGo L S k) (lim + 1) 0 = nI i → h2.1 52 40 = zBy L S k i) := by
  have hM : zM L ≤ 4 := hL.2.2.2.2.2.1
  have hc := z_cas hL
  have hH := hS.1
  refine jC.of (lv := [some (.ref 52), some (.int (nI k)), some (.int (nI lim)), none, none]) (by decide) (Nat.le_of_ble_eq_true rfl) ⟨rfl, rfl, rfl, trivial⟩ (q_MofirstOf_0 _ _ h ?_)
  refine ⟨_, c_Mobegins hL hS hk h hMl hs, fun v h1 hp => ?_⟩
  obtain ⟨ev, hf1, hn1⟩ := hp
  rw [ev]
  refine q_MofirstOf_5 _ _ h1 ?_
  have inner : ∀ (i : Nat) (h' : HP), i ≤ 40 → zFr [66, 67] h h' → zNw L S k i 66 67 h' → (zGo L S k i = false → jG E mX8_firstOf (n + 6) (fun _ => True) (fun v h2 => v = some (.int (zFi (zGo L S k) (lim + 1) 0)) ∧ zFr [52, 66, 67] h h2 ∧ (∀ i, i ≠ 40 → h2.1 52 i = h.1 52 i) ∧ ∀ i, i < 2 ^ 31 → zFi (zGo L S k) (lim + 1) 0 = nI i → h2.1 52 40 = zBy L S k i) 15 [some (.ref 52), some (.int (nI k)), some (.int (nI lim)), some (.int (nI i)), some (.int (nI (zM L)))] [] h') → (zGo L S k i = true → zFi (zGo L S k) (lim + 1) 0 = nI i) → ∀ (q a : Nat), a + q = zM L → zBy L S k i = zFi (fun m => zWi L S k i m (zC L)) q a → jG E mX8_firstOf (n + 6) (fun _ => True) (fun v h2 => v = some (.int (zFi (zGo L S k) (lim + 1) 0)) ∧ zFr [52, 66, 67] h h2 ∧ (∀ i, i ≠ 40 → h2.1 52 i = h.1 52 i) ∧ ∀ i, i < 2 ^ 31 → zFi (zGo L S k) (lim + 1) 0 = nI i → h2.1 52 40 = zBy L S k i) 15 [some (.ref 52), some (.int (nI k)), some (.int (nI lim)), some (.int (nI i)), some (.int (nI a))] [] h' := by
    intro i h' hi hf hn k0 k1 q
    have hMl' := zMl_fr hf (by decide) hMl
    induction q with
    | zero =>
      intro a ha hv
      obtain rfl : a = zM L := by omega
      exact k0 ((zBy_m1 hL i).mp (by rw [hv]; rfl))
    | succ q ih =>
      intro a ha hv
      have hlt : ¬ h'.1 52 5 ≤ nI a := by rw [hMl'.1.2.2.2.1]; exact nI_ge (by omega) (by omega)
      have ham : a < zM L := by omega
      have hcl : (nI a).toNatClampNeg = a := nI_clamp (by omega)
      have hh := z_has1 (h'.2 67 a) hc
      rw [hn.2 a ham _ hc] at hh
      refine q_MofirstOf_15 _ _ _ _ h' (fun c => absurd c hlt) (fun _ => z_vp (by omega) (by omega)) (fun _ w => ?_) (fun _ w => ?_)
      · rw [hcl, hMl'.1.2.2.2.2.2] at w
        have hb := hh.mp w
        have hby : zBy L S k i = nI a := by rw [hv]; exact zFi_y (p := fun m => zWi L S k i m (zC L)) hb
        have hg : zGo L S k i = true := zAny_iff.mpr ⟨a, ham, hb⟩
        have hvi := k1 hg
        refine ⟨by rw [hvi], (hf.sub (by decide)).trans (zFr_I (by decide)), fun t ht => ?_, fun t ht et => ?_⟩
        · show upd (h'.1 52) 40 (nI a) t = _
          rw [upd_ne ht, (hf 52 (by decide)).1]
        · rw [hvi] at et
          have := (nI_eq (by omega) ht).mp et
          rw [← this, hby]
          exact jPI_at
      · rw [hcl, hMl'.1.2.2.2.2.2] at w
        have hb : zWi L S k i a (zC L) = false := by
          cases r : zWi L S k i a (zC L)
          · rfl
          · exact absurd (hh.mpr r) w
        rw [nI_1]
        exact ih (a + 1) (by omega) (by rw [hv]; exact zFi_n (p := fun m => zWi L S k i m (zC L)) hb)
  have main : ∀ (q i : Nat) (h' : HP), i + q = lim + 1 → zFr [66, 67] h h' → zNw L S k i 66 67 h' → zFi (zGo L S k) (lim + 1) 0 = zFi (zGo L S k) q i → jG E mX8_firstOf (n + 6) (fun _ => True) (fun v h2 => v = some (.int (zFi (zGo L S k) (lim + 1) 0)) ∧ zFr [52, 66, 67] h h2 ∧ (∀ i, i ≠ 40 → h2.1 52 i = h.1 52 i) ∧ ∀ i, i < 2 ^ 31 → zFi (zGo L S k) (lim + 1) 0 = nI i → h2.1 52 40 = zBy L S k i) 7 [some (.ref 52), some (.int (nI k)), some (.int (nI lim)), some (.int (nI i)), none] [] h' := by
    intro q
    induction q with
    | zero =>
      intro i h' hi hf hn hv
      have hlt : nI lim < nI i := nI_lt (by omega) (by omega)
      have hv1 : zFi (zGo L S k) (lim + 1) 0 = -1 := by rw [hv]; rfl
      exact q_MofirstOf_7 _ _ _ h' (fun _ => ⟨by rw [hv1], hf.sub (by decide), fun t ht => by rw [(hf 52 (by decide)).1], fun t ht et => by rw [hv1] at et; exact absurd et.symm (nI_neg1 ht)⟩) (fun c => absurd hlt c)
    | succ q ih =>
      intro i h' hi hf hn hv
      have hlt : ¬ nI lim < nI i := nI_nlt (by omega) (by omega)
      have hMl' := zMl_fr hf (by decide) hMl
      have hs' := zMs_fr hf (by decide) hs
      refine q_MofirstOf_7 _ _ _ h' (fun c => absurd c hlt) (fun _ => ?_)
      refine inner i h' (by omega) hf hn (fun hb => ?_) (fun hb => by rw [hv, zFi_y hb]) (zM L) 0 (by omega) rfl
      have hle : h'.1 52 5 ≤ nI (zM L) := by rw [hMl'.1.2.2.2.1]; exact Int32.le_refl _
      refine q_MofirstOf_15 _ _ _ _ h' (fun _ => ?_) (fun c => absurd hle c) (fun c => absurd hle c) (fun c => absurd hle c)
      rw [hs'.1, nI_add, nI_1]
      refine ⟨_, c_Mocomes hL hS hk (show i < 2 ^ 28 by omega) h' hMl' hs' hn, fun v h3 hp => ?_⟩
      obtain ⟨ev3, hf3, hn3⟩ := hp
      rw [ev3]
      refine q_MofirstOf_72 _ _ _ h3 ?_
      rw [nI_1]
      exact ih (i + 1) h3 (by omega) (hf.trans hf3) hn3 (by rw [hv, zFi_n hb])
  exact main (lim + 1) 0 h1 (by omega) hf1 hn1 rfl
end NM
theorem p_canHear (E : jEnv) (x y : Int32) : jPair E 100 zInv mX7_canHear mX8_canHear [.int x, .int y] := by
  intro j h hj hI
  have hI' := hI
  obtain ⟨L, S, hL, hCl, hMl, hS, hCs, hMs, hIm, hFt, hBk, hTx, hFa⟩ := hI
  have hM4 : zM L ≤ 4 := hL.2.2.2.2.2.1
  have hN4 : zN L ≤ 4 := hL.2.2.2.2.2.2.1
  have hA := hL.2.2.1
  have hsh : zSh L S := hS.sh (by omega)
  have hO := zOl_tk hM4 hCs
  have hf := hTk_fr h
  have hCl2 := zCl_fr hf (by decide) hCl
  have e3 : h.1 3 3 = nI (zM L) := hCl.1.2.2.2.1
  have e4 : h.1 3 4 = nI (zN L) := hCl.1.2.2.2.2.1
  have e5 : h.1 52 5 = nI (zM L) := hMl.1.2.2.2.1
  have e6 : h.1 52 6 = nI (zN L) := hMl.1.2.2.2.2.1
  have bad : ∀ (hn : f_LdisMan (h.1 3 3) x = 0 ∨ f_LdisNews (h.1 3 4) y = 0) (hn2 : f_MoisMan (h.1 52 5) x = 0 ∨ f_MoisNews (h.1 52 6) y = 0), jCall E mX7_canHear 100 (.ref 0 :: [.int x, .int y]) h (fun v h2 => ∃ r : Int32, v = some (.int r) ∧ jCall E mX8_canHear 100 (.ref 52 :: [.int x, .int y]) h2 (fun v2 h3 => v2 = some (.int r) ∧ zInv (j + 1) h3)) := fun hn hn2 => by
    have c1 : jC E mX7_canHear 100 [.ref 0, .int x, .int y] h (fun v h2 => v = some (.int (-1000000001)) ∧ h2 = h) := by
      refine jC.of (lv := [some (.ref 0), some (.int x), some (.int y)]) (by decide) (Nat.le_of_ble_eq_true rfl) ⟨rfl, rfl, rfl, trivial⟩ (q_ShcanHear_0 (n := 98) _ _ h (fun _ => ⟨rfl, rfl⟩) (fun _ _ => ⟨rfl, rfl⟩) (fun q1 q2 => ?_))
      rcases hn with w | w
      · exact absurd w q1
      · exact absurd w q2
    have c2 : jC E mX8_canHear 100 [.ref 52, .int x, .int y] h (fun v h2 => v = some (.int (-1000000001)) ∧ h2 = h) := by
      refine jC.of (lv := [some (.ref 52), some (.int x), some (.int y), none]) (by decide) (Nat.le_of_ble_eq_true rfl) ⟨rfl, rfl, rfl, trivial⟩ (q_MocanHear_0 (n := 98) _ _ h (fun _ => ⟨rfl, rfl⟩) (fun _ _ => ⟨rfl, rfl⟩) (fun q1 q2 => ?_))
      rcases hn2 with w | w
      · exact absurd w q1
      · exact absurd w q2
    exact z_pair c1 c2 rfl (zInv_mono j h hI')
  rcases z_isMan (n := zM L) (by omega) x with ⟨m1, m2, m, hm, ex⟩ | ⟨m1, m2⟩
  · rcases z_isNews (n := zN L) (by omega) y with ⟨d1, d2, k, hk, ey⟩ | ⟨d1, d2⟩
    · have c1 : jC E mX7_canHear 100 [.ref 0, .int x, .int y] h (fun v h2 => v = some (.int (zFi (fun i => zAny (zWi L S k i m) 64) 41 0)) ∧ zFr [24, 25, 26, 27] h h2) := by
        refine jC.of (lv := [some (.ref 0), some (.int x), some (.int y)]) (by decide) (Nat.le_of_ble_eq_true rfl) ⟨rfl, rfl, rfl, trivial⟩ (q_ShcanHear_0 (n := 98) _ _ h (fun q => ?_) (fun _ q => ?_) (fun _ _ => ?_))
        · rw [e3, m1] at q; exact absurd q one0
        · rw [e4, d1] at q; exact absurd q one0
        · rw [ex, ey]
          refine ⟨_, c_OlhoursToHear (n := 97) hL hsh hk hm (hTk h) hCl2 hO, fun v h2 hp => ?_⟩
          rw [hp.1]
          exact q_ShcanHear_41 _ _ ⟨rfl, (hf.sub (by decide)).trans (hp.2.sub (by decide))⟩
      refine ⟨_, c1, fun v h2 hp => ⟨_, hp.1, ?_⟩⟩
      have hf2 := hp.2
      have hMl2 := zMl_fr hf2 (by decide) hMl
      have hs2 := zMs_fr hf2 (by decide) hMs
      have c2 : jC E mX8_canHear 100 [.ref 52, .int x, .int y] h2 (fun v h3 => v = some (.int (zFi (fun i => zAny (zWi L S k i m) 64) 41 0)) ∧ zFr [66, 67] h2 h3) := by
        refine jC.of (lv := [some (.ref 52), some (.int x), some (.int y), none]) (by decide) (Nat.le_of_ble_eq_true rfl) ⟨rfl, rfl, rfl, trivial⟩ (q_MocanHear_0 (n := 98) _ _ h2 (fun q => ?_) (fun _ q => ?_) (fun _ _ => ?_))
        · rw [hMl2.1.2.2.2.1, m2] at q; exact absurd q one0
        · rw [hMl2.1.2.2.2.2.1, d2] at q; exact absurd q one0
        · rw [ex, ey]
          refine ⟨_, c_Mobegins (n := 98) hL hsh hk h2 hMl2 hs2, fun v h3 hp3 => ?_⟩
          obtain ⟨ev3, hf3, hn3⟩ := hp3
          rw [ev3]
          refine q_MocanHear_24 _ _ h3 ?_
          have main : ∀ (q i : Nat) (h' : HP), i + q = 41 → zFr [66, 67] h2 h' → zNw L S k i 66 67 h' → zFi (fun i => zAny (zWi L S k i m) 64) 41 0 = zFi (fun i => zAny (zWi L S k i m) 64) q i → jG E mX8_canHear 100 (fun _ => True) (fun v h3 => v = some (.int (zFi (fun i => zAny (zWi L S k i m) 64) 41 0)) ∧ zFr [66, 67] h2 h3) 26 [some (.ref 52), some (.int (nI m)), some (.int (nI k)), some (.int (nI i))] [] h' := by
            intro q
            induction q with
            | zero =>
              intro i h' hi hf' hn hv
              obtain rfl : i = 41 := by omega
              exact q_MocanHear_26 (n := 98) _ _ _ h' (fun _ => ⟨by rw [hv]; rfl, hf'⟩) (fun c => absurd (by decide) c) (fun c => absurd (by decide) c) (fun c => absurd (by decide) c)
            | succ q ih =>
              intro i h' hi hf' hn hv
              have h40 : ¬ (40 : Int32) < nI i := nle40 (by omega)
              have hcl : (nI m).toNatClampNeg = m := nI_clamp (by omega)
              have hz := z_cmp0 hL (hn.2 m hm) (zWi_sup hsh hm i)
              have hs' := zMs_fr hf' (by decide) hs2
              refine q_MocanHear_26 (n := 98) _ _ _ h' (fun c => absurd c h40) (fun _ => z_vp (by omega) (by omega)) (fun _ w => ?_) (fun _ w => ?_)
              · rw [hcl] at w
                have hb := zAny_em (n := 64) (hz.mp w)
                rw [hs'.1, nI_add, nI_1]
                refine ⟨_, c_Mocomes (n := 94) hL hsh hk (show i < 2 ^ 28 by omega) h' (zMl_fr hf' (by decide) hMl2) hs' hn, fun v h3 hp => ?_⟩
                obtain ⟨ev3, hf3, hn3⟩ := hp
                rw [ev3]
                refine q_MocanHear_60 (n := 98) _ _ _ h3 ?_
                rw [nI_1]
                exact ih (i + 1) h3 (by omega) (hf'.trans hf3) hn3 (by rw [hv]; exact zFi_n (p := fun i => zAny (zWi L S k i m) 64) hb)
              · rw [hcl] at w
                have hb := zAny_ne hL (zWi_sup hsh hm i) (fun r => w (hz.mpr r))
                exact ⟨by rw [hv]; exact congrArg (fun z => some (Value.int z)) (zFi_y (p := fun i => zAny (zWi L S k i m) 64) hb).symm, hf'⟩
          exact main 41 0 h3 (by omega) hf3 hn3 rfl
      refine ⟨_, c2, fun v2 h3 hp2 => ⟨hp2.1, ?_⟩⟩
      exact zInv_mono j _ (zInv_fr ((hf2.sub (by decide)).trans (hp2.2.sub (by decide))) (fun i _ => by rw [(hp2.2 52 (by decide)).1, (hf2 52 (by decide)).1]) hI')
    · exact bad (Or.inr (by rw [e4]; exact d1)) (Or.inr (by rw [e6]; exact d2))
  · exact bad (Or.inl (by rw [e3]; exact m1)) (Or.inl (by rw [e5]; exact m2))
theorem p_first (E : jEnv) (x y : Int32) : jPair E 100 zInv mX7_first mX8_first [.int x, .int y] := by
  intro j h hj hI
  have hI' := hI
  obtain ⟨L, S, hL, hCl, hMl, hS, hCs, hMs, hIm, hFt, hBk, hTx, hFa⟩ := hI
  have hM4 : zM L ≤ 4 := hL.2.2.2.2.2.1
  have hN4 : zN L ≤ 4 := hL.2.2.2.2.2.2.1
  have hsh : zSh L S := hS.sh (by omega)
  have hO := zOl_tk hM4 hCs
  have hf := hTk_fr h
  have hCl2 := zCl_fr hf (by decide) hCl
  have e4 : h.1 3 4 = nI (zN L) := hCl.1.2.2.2.2.1
  have e6 : h.1 52 6 = nI (zN L) := hMl.1.2.2.2.2.1
  rcases z_isNews (n := zN L) (by omega) x with ⟨d1, d2, k, hk, ex⟩ | ⟨d1, d2⟩
  · have d1' : ¬ f_LdisNews (h.1 3 4) x = 0 := by rw [e4, d1]; exact one0
    rcases z_bnd (x := y) (b := 1) (b2 := 1) (k := 1) (by decide) (by decide) with ⟨y1, y2, y3, t, ht, ey⟩ | ⟨y1, y3⟩
    · let V : Int32 := zFi (zGo L S k) 41 0
      let R : Int32 := if y = 0 then V else if V = -1 then -1 else zBy L S k V.toNatClampNeg
      have c1 : jC E mX7_first 100 [.ref 0, .int x, .int y] h (fun v h2 => v = some (.int R) ∧ zFr [24, 25, 26, 27] h h2) := by
        refine jC.of (lv := [some (.ref 0), some (.int x), some (.int y), none]) (by decide) (Nat.le_of_ble_eq_true rfl) ⟨rfl, rfl, rfl, trivial⟩ (q_Shfirst_0 (n := 98) _ _ h (fun q => absurd q d1') (fun _ q => absurd q y1) (fun _ _ _ => ?_) (fun _ _ q => absurd y2 q))
        rw [ex]
        refine ⟨_, c_OlhoursToCastle (n := 97) hL hsh hk (lim := 40) (by omega) (hTk h) hCl2 hO, fun v h2 hp => ?_⟩
        obtain ⟨ev, hf2, i, hW, hor⟩ := hp
        have hfr : zFr [24, 25, 26, 27] h h2 := (hf.sub (by decide)).trans (hf2.sub (by decide))
        rw [ev]
        refine q_Shfirst_43 (n := 98) _ _ h2 (fun w => ⟨by show _ = some (Value.int (if y = 0 then V else _)); rw [if_pos w], hfr⟩) (fun w => ?_)
        refine ⟨_, c_Olbearer (n := 98) (S := S) (k := k) (i := i) hL h2 (zCl_fr hfr (by decide) hCl) hW, fun v h3 hp3 => ?_⟩
        rw [hp3.1, hp3.2]
        refine q_Shfirst_59 (n := 98) _ h2 ⟨?_, hfr⟩
        show _ = some (Value.int (if y = 0 then V else if V = -1 then -1 else zBy L S k V.toNatClampNeg))
        rw [if_neg w]
        rcases hor with ⟨g1, g2⟩ | ⟨g1, g2, g3⟩
        · rw [if_pos (show V = -1 from g1), (zBy_m1 hL i).mpr g2]
        · have hV : V = nI i := g1
          rw [if_neg (by rw [hV]; exact nI_neg1 (by omega)), hV, nI_clamp (by omega)]
      refine ⟨_, c1, fun v h2 hp => ⟨_, hp.1, ?_⟩⟩
      have hf2 := hp.2
      have hMl2 := zMl_fr hf2 (by decide) hMl
      have hs2 := zMs_fr hf2 (by decide) hMs
      have c2 : jC E mX8_first 100 [.ref 52, .int x, .int y] h2 (fun v h3 => v = some (.int R) ∧ zFr [52, 66, 67] h2 h3 ∧ ∀ i, i ≠ 40 → h3.1 52 i = h2.1 52 i) := by
        refine jC.of (lv := [some (.ref 52), some (.int x), some (.int y), none]) (by decide) (Nat.le_of_ble_eq_true rfl) ⟨rfl, rfl, rfl, trivial⟩ (q_Mofirst_0 (n := 98) _ _ h2 (fun q => ?_) (fun _ q => ?_) (fun _ _ => ?_))
        · rw [hMl2.1.2.2.2.2.1, d2] at q; exact absurd q one0
        · rw [y3] at q; exact absurd q one0
        · rw [ex]
          refine ⟨_, c_MofirstOf (n := 93) hL hsh hk (lim := 40) (by omega) h2 hMl2 hs2, fun v h3 hp3 => ?_⟩
          obtain ⟨ev3, hf3, h52, hb3⟩ := hp3
          rw [ev3]
          have eR : R = if y = 0 then V else if V = -1 then -1 else zBy L S k V.toNatClampNeg := rfl
          refine q_Mofirst_31 (n := 98) _ _ h3 (fun w => ⟨?_, hf3, h52⟩) (fun w w2 => ⟨?_, hf3, h52⟩) (fun w w2 => ⟨?_, hf3, h52⟩)
          · rw [eR, show V = -1 from w]
            show some (Value.int V) = _
            rw [show V = -1 from w]
            split <;> rfl
          · rw [eR, if_pos w2]
          · rw [eR, if_neg w2, if_neg w]
            have hyes : ∃ i, 0 ≤ i ∧ i < 0 + 41 ∧ zGo L S k i = true := by
              cases q : zAny (zGo L S k) 41
              · exact absurd ((zFi_m1 (by omega)).mpr q) w
              · obtain ⟨i, i1, i2⟩ := zAny_iff.mp q
                exact ⟨i, by omega, by omega, i2⟩
            obtain ⟨i, _, i2, _, i4, _⟩ := zFi_yes 41 0 hyes
            rw [hb3 i (by omega) i4, show V = nI i from i4, nI_clamp (by omega)]
      refine ⟨_, c2, fun v2 h3 hp2 => ⟨hp2.1, ?_⟩⟩
      exact zInv_mono j _ (zInv_fr ((hf2.sub (by decide)).trans (hp2.2.1.sub (by decide))) (fun i hi => by rw [hp2.2.2 i hi, (hf2 52 (by decide)).1]) hI')
    · have c1 : jC E mX7_first 100 [.ref 0, .int x, .int y] h (fun v h2 => v = some (.int (-1000000002)) ∧ h2 = h) := by
        refine jC.of (lv := [some (.ref 0), some (.int x), some (.int y), none]) (by decide) (Nat.le_of_ble_eq_true rfl) ⟨rfl, rfl, rfl, trivial⟩ (q_Shfirst_0 (n := 98) _ _ h (fun q => absurd q d1') (fun _ _ => ⟨rfl, rfl⟩) (fun _ q1 q2 => ?_) (fun _ _ _ => ⟨rfl, rfl⟩))
        rcases y1 with w | ⟨_, w⟩
        · exact absurd w q1
        · exact absurd q2 w
      have c2 : jC E mX8_first 100 [.ref 52, .int x, .int y] h (fun v h2 => v = some (.int (-1000000002)) ∧ h2 = h) := by
        refine jC.of (lv := [some (.ref 52), some (.int x), some (.int y), none]) (by decide) (Nat.le_of_ble_eq_true rfl) ⟨rfl, rfl, rfl, trivial⟩ (q_Mofirst_0 (n := 98) _ _ h (fun q => ?_) (fun _ _ => ⟨rfl, rfl⟩) (fun _ q => absurd y3 q))
        rw [e6, d2] at q; exact absurd q one0
      exact z_pair c1 c2 rfl (zInv_mono j h hI')
  · have c1 : jC E mX7_first 100 [.ref 0, .int x, .int y] h (fun v h2 => v = some (.int (-1000000001)) ∧ h2 = h) := by
      have d1' : f_LdisNews (h.1 3 4) x = 0 := by rw [e4, d1]
      exact jC.of (lv := [some (.ref 0), some (.int x), some (.int y), none]) (by decide) (Nat.le_of_ble_eq_true rfl) ⟨rfl, rfl, rfl, trivial⟩ (q_Shfirst_0 (n := 98) _ _ h (fun _ => ⟨rfl, rfl⟩) (fun q => absurd d1' q) (fun q => absurd d1' q) (fun q => absurd d1' q))
    have c2 : jC E mX8_first 100 [.ref 52, .int x, .int y] h (fun v h2 => v = some (.int (-1000000001)) ∧ h2 = h) := by
      have d2' : f_MoisNews (h.1 52 6) x = 0 := by rw [e6, d2]
      exact jC.of (lv := [some (.ref 52), some (.int x), some (.int y), none]) (by decide) (Nat.le_of_ble_eq_true rfl) ⟨rfl, rfl, rfl, trivial⟩ (q_Mofirst_0 (n := 98) _ _ h (fun _ => ⟨rfl, rfl⟩) (fun q => absurd d2' q) (fun q => absurd d2' q))
    exact z_pair c1 c2 rfl (zInv_mono j h hI')
