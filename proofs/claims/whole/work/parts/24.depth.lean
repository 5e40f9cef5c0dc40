/-! ===== depths, and the calls that need no search ===== -/
def zDe (L : ZL) (k : Nat → Bool) (c t : Nat) : Nat := if k c = true then 0 else zWa L c t
theorem z_tide {tn t : Nat} (h1 : 1 ≤ tn) (h6 : tn ≤ 6) (ht : t < 2 ^ 31) : f_LdtideOf (nI tn) (nI t) = nI (t % tn) := by
  unfold f_LdtideOf
  rw [if_neg (nI_nle (by omega) (by omega))]
  by_cases h0 : t = 0
  · subst h0
    rw [if_pos (by rw [nI_0]; exact Int32.le_refl 0), Nat.zero_mod, nI_0]
  · rw [if_neg (nI_nle (by omega) ht)]
    exact pk_rem ht (by omega) (by omega)
theorem z_less5 {a b : Nat} (ha : a ≤ 9) (hb : b ≤ 9) : (if (0 : Int32) ≤ (nI a + nI b) - 5 then (nI a + nI b) - 5 else 0) = nI (a + b - 5) := by
  have e5 : (5 : Int32) = nI 5 := rfl
  rw [nI_add, e5]
  have h1 := pk_sub_toInt (a := a + b) (b := 5) (by omega) (by omega)
  by_cases h : 5 ≤ a + b
  · rw [if_pos (by rw [Int32.le_iff_toInt_le, h1, Int32.toInt_zero]; omega), pk_sub h]
  · rw [if_neg (by rw [Int32.le_iff_toInt_le, h1, Int32.toInt_zero]; omega), show a + b - 5 = 0 by omega, nI_0]
theorem z_water {L : ZL} (hL : zLok L) {r4 r5 : Nat → Int32} (h4 : ∀ c, c < 36 → r4 c = nI (zO L c)) (h5 : ∀ t, t < zT L → r5 t = nI (zD L t)) {c t : Nat} (hc : c < 36) (ht : t < 2 ^ 31) : f_LdwaterOn (nI (zT L)) r4 r5 (nI c) (nI t) = nI (zWa L c t) := by
  obtain ⟨t1, t6⟩ := hL.2.2.2.2.1
  have hm : t % zT L < zT L := Nat.mod_lt _ (by omega)
  have a1 := hL.2.2.2.2.2.2.2.2.2.1 c hc
  have a2 := hL.2.2.2.2.2.2.2.2.2.2.1 _ hm
  have h36 : ¬ (36 : Int32) ≤ nI c := by
    rw [show (36 : Int32) = nI 36 from rfl]; exact nI_ge hc (by omega)
  generalize hq : t % zT L = q at *
  have h6 : nI q < 6 := by
    rw [show (6 : Int32) = nI 6 from rfl]; exact nI_lt (by omega) (by omega)
  have hc1 : (nI c).toNatClampNeg = c := nI_clamp (by omega)
  have hc2 : (nI q).toNatClampNeg = q := nI_clamp (by omega)
  have e := z_less5 a1 a2
  unfold f_LdwaterOn zWa
  rw [z_tide t1 t6 ht, hq, if_neg (nI_pos (by omega)), if_neg h36, if_pos h6, hc1, hc2, h4 c hc, h5 _ hm, e]
theorem z_depthC {L : ZL} (hL : zLok L) {r4 r5 : Nat → Int32} (h4 : ∀ c, c < 36 → r4 c = nI (zO L c)) (h5 : ∀ t, t < zT L → r5 t = nI (zD L t)) {g : Int64} {k : Nat → Bool} (hg : zB g k) {c t : Nat} (hc : c < 36) (ht : t < 2 ^ 31) : f_StdepthOf (nI (zT L)) g r4 r5 (nI c) (nI t) = nI (zDe L k c t) := by
  unfold f_StdepthOf zDe
  rw [z_has g (show c < 64 by omega), hg c (by omega)]
  by_cases hk : k c = true
  · rw [if_pos hk, if_pos hk, if_neg one0, nI_0]
  · rw [if_neg hk, if_neg hk, if_pos rfl]
    exact z_water hL h4 h5 hc ht
theorem z_26 (c : Nat) : 26 + nI c = nI (26 + c) := by
  show nI 26 + nI c = _
  rw [nI_add]
theorem z_depthM {L : ZL} (hL : zLok L) {r53 r54 r56 : Nat → Int32} (h4 : ∀ c, c < 36 → r53 c = nI (zO L c)) (h5 : ∀ t, t < zT L → r54 t = nI (zD L t)) {k : Nat → Bool} (hg : ∀ c, c < 36 → r56 (26 + c) = if k c = true then 1 else 0) {c t : Nat} (hc : c < 36) (ht : t < 2 ^ 31) : f_ModepthOf (nI (zT L)) r53 r54 r56 (nI c) (nI t) = nI (zDe L k c t) := by
  obtain ⟨t1, t6⟩ := hL.2.2.2.2.1
  have hm : t % zT L < zT L := Nat.mod_lt _ (by omega)
  unfold f_ModepthOf zDe zWa
  rw [z_26, nI_clamp (by omega), hg c hc]
  by_cases hk : k c = true
  · rw [if_pos hk, if_pos hk, if_pos rfl, nI_0]
  · rw [if_neg hk, if_neg hk, if_neg (show ¬ (0 : Int32) = 1 by decide), pk_rem ht (by omega) (by omega), nI_clamp (by omega), nI_clamp (by omega), h4 c hc, h5 _ hm]
    exact z_less5 (hL.2.2.2.2.2.2.2.2.2.1 c hc) (hL.2.2.2.2.2.2.2.2.2.2.1 _ hm)
theorem zDe_le {L : ZL} (hL : zLok L) (k : Nat → Bool) {c t : Nat} (hc : c < 36) : zDe L k c t ≤ 13 := by
  obtain ⟨t1, t6⟩ := hL.2.2.2.2.1
  have hm : t % zT L < zT L := Nat.mod_lt _ (by omega)
  have h1 := hL.2.2.2.2.2.2.2.2.2.1 c hc
  have h2 := hL.2.2.2.2.2.2.2.2.2.2.1 _ hm
  unfold zDe zWa
  split <;> omega
/-- a bound that the class asks by two compares -/
theorem z_bnd {x b : Int32} {b2 : Int64} {k : Nat} (hb : b.toInt = (k : Int)) (hb2 : b2.toInt = (k : Int)) : (¬ x < 0 ∧ x ≤ b ∧ f_Moin x.toInt64 0 b2 = 1 ∧ ∃ m, m ≤ k ∧ x = nI m) ∨ ((x < 0 ∨ (¬ x < 0 ∧ ¬ x ≤ b)) ∧ f_Moin x.toInt64 0 b2 = 0) := by
  rw [z_upto hb2]
  have h1 : x ≤ b ↔ x.toInt ≤ k := by rw [Int32.le_iff_toInt_le, hb]
  rw [z_lt0, h1]
  by_cases h : 0 ≤ x.toInt ∧ x.toInt ≤ k
  · left
    rw [if_pos h]
    exact ⟨by omega, by omega, rfl, x.toInt.toNat, by omega, z_of (by omega)⟩
  · right
    rw [if_neg h]
    exact ⟨by omega, rfl⟩
theorem p_saw (E : jEnv) (x y : Int32) : jPair E 100 zInv mX7_saw mX8_saw [.int x, .int y] := by
  intro j h hj hI
  have hI' := hI
  obtain ⟨L, S, hL, hCl, hMl, hS, hCs, hMs, hIm, hFt, hBk, hTx, hFa⟩ := hI
  have hM4 : zM L ≤ 4 := hL.2.2.2.2.2.1
  have e3 : h.1 3 3 = nI (zM L) := hCl.1.2.2.2.1
  have e5 : h.1 52 5 = nI (zM L) := hMl.1.2.2.2.1
  rcases z_isMan (n := zM L) (by omega) x with ⟨m1, m2, m, hm, rfl⟩ | ⟨m1, m2⟩
  · have hv4 : vp_in (nI m) 4 := z_vp (by omega) (by omega)
    have hv62 : vp_in ((2 + 6 * nI m) + 2) 62 := by rw [z_ix2]; exact z_vp (by omega) (by omega)
    have hc4 : (nI m).toNatClampNeg = m := nI_clamp (by omega)
    have hc7 : ((2 + 6 * nI m) + 2).toNatClampNeg = 4 + 6 * m := by rw [z_ix2]; exact nI_clamp (by omega)
    rcases z_bnd (x := y) (b := 6) (b2 := 6) (k := 6) (by decide) (by decide) with ⟨w0, w1, w2, k, hk, rfl⟩ | ⟨w1, w2⟩
    · have e1 : H_Shsaw h (nI m) (nI k) = jPI h 20 m (nI k) := by
        unfold H_Shsaw; rw [e3, m1, if_neg one0, if_neg w0, if_pos w1, hc4]
      have e2 : H_Mosaw (jPI h 20 m (nI k)) (nI m) (nI k) = jPI (jPI h 20 m (nI k)) 56 (4 + 6 * m) (nI k) := by
        unfold H_Mosaw
        rw [show (jPI h 20 m (nI k)).1 52 5 = nI (zM L) from e5, m2, w2, if_neg one0, if_neg one0, hc7]
      have c1 := c_Shsaw (E := E) (n := 99) (nI m) (nI k) h (fun _ _ _ => hv4) (fun _ _ _ => hv4)
      have c2 := c_Mosaw (E := E) (n := 98) (nI m) (nI k) (jPI h 20 m (nI k)) (fun _ _ => hv62) (fun _ _ => hv62)
      rw [e1] at c1
      rw [e2] at c2
      refine z_pair c1 c2 ?_ ⟨L, sSl S m k, hL, hCl, hMl, ?_, ?_, zMs_sl hMs (by omega) k, zIm_up hIm, hFt, hBk, hTx, hFa⟩
      · unfold f_Shsaw f_Mosaw
        rw [show (jPI h 20 m (nI k)).1 52 5 = nI (zM L) from e5, e3, m1, m2, w2, if_neg one0, if_neg w0, if_pos w1, if_neg one0, if_neg one0, hc4, hc7]
        show h.1 20 m = h.1 56 (4 + 6 * m)
        rw [(hMs.2.2.2 m hm).2.2.1]
        exact (hCs.2.2.2 m hm).2.1
      · obtain ⟨a, b, c, d⟩ := zSok_up hS
        refine ⟨a, b, c, fun i hi => ?_⟩
        obtain ⟨d1, d2, d3, d4, d5⟩ := d i hi
        refine ⟨d1, ?_, d3, d4, d5⟩
        show (if i = m then k else zSl S i) ≤ 6
        split
        · exact hk
        · exact d2
      · refine ⟨hCs.1, hCs.2.1, hCs.2.2.1, fun i hi => ?_⟩
        obtain ⟨d1, d2, d3, d4, d5⟩ := hCs.2.2.2 i hi
        refine ⟨d1, ?_, d3, d4, d5⟩
        show upd (h.1 20) m (nI k) i = nI (if i = m then k else zSl S i)
        by_cases he : i = m
        · subst he; rw [upd_eq, if_pos rfl]
        · rw [upd_ne he, if_neg he]; exact d2
    · have e1 : H_Shsaw h (nI m) y = h := by
        unfold H_Shsaw; rw [e3, m1, if_neg one0]
        rcases w1 with w | ⟨w, w'⟩
        · rw [if_pos w]
        · rw [if_neg w, if_neg w']
      have e2 : H_Mosaw h (nI m) y = h := by
        unfold H_Mosaw; rw [e5, m2, w2, if_neg one0, if_pos rfl]
      have c1 := c_Shsaw (E := E) (n := 99) (nI m) y h (fun _ _ _ => hv4) (fun _ _ _ => hv4)
      have c2 := c_Mosaw (E := E) (n := 98) (nI m) y h (fun _ _ => hv62) (fun _ _ => hv62)
      rw [e1] at c1
      rw [e2] at c2
      refine z_pair c1 c2 ?_ (zInv_mono j h hI')
      unfold f_Shsaw f_Mosaw
      rw [e3, e5, m1, m2, w2, if_neg one0, if_neg one0, if_pos rfl]
      rcases w1 with w | ⟨w, w'⟩
      · rw [if_pos w]
      · rw [if_neg w, if_neg w']
  · have e1 : H_Shsaw h x y = h := by
      unfold H_Shsaw; rw [e3, m1, if_pos rfl]
    have e2 : H_Mosaw h x y = h := by
      unfold H_Mosaw; rw [e5, m2, if_pos rfl]
    have c1 := c_Shsaw (E := E) (n := 99) x y h (fun q => absurd (by rw [e3, m1]) q) (fun q => absurd (by rw [e3, m1]) q)
    have c2 := c_Mosaw (E := E) (n := 98) x y h (fun q => absurd (by rw [e5, m2]) q) (fun q => absurd (by rw [e5, m2]) q)
    rw [e1] at c1
    rw [e2] at c2
    refine z_pair c1 c2 ?_ (zInv_mono j h hI')
    unfold f_Shsaw f_Mosaw
    rw [e3, e5, m1, m2, if_pos rfl, if_pos rfl]
theorem z_lin {w g a b : Nat} (ha : a < w) (hb : b < g) : w * b + a < w * g := by
  have : w * b + w ≤ w * g := by rw [← Nat.mul_succ]; exact Nat.mul_le_mul_left w hb
  omega
theorem p_depth (E : jEnv) (x y z : Int32) : jPair E 100 zInv mX7_depth mX8_depth [.int x, .int y, .int z] := by
  intro j h hj hI
  have hI' := hI
  obtain ⟨L, S, hL, hCl, hMl, hS, hCs, hMs, hIm, hFt, hBk, hTx, hFa⟩ := hI
  have e0 : h.1 3 0 = nI (zW L) := hCl.1.1
  have e1 : h.1 3 1 = nI (zG L) := hCl.1.2.1
  have e2 : h.1 3 2 = nI (zT L) := hCl.1.2.2.1
  have f0 : h.1 52 0 = nI (zW L) := hMl.1.1
  have f1 : h.1 52 1 = nI (zG L) := hMl.1.2.1
  have f4 : h.1 52 4 = nI (zT L) := hMl.1.2.2.1
  have eh : h.1 18 1 = nI (zH S) := hCs.1
  have fh : h.1 56 0 = nI (zH S) := hMs.1
  obtain ⟨t1, t6⟩ := hL.2.2.2.2.1
  have hA := hL.2.2.1
  have hH : zH S ≤ 99 * 512 := by have := hS.1; omega
  rcases z_cell hL.1 hL.2.1 x y with ⟨a, b, ha, hb, rfl, rfl, k1, k2, k3⟩ | ⟨k1, k3⟩
  · have hc : zW L * b + a < 36 := by have := z_lin ha hb; unfold zA at hA; omega
    have hne : ¬ nI (zW L * b + a) = -1 := fun q => absurd (congrArg Int32.toInt q) (by rw [nI_toInt (by omega)]; show ¬ ((_ : Nat) : Int) = -1; omega)
    rcases z_bnd (x := z) (b := 99) (b2 := 99) (k := 99) (by decide) (by decide) with ⟨w0, w1, w2, q, hq, rfl⟩ | ⟨w1, w2⟩
    · have ht : nI (zH S) + nI q = nI (zH S + q) := nI_add _ _
      have htl : zH S + q < 2 ^ 31 := by omega
      have hmod : (zH S + q) % zT L < zT L := Nat.mod_lt _ (by omega)
      have c1 := c_Shdepth (E := E) (n := 97) (nI a) (nI b) (nI q) h (fun _ _ _ _ _ _ _ => by rw [e2, eh, ht, z_tide t1 t6 htl]; exact z_vp (by omega) (by omega))
      have c2 := c_Modepth (E := E) (n := 98) (nI a) (nI b) (nI q) h (fun _ _ => by rw [f0, f1, k3]; exact z_vp hc (by omega)) (fun _ _ => by rw [f4]; exact nI_ne0 (by omega) (by omega)) (fun _ _ => by rw [f4, fh, ht, pk_rem htl (by omega) (by omega)]; exact z_vp (by omega) (by omega)) (fun _ _ => by rw [f0, f1, k3, z_26]; exact z_vp (by omega) (by omega))
      refine z_pair c1 c2 ?_ (zInv_mono j h hI')
      unfold f_Shdepth f_Modepth
      rw [e0, e1, e2, f0, f1, f4, eh, fh, k1, k2, k3, w2, if_neg one0, if_neg w0, if_pos w1, if_neg hne, if_neg one0, ht, z_depthC hL hCl.2.1 hCl.2.2.1 hCs.2.2.1 hc htl, z_depthM hL hMl.2.1 hMl.2.2.1 hMs.2.2.1 hc htl]
    · have c1 := c_Shdepth (E := E) (n := 97) (nI a) (nI b) z h (fun _ q1 q2 => by
        rcases w1 with w | ⟨w, w'⟩
        · exact absurd w q1
        · exact absurd q2 w')
      have c2 := c_Modepth (E := E) (n := 98) (nI a) (nI b) z h (fun _ q => absurd w2 q) (fun _ q => absurd w2 q) (fun _ q => absurd w2 q) (fun _ q => absurd w2 q)
      refine z_pair c1 c2 ?_ (zInv_mono j h hI')
      unfold f_Shdepth f_Modepth
      rw [e0, e1, f0, f1, k1, k3, w2, if_neg one0, if_neg hne, if_pos rfl]
      rcases w1 with w | ⟨w, w'⟩
      · rw [if_pos w]
      · rw [if_neg w, if_neg w']
  · have c1 := c_Shdepth (E := E) (n := 97) x y z h (fun q => absurd (by rw [e0, e1, k1]) q)
    have c2 := c_Modepth (E := E) (n := 98) x y z h (fun q => absurd (by rw [f0, f1, k3]) q) (fun q => absurd (by rw [f0, f1, k3]) q) (fun q => absurd (by rw [f0, f1, k3]) q) (fun q => absurd (by rw [f0, f1, k3]) q)
    refine z_pair c1 c2 ?_ (zInv_mono j h hI')
    unfold f_Shdepth f_Modepth
    rw [e0, e1, f0, f1, k1, k3, if_pos rfl, if_pos rfl]

