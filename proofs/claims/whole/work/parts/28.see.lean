/-! ===== keep, goBack, see, feed, told ===== -/
theorem bp_b (x : Int32) : x.toInt8.toInt32 &&& 255 = x &&& 255 := by
  apply Int32.toBitVec_inj.mp
  rw [Int32.toBitVec_and, Int32.toBitVec_and, Int8.toBitVec_toInt32, Int32.toBitVec_toInt8]
  apply BitVec.eq_of_getLsbD_eq
  intro i hi
  rw [BitVec.getLsbD_and, BitVec.getLsbD_and]
  have hm : ∀ i < 32, 8 ≤ i → (255 : Int32).toBitVec.getLsbD i = false := by decide
  rcases Nat.lt_or_ge i 8 with z | z
  · rw [BitVec.getLsbD_signExtend, BitVec.getLsbD_signExtend, if_pos z, if_pos hi]
    simp [hi, z]
  · rw [hm i hi z, Bool.and_false, Bool.and_false]
theorem fa_or (a b : Nat) : nI a ||| nI b = nI (a ||| b) := by
  apply Int32.toBitVec_inj.1
  show BitVec.ofNat 32 a ||| BitVec.ofNat 32 b = BitVec.ofNat 32 (a ||| b)
  apply BitVec.eq_of_getLsbD_eq
  intro i hi
  simp [hi]
/-- only the cells of a list have changed -/
def zFr (b : List Nat) (h h2 : HP) : Prop := ∀ k, k ∉ b → h2.1 k = h.1 k ∧ h2.2 k = h.2 k
theorem zFr.refl (b : List Nat) (h : HP) : zFr b h h := fun _ _ => ⟨rfl, rfl⟩
theorem zFr.trans {b : List Nat} {h h2 h3 : HP} (h1 : zFr b h h2) (q : zFr b h2 h3) : zFr b h h3 := fun k hk => ⟨(q k hk).1.trans (h1 k hk).1, (q k hk).2.trans (h1 k hk).2⟩
theorem zFr.sub {b b' : List Nat} {h h2 : HP} (h1 : zFr b h h2) (hs : ∀ k, k ∈ b → k ∈ b') : zFr b' h h2 := fun k hk => h1 k (fun q => hk (hs k q))
theorem zFr_I {b : List Nat} {h : HP} {k j : Nat} {x : Int32} (hk : k ∈ b) : zFr b h (jPI h k j x) := fun i hi => ⟨by
  have : i ≠ k := fun e => hi (e ▸ hk)
  simp [jPI, va_up, this], rfl⟩
theorem zFr_L {b : List Nat} {h : HP} {k j : Nat} {x : Int64} (hk : k ∈ b) : zFr b h (jPL h k j x) := fun i hi => ⟨rfl, by
  have : i ≠ k := fun e => hi (e ▸ hk)
  simp [jPL, va_up, this]⟩
theorem zFr_A {b : List Nat} {h : HP} {k : Nat} {f : Nat → Int32} (hk : k ∈ b) : zFr b h (jPA h k f) := fun i hi => ⟨by
  have : i ≠ k := fun e => hi (e ▸ hk)
  simp [jPA, va_up, this], rfl⟩
theorem zCl_c {L : ZL} {h h2 : HP} (e3 : h2.1 3 = h.1 3) (e3' : h2.2 3 = h.2 3) (e4 : h2.1 4 = h.1 4) (e5 : h2.1 5 = h.1 5) (e8 : h2.1 8 = h.1 8) (e9 : h2.2 9 = h.2 9) (q : zCl L h) : zCl L h2 := by
  unfold zCl at *
  simp only [e3, e3', e4, e5, e8, e9]
  exact q
theorem zMl_c {L : ZL} {h h2 : HP} (e52 : ∀ i, i < 10 → h2.1 52 i = h.1 52 i) (e3 : h2.1 53 = h.1 53) (e4 : h2.1 54 = h.1 54) (e5 : h2.1 55 = h.1 55) (q : zMl L h) : zMl L h2 := by
  unfold zMl at *
  rw [e52 0 (by omega), e52 1 (by omega), e52 4 (by omega), e52 5 (by omega), e52 6 (by omega), e52 8 (by omega), e3, e4, e5]
  exact q
theorem zCs_c {L : ZL} {S : ZS} {b : Nat} {h h2 : HP} (e0 : h2.1 b = h.1 b) (e0' : h2.2 b = h.2 b) (e1 : h2.1 (b + 1) = h.1 (b + 1)) (e2 : h2.1 (b + 2) = h.1 (b + 2)) (e3 : h2.1 (b + 3) = h.1 (b + 3)) (e4 : h2.1 (b + 4) = h.1 (b + 4)) (e5 : h2.1 (b + 5) = h.1 (b + 5)) (q : zCs L S b h) : zCs L S b h2 := by
  unfold zCs at *
  simp only [e0, e0', e1, e2, e3, e4, e5]
  exact q
theorem zI1_c {L : ZL} {B : Nat} {i b o : Nat} {h h2 : HP} (e39 : h2.1 39 = h.1 39) (e58 : h2.1 58 = h.1 58) (e57 : h2.1 57 = h.1 57) (e0 : h2.1 b = h.1 b) (e0' : h2.2 b = h.2 b) (e1 : h2.1 (b + 1) = h.1 (b + 1)) (e2 : h2.1 (b + 2) = h.1 (b + 2)) (e3 : h2.1 (b + 3) = h.1 (b + 3)) (e4 : h2.1 (b + 4) = h.1 (b + 4)) (e5 : h2.1 (b + 5) = h.1 (b + 5)) (q : zI1 L B h i b o) : zI1 L B h2 i b o := by
  unfold zI1 at *
  rw [e39, e58, e57]
  rcases q with q | ⟨q1, q2, S, q3, q4, q5⟩
  · exact Or.inl q
  · exact Or.inr ⟨q1, q2, S, q3, zCs_c e0 e0' e1 e2 e3 e4 e5 q4, q5⟩
theorem zFt_c {L : ZL} {h h2 : HP} (e30 : h2.1 30 = h.1 30) (e31 : h2.1 31 = h.1 31) (e32 : h2.1 32 = h.1 32) (e59 : h2.1 59 = h.1 59) (e12 : h2.1 52 12 = h.1 52 12) (e14 : h2.1 52 14 = h.1 52 14) (q : zFt L h) : zFt L h2 := by
  unfold zFt at *
  simp only [e30, e31, e32, e59, e12, e14]
  exact q
theorem zBk_c {L : ZL} {h h2 : HP} (e33 : h2.1 33 = h.1 33) (e34 : h2.1 34 = h.1 34) (e35 : h2.1 35 = h.1 35) (e60 : h2.1 60 = h.1 60) (e16 : h2.1 52 16 = h.1 52 16) (q : zBk L h) : zBk L h2 := by
  unfold zBk at *
  simp only [e33, e34, e35, e60, e16]
  exact q
theorem zTx_c {h h2 : HP} (e1 : h2.1 1 = h.1 1) (e2 : h2.1 2 = h.1 2) (e61 : h2.1 61 = h.1 61) (e18 : h2.1 52 18 = h.1 52 18) (q : zTx h) : zTx h2 := by
  unfold zTx at *
  simp only [e1, e2, e61, e18]
  exact q
/-- the cells that no promise looks at -/
def zScr : List Nat := [24, 25, 26, 27, 28, 29, 36, 37, 52, 66, 67, 68, 69, 70, 71]
theorem zInv_fr {j : Nat} {h h2 : HP} (hf : zFr zScr h h2) (h52 : ∀ i, i ≠ 40 → h2.1 52 i = h.1 52 i) (hI : zInv j h) : zInv j h2 := by
  obtain ⟨L, S, hL, hCl, hMl, hS, hCs, hMs, hIm, hFt, hBk, hTx, hFa⟩ := hI
  have e := fun (k : Nat) (hk : k ∉ zScr) => (hf k hk).1
  have e' := fun (k : Nat) (hk : k ∉ zScr) => (hf k hk).2
  refine ⟨L, S, hL, zCl_c (e 3 (by decide)) (e' 3 (by decide)) (e 4 (by decide)) (e 5 (by decide)) (e 8 (by decide)) (e' 9 (by decide)) hCl, zMl_c (fun i hi => h52 i (by omega)) (e 53 (by decide)) (e 54 (by decide)) (e 55 (by decide)) hMl, hS, zCs_c (e 18 (by decide)) (e' 18 (by decide)) (e 19 (by decide)) (e 20 (by decide)) (e 21 (by decide)) (e 22 (by decide)) (e 23 (by decide)) hCs, ?_, ⟨?_, ?_⟩, zFt_c (e 30 (by decide)) (e 31 (by decide)) (e 32 (by decide)) (e 59 (by decide)) (h52 12 (by decide)) (h52 14 (by decide)) hFt, zBk_c (e 33 (by decide)) (e 34 (by decide)) (e 35 (by decide)) (e 60 (by decide)) (h52 16 (by decide)) hBk, zTx_c (e 1 (by decide)) (e 2 (by decide)) (e 61 (by decide)) (h52 18 (by decide)) hTx, ?_⟩
  · rw [e 56 (by decide)]; exact hMs
  · exact zI1_c (e 39 (by decide)) (e 58 (by decide)) (e 57 (by decide)) (e 40 (by decide)) (e' 40 (by decide)) (e 41 (by decide)) (e 42 (by decide)) (e 43 (by decide)) (e 44 (by decide)) (e 45 (by decide)) hIm.1
  · exact zI1_c (e 39 (by decide)) (e 58 (by decide)) (e 57 (by decide)) (e 46 (by decide)) (e' 46 (by decide)) (e 47 (by decide)) (e 48 (by decide)) (e 49 (by decide)) (e 50 (by decide)) (e 51 (by decide)) hIm.2
  · unfold zFa at *
    rw [e 10 (by decide), h52 24 (by decide)]
    exact hFa
theorem p_keep0 (E : jEnv) : jPair E 100 zInv mX7_keep mX8_keep [.int (nI 0)] := by
  intro j h hj hI
  obtain ⟨L, S, hL, hCl, hMl, hS, hCs, hMs, hIm, hFt, hBk, hTx, hFa⟩ := hI
  have hM4 : zM L ≤ 4 := hL.2.2.2.2.2.1
  have c1 := c_Shkeep0 (E := E) (n := 98) h
  rw [H_Shkeep0, if_neg (by decide), f_Shkeep0, if_neg (by decide)] at c1
  have c2 := fun h1 => c_Mokeep (E := E) (n := 99) (i := 0) (by decide) h1
  refine z_pair c1 (c2 _) rfl ⟨L, S, hL, hCl, hMl, zSok_up hS, hCs, hMs, ?_, hFt, hBk, hTx, hFa⟩
  obtain ⟨i0, i1⟩ := zIm_up hIm
  have own : ∀ h2 : HP, h2.1 40 1 = h.1 18 1 → h2.1 40 2 = h.1 18 2 → h2.2 40 3 = h.2 18 3 → (∀ m, m < 4 → h2.1 41 m = h.1 19 m ∧ h2.1 42 m = h.1 20 m ∧ h2.1 43 m = h.1 21 m ∧ h2.1 44 m = h.1 22 m ∧ h2.1 45 m = h.1 23 m) → zCs L S 40 h2 := by
    intro h2 a1 a2 a3 a4
    refine ⟨a1.trans hCs.1, a2.trans hCs.2.1, by rw [a3]; exact hCs.2.2.1, fun m hm => ?_⟩
    obtain ⟨b1, b2, b3, b4, b5⟩ := a4 m (by omega)
    obtain ⟨d1, d2, d3, d4, d5⟩ := hCs.2.2.2 m hm
    exact ⟨b1.trans d1, b2.trans d2, b3.trans d3, b4.trans d4, b5.trans d5⟩
  refine ⟨?_, ?_⟩
  · refine Or.inr ⟨rfl, rfl, S, zSok_up hS, own _ rfl rfl rfl (fun m hm => ⟨z_cp4 hm, z_cp4 hm, z_cp4 hm, z_cp4 hm, z_cp4 hm⟩), ?_⟩
    refine zMs_congr hM4 hMs (fun q hq => ?_)
    show zcp (h.1 56) (h.1 57) 0 (62 * 0) 62 (0 + q) = h.1 56 q
    rw [show (0 + q : Nat) = 62 * 0 + q by omega, zcp_in hq, Nat.zero_add]
  · rcases i1 with w | ⟨w1, w2, S2, w3, w4, w5⟩
    · exact Or.inl w
    · refine Or.inr ⟨w1, w2, S2, w3, w4, ?_⟩
      refine zMs_congr hM4 w5 (fun q hq => ?_)
      show zcp (h.1 56) (h.1 57) 0 (62 * 0) 62 (62 + q) = h.1 57 (62 + q)
      exact zcp_out (by omega)
theorem p_keep1 (E : jEnv) : jPair E 100 zInv mX7_keep mX8_keep [.int (nI 1)] := by
  intro j h hj hI
  obtain ⟨L, S, hL, hCl, hMl, hS, hCs, hMs, hIm, hFt, hBk, hTx, hFa⟩ := hI
  have hM4 : zM L ≤ 4 := hL.2.2.2.2.2.1
  have c1 := c_Shkeep1 (E := E) (n := 98) h
  rw [H_Shkeep1, if_neg (by decide), f_Shkeep1, if_neg (by decide)] at c1
  have c2 := fun h1 => c_Mokeep (E := E) (n := 99) (i := 1) (by decide) h1
  refine z_pair c1 (c2 _) rfl ⟨L, S, hL, hCl, hMl, zSok_up hS, hCs, hMs, ?_, hFt, hBk, hTx, hFa⟩
  obtain ⟨i0, i1⟩ := zIm_up hIm
  have own : ∀ h2 : HP, h2.1 46 1 = h.1 18 1 → h2.1 46 2 = h.1 18 2 → h2.2 46 3 = h.2 18 3 → (∀ m, m < 4 → h2.1 47 m = h.1 19 m ∧ h2.1 48 m = h.1 20 m ∧ h2.1 49 m = h.1 21 m ∧ h2.1 50 m = h.1 22 m ∧ h2.1 51 m = h.1 23 m) → zCs L S 46 h2 := by
    intro h2 a1 a2 a3 a4
    refine ⟨a1.trans hCs.1, a2.trans hCs.2.1, by rw [a3]; exact hCs.2.2.1, fun m hm => ?_⟩
    obtain ⟨b1, b2, b3, b4, b5⟩ := a4 m (by omega)
    obtain ⟨d1, d2, d3, d4, d5⟩ := hCs.2.2.2 m hm
    exact ⟨b1.trans d1, b2.trans d2, b3.trans d3, b4.trans d4, b5.trans d5⟩
  refine ⟨?_, ?_⟩
  · rcases i0 with w | ⟨w1, w2, S2, w3, w4, w5⟩
    · exact Or.inl w
    · refine Or.inr ⟨w1, w2, S2, w3, w4, ?_⟩
      refine zMs_congr hM4 w5 (fun q hq => ?_)
      show zcp (h.1 56) (h.1 57) 0 (62 * 1) 62 (0 + q) = h.1 57 (0 + q)
      exact zcp_out (by omega)
  · refine Or.inr ⟨rfl, rfl, S, zSok_up hS, own _ rfl rfl rfl (fun m hm => ⟨z_cp4 hm, z_cp4 hm, z_cp4 hm, z_cp4 hm, z_cp4 hm⟩), ?_⟩
    refine zMs_congr hM4 hMs (fun q hq => ?_)
    show zcp (h.1 56) (h.1 57) 0 (62 * 1) 62 (62 + q) = h.1 56 q
    rw [show (62 + q : Nat) = 62 * 1 + q by omega, zcp_in hq, Nat.zero_add]
theorem p_keep (E : jEnv) (x : Int32) : jPair E 100 zInv mX7_keep mX8_keep [.int x] := by
  rcases z_img x with ⟨i1, i2, i, hi, rfl⟩ | ⟨i1, i2⟩
  · have : i = 0 ∨ i = 1 := by omega
    rcases this with rfl | rfl
    · exact p_keep0 E
    · exact p_keep1 E
  · intro j h hj hI
    exact z_pair (c_Shkeep_o (n := 98) i1 h) (c_Mokeep_o (n := 99) i2 h) rfl (zInv_mono j h hI)
theorem p_goBack0 (E : jEnv) : jPair E 100 zInv mX7_goBack mX8_goBack [.int (nI 0)] := by
  intro j h hj hI
  have hI' := hI
  obtain ⟨L, S, hL, hCl, hMl, hS, hCs, hMs, hIm, hFt, hBk, hTx, hFa⟩ := hI
  have hM4 : zM L ≤ 4 := hL.2.2.2.2.2.1
  have c1 := c_ShgoBack0 (E := E) (n := 98) h
  rw [H_ShgoBack0, if_neg (by decide), f_ShgoBack0, if_neg (by decide)] at c1
  have c2 := fun h1 => c_MogoBack (E := E) (n := 99) (i := 0) (by decide) h1
  rcases hIm.1 with ⟨w1, w2⟩ | ⟨w1, w2, S2, w3, w4, w5⟩
  · rw [if_pos w1, if_pos w1] at c1
    refine ⟨_, c1, fun v h2 hp => ⟨_, hp.1, ?_⟩⟩
    rw [hp.2]
    refine ⟨_, c2 h, fun v2 h3 hp2 => ?_⟩
    rcases hp2 with ⟨_, q1, q2⟩ | ⟨q, _⟩
    · exact ⟨q1, by rw [q2]; exact zInv_mono j h hI'⟩
    · exact absurd w2 q
  · have hne : ¬ h.1 39 0 = 0 := by rw [w1]; exact one0
    rw [if_neg hne, if_neg hne] at c1
    refine ⟨_, c1, fun v h2 hp => ⟨_, hp.1, ?_⟩⟩
    rw [hp.2]
    refine ⟨_, c2 _, fun v2 h3 hp2 => ?_⟩
    rcases hp2 with ⟨q, _⟩ | ⟨_, q1, q2⟩
    · exact absurd (w2.symm.trans q) one0
    · refine ⟨q1, ?_⟩
      rw [q2]
      refine ⟨L, S2, hL, hCl, hMl, zSok_up w3, ?_, ?_, zIm_up hIm, hFt, hBk, hTx, hFa⟩
      · refine ⟨w4.1, w4.2.1, w4.2.2.1, fun m hm => ?_⟩
        obtain ⟨d1, d2, d3, d4, d5⟩ := w4.2.2.2 m hm
        have hm4 : m < 4 := by omega
        exact ⟨(z_cp4 hm4).trans d1, (z_cp4 hm4).trans d2, (z_cp4 hm4).trans d3, (z_cp4 hm4).trans d4, (z_cp4 hm4).trans d5⟩
      · refine zMs_congr hM4 w5 (fun q hq => ?_)
        show zcp (h.1 57) (h.1 56) (62 * 0) 0 62 q = h.1 57 (0 + q)
        have := zcp_in (f := h.1 57) (g := h.1 56) (sp := 62 * 0) (dp := 0) hq
        exact (congrArg _ (Nat.zero_add q)).symm.trans this
theorem p_goBack1 (E : jEnv) : jPair E 100 zInv mX7_goBack mX8_goBack [.int (nI 1)] := by
  intro j h hj hI
  have hI' := hI
  obtain ⟨L, S, hL, hCl, hMl, hS, hCs, hMs, hIm, hFt, hBk, hTx, hFa⟩ := hI
  have hM4 : zM L ≤ 4 := hL.2.2.2.2.2.1
  have c1 := c_ShgoBack1 (E := E) (n := 98) h
  rw [H_ShgoBack1, if_neg (by decide), f_ShgoBack1, if_neg (by decide)] at c1
  have c2 := fun h1 => c_MogoBack (E := E) (n := 99) (i := 1) (by decide) h1
  rcases hIm.2 with ⟨w1, w2⟩ | ⟨w1, w2, S2, w3, w4, w5⟩
  · rw [if_pos w1, if_pos w1] at c1
    refine ⟨_, c1, fun v h2 hp => ⟨_, hp.1, ?_⟩⟩
    rw [hp.2]
    refine ⟨_, c2 h, fun v2 h3 hp2 => ?_⟩
    rcases hp2 with ⟨_, q1, q2⟩ | ⟨q, _⟩
    · exact ⟨q1, by rw [q2]; exact zInv_mono j h hI'⟩
    · exact absurd w2 q
  · have hne : ¬ h.1 39 1 = 0 := by rw [w1]; exact one0
    rw [if_neg hne, if_neg hne] at c1
    refine ⟨_, c1, fun v h2 hp => ⟨_, hp.1, ?_⟩⟩
    rw [hp.2]
    refine ⟨_, c2 _, fun v2 h3 hp2 => ?_⟩
    rcases hp2 with ⟨q, _⟩ | ⟨_, q1, q2⟩
    · exact absurd (w2.symm.trans q) one0
    · refine ⟨q1, ?_⟩
      rw [q2]
      refine ⟨L, S2, hL, hCl, hMl, zSok_up w3, ?_, ?_, zIm_up hIm, hFt, hBk, hTx, hFa⟩
      · refine ⟨w4.1, w4.2.1, w4.2.2.1, fun m hm => ?_⟩
        obtain ⟨d1, d2, d3, d4, d5⟩ := w4.2.2.2 m hm
        have hm4 : m < 4 := by omega
        exact ⟨(z_cp4 hm4).trans d1, (z_cp4 hm4).trans d2, (z_cp4 hm4).trans d3, (z_cp4 hm4).trans d4, (z_cp4 hm4).trans d5⟩
      · refine zMs_congr hM4 w5 (fun q hq => ?_)
        show zcp (h.1 57) (h.1 56) (62 * 1) 0 62 q = h.1 57 (62 + q)
        have := zcp_in (f := h.1 57) (g := h.1 56) (sp := 62 * 1) (dp := 0) hq
        exact (congrArg _ (Nat.zero_add q)).symm.trans this
theorem p_goBack (E : jEnv) (x : Int32) : jPair E 100 zInv mX7_goBack mX8_goBack [.int x] := by
  rcases z_img x with ⟨i1, i2, i, hi, rfl⟩ | ⟨i1, i2⟩
  · have : i = 0 ∨ i = 1 := by omega
    rcases this with rfl | rfl
    · exact p_goBack0 E
    · exact p_goBack1 E
  · intro j h hj hI
    exact z_pair (c_ShgoBack_o (n := 98) i1 h) (c_MogoBack_o (n := 99) i2 h) rfl (zInv_mono j h hI)
theorem p_see (E : jEnv) (x y z : Int32) : jPair E 100 zInv mX7_see mX8_see [.int x, .int y, .int z] := by
  intro j h hj hI
  have hI' := hI
  obtain ⟨L, S, hL, hCl, hMl, hS, hCs, hMs, hIm, hFt, hBk, hTx, hFa⟩ := hI
  have e0 : h.1 3 0 = nI (zW L) := hCl.1.1
  have e1 : h.1 3 1 = nI (zG L) := hCl.1.2.1
  have f0 : h.1 52 0 = nI (zW L) := hMl.1.1
  have f1 : h.1 52 1 = nI (zG L) := hMl.1.2.1
  have hA := hL.2.2.1
  obtain ⟨q1, q2, k, hk, q3, q4, q5⟩ := hFt
  have hlt : nI k < 20 ↔ k < 20 := nI_ltI (b := 20) (by omega) (by omega)
  have hge : (20 : Int32) ≤ nI k ↔ 20 ≤ k := nI_leI (a := 20) (by omega) (by omega)
  have heq : nI k = 20 ↔ k = 20 := nI_eq (b := 20) (by omega) (by omega)
  -- what the class does
  have c1 : jC E mX7_see 100 [.ref 0, .int x, .int y, .int z] h (fun v h2 =>
      (f_LdisCell (h.1 3 0) (h.1 3 1) x y = 0 ∧ v = some (.int (-1000000001)) ∧ h2 = h) ∨ (¬ f_LdisCell (h.1 3 0) (h.1 3 1) x y = 0 ∧ (z < 0 ∨ (¬ z < 0 ∧ ¬ z ≤ 40)) ∧ v = some (.int (-1000000002)) ∧ h2 = h) ∨ (¬ f_LdisCell (h.1 3 0) (h.1 3 1) x y = 0 ∧ ¬ z < 0 ∧ z ≤ 40 ∧ 20 ≤ k ∧ v = some (.int (-1000000004)) ∧ h2 = h) ∨
      (¬ f_LdisCell (h.1 3 0) (h.1 3 1) x y = 0 ∧ ¬ z < 0 ∧ z ≤ 40 ∧ k < 20 ∧ v = some (.int (nI (k + 1))) ∧ h2 = jPI (jPI (jPI h 31 k (f_LdcellOf3 (h.1 3 0) x y)) 32 k z) 30 3 (nI k + 1))) := by
    refine jC.of (lv := [some (.ref 0), some (.int x), some (.int y), some (.int z)]) (by decide) (Nat.le_of_ble_eq_true rfl) ⟨rfl, rfl, rfl, rfl, trivial⟩ (q_Shsee_0 (n := 99) x y z h (fun c1 => Or.inl ⟨c1, rfl, rfl⟩) (fun c1 c2 => Or.inr (Or.inl ⟨c1, Or.inl c2, rfl, rfl⟩)) (fun c1 c2 c3 c4 => ?_) (fun c1 c2 c3 c4 => ?_) (fun c1 c2 c3 => Or.inr (Or.inl ⟨c1, Or.inr ⟨c2, c3⟩, rfl, rfl⟩)))
    · rw [q3] at c4
      have hk20 := hlt.mp c4
      have hv : vp_in (h.1 30 3) 20 := by rw [q3]; exact z_vp hk20 (by omega)
      refine ⟨_, c_Fsappend _ z h (fun _ => hv) (fun _ => hv), fun v h2 hp => ?_⟩
      rw [hp.1, hp.2]
      have g1 : H_Fsappend h (f_LdcellOf3 (h.1 3 0) x y) z = jPI (jPI (jPI h 31 k (f_LdcellOf3 (h.1 3 0) x y)) 32 k z) 30 3 (nI k + 1) := by
        unfold H_Fsappend; rw [q3, if_neg (fun w => absurd (hge.mp w) (by omega)), nI_clamp (by omega)]
      rw [g1]
      exact q_Shsee_60 _ (Or.inr (Or.inr (Or.inr ⟨c1, c2, c3, hk20, by rw [← nI_1 k]; rfl, rfl⟩)))
    · rw [q3] at c4
      exact Or.inr (Or.inr (Or.inl ⟨c1, c2, c3, by have := mt hlt.mpr c4; omega, rfl, rfl⟩))
  refine ⟨_, c1, fun v h2 hp => ?_⟩
  rw [e0, e1] at hp
  rcases z_cell hL.1 hL.2.1 x y with ⟨a, b, ha, hb, rfl, rfl, k1, k2, k3⟩ | ⟨k1, k3⟩
  · have hc : zW L * b + a < zA L := by unfold zA; exact z_lin ha hb
    have hne : ¬ nI (zW L * b + a) = -1 := nI_neg1 (by omega)
    rw [k1, k2] at hp
    rcases z_bnd (x := z) (b := 40) (b2 := 40) (k := 40) (by decide) (by decide) with ⟨w0, w1, w2, q, hq, rfl⟩ | ⟨w1, w2⟩
    · rcases hp with ⟨a1, _⟩ | ⟨_, a2, _⟩ | ⟨_, _, _, a3, ev, eh⟩ | ⟨_, _, _, a3, ev, eh⟩
      · exact absurd a1 one0
      · rcases a2 with a2 | ⟨_, a2⟩
        · exact absurd a2 w0
        · exact absurd w1 a2
      · rw [ev, eh]
        have hk20 : nI k = 20 := heq.mpr (by omega)
        have g2 : H_Mosee h (nI a) (nI b) (nI q) = h := by unfold H_Mosee; rw [f0, f1, q4, k3, w2, if_neg hne, if_neg one0, if_pos hk20]
        have c2 := c_Mosee (E := E) (n := 98) (nI a) (nI b) (nI q) h (fun _ _ r => absurd (by rw [q4]; exact hk20) r) (fun _ _ r => absurd (by rw [q4]; exact hk20) r)
        rw [g2] at c2
        refine ⟨_, rfl, _, c2, fun v2 h3 hp2 => ⟨?_, by rw [hp2.2]; exact zInv_mono j h hI'⟩⟩
        rw [hp2.1]
        unfold f_Mosee
        rw [f0, f1, q4, k3, w2, if_neg hne, if_neg one0, if_pos hk20]
      · rw [ev, eh]
        have hn20 : ¬ nI k = 20 := fun r => absurd (heq.mp r) (by omega)
        generalize hh : jPI (jPI (jPI h 31 k (nI (zW L * b + a))) 32 k (nI q)) 30 3 (nI k + 1) = h1
        have r0 : h1.1 52 0 = nI (zW L) := by rw [← hh]; exact f0
        have r1 : h1.1 52 1 = nI (zG L) := by rw [← hh]; exact f1
        have r14 : h1.1 52 14 = nI k := by rw [← hh]; exact q4
        have g2 : H_Mosee h1 (nI a) (nI b) (nI q) = jPI (jPI (jPI h1 59 (2 * k) (nI (zW L * b + a))) 59 (2 * k + 1) (nI q)) 52 14 (nI k + 1) := by
          unfold H_Mosee
          rw [r0, r1, r14, k3, w2, if_neg hne, if_neg one0, if_neg hn20, z_2x, show nI (2 * k) + 1 = nI (2 * k + 1) from nI_1 _, nI_clamp (by omega), nI_clamp (by omega)]
        have c2 := c_Mosee (E := E) (n := 98) (nI a) (nI b) (nI q) h1 (fun _ _ _ => by rw [r14, z_2x]; exact z_vp (by omega) (by omega)) (fun _ _ _ => by rw [r14, z_2x1]; exact z_vp (by omega) (by omega))
        rw [g2] at c2
        refine ⟨_, rfl, _, c2, fun v2 h3 hp2 => ⟨?_, ?_⟩⟩
        · rw [hp2.1]
          unfold f_Mosee
          rw [r0, r1, r14, k3, w2, if_neg hne, if_neg one0, if_neg hn20, nI_1]
        · rw [hp2.2, ← hh]
          refine ⟨L, S, hL, hCl, hMl, zSok_up hS, hCs, hMs, zIm_up hIm, ⟨q1, q2, k + 1, by omega, nI_1 k, nI_1 k, fun i hi => ?_⟩, hBk, hTx, hFa⟩
          show ∃ c' d', c' < zA L ∧ d' ≤ 40 ∧ upd (h.1 31) k (nI (zW L * b + a)) i = nI c' ∧ upd (upd (h.1 59) (2 * k) (nI (zW L * b + a))) (2 * k + 1) (nI q) (2 * i) = nI c' ∧ upd (h.1 32) k (nI q) i = nI d' ∧ upd (upd (h.1 59) (2 * k) (nI (zW L * b + a))) (2 * k + 1) (nI q) (2 * i + 1) = nI d'
          rw [(upd_pair i).1, (upd_pair i).2, upd_if, upd_if]
          by_cases he : i = k
          · rw [if_pos he, if_pos he, if_pos he, if_pos he]
            exact ⟨_, q, hc, hq, rfl, rfl, rfl, rfl⟩
          · rw [if_neg he, if_neg he, if_neg he, if_neg he]
            exact q5 i (by omega)
    · rcases hp with ⟨a1, _⟩ | ⟨_, _, ev, eh⟩ | ⟨_, a1, a2, _⟩ | ⟨_, a1, a2, _⟩
      · exact absurd a1 one0
      · rw [ev, eh]
        have g2 : H_Mosee h (nI a) (nI b) z = h := by unfold H_Mosee; rw [f0, f1, k3, w2, if_neg hne, if_pos rfl]
        have c2 := c_Mosee (E := E) (n := 98) (nI a) (nI b) z h (fun _ r => absurd w2 r) (fun _ r => absurd w2 r)
        rw [g2] at c2
        refine ⟨_, rfl, _, c2, fun v2 h3 hp2 => ⟨?_, by rw [hp2.2]; exact zInv_mono j h hI'⟩⟩
        rw [hp2.1]
        unfold f_Mosee
        rw [f0, f1, k3, w2, if_neg hne, if_pos rfl]
      · rcases w1 with w | ⟨w, w'⟩
        · exact absurd w a1
        · exact absurd a2 w'
      · rcases w1 with w | ⟨w, w'⟩
        · exact absurd w a1
        · exact absurd a2 w'
  · rcases hp with ⟨a1, ev, eh⟩ | ⟨a1, _⟩ | ⟨a1, _⟩ | ⟨a1, _⟩
    · rw [ev, eh]
      have g2 : H_Mosee h x y z = h := by unfold H_Mosee; rw [f0, f1, k3, if_pos rfl]
      have c2 := c_Mosee (E := E) (n := 98) x y z h (fun q => absurd (by rw [f0, f1, k3]) q) (fun q => absurd (by rw [f0, f1, k3]) q)
      rw [g2] at c2
      refine ⟨_, rfl, _, c2, fun v2 h3 hp2 => ⟨?_, by rw [hp2.2]; exact zInv_mono j h hI'⟩⟩
      rw [hp2.1]
      unfold f_Mosee
      rw [f0, f1, k3, if_pos rfl]
    · exact absurd k1 a1
    · exact absurd k1 a1
    · exact absurd k1 a1
