/-! ===== man, stake, see ===== -/
theorem nI_neg1 {n : Nat} (hn : n < 2 ^ 31) : ¬ nI n = -1 := fun q => absurd (congrArg Int32.toInt q) (by rw [nI_toInt hn]; show ¬ ((n : Nat) : Int) = -1; omega)
theorem z_spot {L : ZL} {S : ZS} {r : Nat → Int32} (hr : zMs L S r) (hM : zM L ≤ 4) {m : Nat} (hm : m < zM L) : f_MospotOf (nI (zW L)) r (nI m) = nI (zCe S m) := by
  obtain ⟨a1, a2, _⟩ := hr.2.2.2 m hm
  unfold f_MospotOf
  rw [z_ix1, z_ix0, nI_clamp (by omega), nI_clamp (by omega), a1, a2, pk_mul, nI_add, Nat.div_add_mod]
theorem z_wetC {L : ZL} (hL : zLok L) {S : ZS} {B : Nat} (hB : B < 2 ^ 31) (hS : zSok L S B) {h : HP} (hCl : zCl L h) (hCs : zCs L S 18 h) {m : Nat} (hm : m < zM L) : f_StisWet (h.1 18 1) (h.1 3 2) (h.2 18 3) (h.1 19) (h.1 20) (h.1 4) (h.1 5) (nI m) = if zDe L (zSk S) (zCe S m) (zH S) ≤ zSl S m then 0 else 1 := by
  have hM : zM L ≤ 4 := hL.2.2.2.2.2.1
  have hA := hL.2.2.1
  obtain ⟨a1, a2, _⟩ := hCs.2.2.2 m hm
  obtain ⟨s1, s2, _⟩ := hS.2.2.2 m hm
  have a1' : h.1 19 m = nI (zCe S m) := a1
  have a2' : h.1 20 m = nI (zSl S m) := a2
  have hc : (nI m).toNatClampNeg = m := nI_clamp (by omega)
  have hd := z_depthC hL hCl.2.1 hCl.2.2.1 hCs.2.2.1 (c := zCe S m) (t := zH S) (by omega) (by have := hS.1; omega)
  have hle := zDe_le hL (zSk S) (c := zCe S m) (t := zH S) (by omega)
  unfold f_StisWet
  rw [hc, a1', a2', hCs.1, hCl.1.2.2.1, hd]
  by_cases q : zDe L (zSk S) (zCe S m) (zH S) ≤ zSl S m
  · rw [if_pos q, if_pos (nI_le q (by omega))]
  · rw [if_neg q, if_neg (nI_ge (by omega) (by omega))]
theorem z_wetM {L : ZL} (hL : zLok L) {S : ZS} {B : Nat} (hB : B < 2 ^ 31) (hS : zSok L S B) {h : HP} (hMl : zMl L h) (hMs : zMs L S (h.1 56)) {m : Nat} (hm : m < zM L) : f_MoisWet (h.1 52 0) (h.1 52 4) (h.1 53) (h.1 54) (h.1 56) (nI m) = if zDe L (zSk S) (zCe S m) (zH S) ≤ zSl S m then 0 else 1 := by
  have hM : zM L ≤ 4 := hL.2.2.2.2.2.1
  have hA := hL.2.2.1
  obtain ⟨_, _, a3, _⟩ := hMs.2.2.2 m hm
  obtain ⟨s1, s2, _⟩ := hS.2.2.2 m hm
  have hd := z_depthM hL hMl.2.1 hMl.2.2.1 hMs.2.2.1 (c := zCe S m) (t := zH S) (by omega) (by have := hS.1; omega)
  have hle := zDe_le hL (zSk S) (c := zCe S m) (t := zH S) (by omega)
  unfold f_MoisWet
  rw [hMl.1.1, hMl.1.2.2.1, z_spot hMs hM hm, hMs.1, hd, z_ix2, nI_clamp (by omega), a3]
  by_cases q : zDe L (zSk S) (zCe S m) (zH S) ≤ zSl S m
  · rw [if_pos q, if_pos (nI_le q (by omega))]
  · rw [if_neg q, if_neg (nI_ge (by omega) (by omega))]
theorem z_col {w c : Nat} (hw : 0 < w) (hw9 : w ≤ 9) (hc : c < 36) : f_LdcolumnOf (nI w) (nI c) = nI (c % w) ∧ f_LdrowOf (nI w) (nI c) = nI (c / w) := by
  unfold f_LdcolumnOf f_LdrowOf
  rw [if_neg (nI_nle hw (by omega)), if_neg (nI_nle hw (by omega)), pk_rem (by omega) hw (by omega), pk_div (by omega) hw (by omega)]
  exact ⟨rfl, rfl⟩
theorem p_man (E : jEnv) (x y : Int32) : jPair E 100 zInv mX7_man mX8_man [.int x, .int y] := by
  intro j h hj hI
  have hI' := hI
  obtain ⟨L, S, hL, hCl, hMl, hS, hCs, hMs, hIm, hFt, hBk, hTx, hFa⟩ := hI
  have hM4 : zM L ≤ 4 := hL.2.2.2.2.2.1
  have hA := hL.2.2.1
  have e3 : h.1 3 3 = nI (zM L) := hCl.1.2.2.2.1
  have e0 : h.1 3 0 = nI (zW L) := hCl.1.1
  have e2 : h.1 3 2 = nI (zT L) := hCl.1.2.2.1
  have e5 : h.1 52 5 = nI (zM L) := hMl.1.2.2.2.1
  have f0 : h.1 52 0 = nI (zW L) := hMl.1.1
  have f4 : h.1 52 4 = nI (zT L) := hMl.1.2.2.1
  have eh : h.1 18 1 = nI (zH S) := hCs.1
  have fh : h.1 56 0 = nI (zH S) := hMs.1
  obtain ⟨t1, t6⟩ := hL.2.2.2.2.1
  have hH : zH S ≤ 99 * 512 := by have := hS.1; omega
  have hmod : zH S % zT L < zT L := Nat.mod_lt _ (by omega)
  rcases z_isMan (n := zM L) (by omega) x with ⟨m1, m2, m, hm, rfl⟩ | ⟨m1, m2⟩
  · have hv4 : vp_in (nI m) 4 := z_vp (by omega) (by omega)
    have hc4 : (nI m).toNatClampNeg = m := nI_clamp (by omega)
    obtain ⟨s1, s2, s3, s4, s5⟩ := hS.2.2.2 m hm
    obtain ⟨r1, r2, r3, r4, r5⟩ := hCs.2.2.2 m hm
    obtain ⟨u1, u2, u3, u4, u5, u6⟩ := hMs.2.2.2 m hm
    have r1' : h.1 19 m = nI (zCe S m) := r1
    have r2' : h.1 20 m = nI (zSl S m) := r2
    have r3' : h.1 21 m = nI (zKn S m) := r3
    have r4' : h.1 22 m = nI (zWe S m) := r4
    have r5' : h.1 23 m = nI (zOr S m) := r5
    have hw : 0 < zW L := by
      rcases Nat.eq_zero_or_pos (zW L) with q | q
      · have := (hL.2.2.2.2.2.2.2.1 q).2.1; omega
      · exact q
    obtain ⟨kc, kr⟩ := z_col (w := zW L) (c := zCe S m) hw hL.1 (by omega)
    have hti : vp_in (f_LdtideOf (h.1 3 2) (h.1 18 1)) 6 := by rw [e2, eh, z_tide t1 t6 (by omega)]; exact z_vp (by omega) (by omega)
    have c1 := c_Shman (E := E) (n := 96) (nI m) y h (fun _ _ => hv4) (fun _ _ => hv4) (fun _ _ => hv4) (fun _ _ => hv4) (fun _ _ => hv4) (fun _ _ => hv4) (fun _ _ _ _ _ _ => hti) (fun _ _ => hv4) (fun _ _ => hv4)
    have hsp := z_spot hMs hM4 hm
    have hyy : (¬ f_Moin y.toInt64 0 6 = 0 ∧ ∃ k, k ≤ 6 ∧ y = nI k) ∨ (f_Moin y.toInt64 0 6 = 0 ∧ (y.toInt < 0 ∨ 6 < y.toInt)) := by
      rw [z_upto (k := 6) (by decide)]
      by_cases q : 0 ≤ y.toInt ∧ y.toInt ≤ ((6 : Nat) : Int)
      · left; rw [if_pos q]; exact ⟨one0, y.toInt.toNat, by omega, z_of (by omega)⟩
      · right; rw [if_neg q]; exact ⟨rfl, by omega⟩
    have c2 := c_Moman (E := E) (n := 98) (nI m) y h (fun _ _ _ _ => by rw [z_ix1]; exact z_vp (by omega) (by omega)) (fun _ _ _ _ => by rw [z_ix0]; exact z_vp (by omega) (by omega)) (fun _ _ _ _ => by rw [f0, hsp]; exact z_vp (by omega) (by omega)) (fun _ _ _ _ => by rw [f4]; exact nI_ne0 (by omega) (by omega)) (fun _ _ _ _ => by rw [f4, fh, pk_rem (by omega) (by omega) (by omega)]; exact z_vp (by omega) (by omega)) (fun _ _ _ _ => by rw [f0, hsp, z_26]; exact z_vp (by omega) (by omega)) (fun _ _ _ _ => by rw [z_ix2]; exact z_vp (by omega) (by omega)) (fun _ _ _ _ => by rw [z_ix5]; exact z_vp (by omega) (by omega)) (fun _ q1 q2 => by
      rcases hyy with ⟨_, k, hk, rfl⟩ | ⟨q3, _⟩
      · rw [z_ixd m k (2 + k) rfl]; exact z_vp (by omega) (by omega)
      · exact absurd q3 q1)
    refine z_pair c1 c2 ?_ (zInv_mono j h hI')
    have wC := z_wetC hL (B := 99 * j) (by omega) hS hCl hCs hm
    have wM := z_wetM hL (B := 99 * j) (by omega) hS hMl hMs hm
    unfold f_Shman f_Moman
    rw [wC, wM, e3, e5, m1, m2, if_neg one0, if_neg one0, hc4, e0]
    rcases hyy with ⟨q1, k, hk, rfl⟩ | ⟨q1, q2⟩
    · rw [if_neg q1, if_neg (show ¬ ((nI k).toInt < 0 ∨ 6 < (nI k).toInt) by rw [nI_toInt (by omega)]; omega)]
      have hk7 : k = 0 ∨ k = 1 ∨ k = 2 ∨ k = 3 ∨ k = 4 ∨ k = 5 ∨ k = 6 := by omega
      rcases hk7 with rfl | rfl | rfl | rfl | rfl | rfl | rfl
      · rw [if_pos (show (nI 0).toInt = 0 by decide), if_neg (show ¬ (5 : Int32) ≤ nI 0 by decide), r1', kc, z_ixd m 0 2 rfl, nI_clamp (by omega), u1]
      · rw [if_neg (show ¬ (nI 1).toInt = 0 by decide), if_pos (show (nI 1).toInt = 1 by decide), if_neg (show ¬ (5 : Int32) ≤ nI 1 by decide), r1', kr, z_ixd m 1 3 rfl, nI_clamp (by omega), u2]
      · rw [if_neg (show ¬ (nI 2).toInt = 0 by decide), if_neg (show ¬ (nI 2).toInt = 1 by decide), if_pos (show (nI 2).toInt = 2 by decide), if_neg (show ¬ (5 : Int32) ≤ nI 2 by decide), r2', z_ixd m 2 4 rfl, nI_clamp (by omega), u3]
      · rw [if_neg (show ¬ (nI 3).toInt = 0 by decide), if_neg (show ¬ (nI 3).toInt = 1 by decide), if_neg (show ¬ (nI 3).toInt = 2 by decide), if_pos (show (nI 3).toInt = 3 by decide), if_neg (show ¬ (5 : Int32) ≤ nI 3 by decide), r3', z_ixd m 3 5 rfl, nI_clamp (by omega), u4]
      · rw [if_neg (show ¬ (nI 4).toInt = 0 by decide), if_neg (show ¬ (nI 4).toInt = 1 by decide), if_neg (show ¬ (nI 4).toInt = 2 by decide), if_neg (show ¬ (nI 4).toInt = 3 by decide), if_pos (show (nI 4).toInt = 4 by decide), if_neg (show ¬ (5 : Int32) ≤ nI 4 by decide), r4', z_ixd m 4 6 rfl, nI_clamp (by omega), u5]
      · rw [if_neg (show ¬ (nI 5).toInt = 0 by decide), if_neg (show ¬ (nI 5).toInt = 1 by decide), if_neg (show ¬ (nI 5).toInt = 2 by decide), if_neg (show ¬ (nI 5).toInt = 3 by decide), if_neg (show ¬ (nI 5).toInt = 4 by decide), if_pos (show (nI 5).toInt = 5 by decide), if_pos (show (5 : Int32) ≤ nI 5 by decide), if_pos (show nI 5 = 5 by decide)]
      · rw [if_neg (show ¬ (nI 6).toInt = 0 by decide), if_neg (show ¬ (nI 6).toInt = 1 by decide), if_neg (show ¬ (nI 6).toInt = 2 by decide), if_neg (show ¬ (nI 6).toInt = 3 by decide), if_neg (show ¬ (nI 6).toInt = 4 by decide), if_neg (show ¬ (nI 6).toInt = 5 by decide), if_pos (show (5 : Int32) ≤ nI 6 by decide), if_neg (show ¬ nI 6 = 5 by decide), r5', z_ix5, nI_clamp (by omega), u6]
    · rw [if_pos q1, if_pos q2]
  · have n1 : f_LdisMan (h.1 3 3) x = 0 := by rw [e3, m1]
    have n2 : f_MoisMan (h.1 52 5) x = 0 := by rw [e5, m2]
    have c1 := c_Shman (E := E) (n := 96) x y h (fun q => absurd n1 q) (fun q => absurd n1 q) (fun q => absurd n1 q) (fun q => absurd n1 q) (fun q => absurd n1 q) (fun q => absurd n1 q) (fun q => absurd n1 q) (fun q => absurd n1 q) (fun q => absurd n1 q)
    have c2 := c_Moman (E := E) (n := 98) x y h (fun q => absurd n2 q) (fun q => absurd n2 q) (fun q => absurd n2 q) (fun q => absurd n2 q) (fun q => absurd n2 q) (fun q => absurd n2 q) (fun q => absurd n2 q) (fun q => absurd n2 q) (fun q => absurd n2 q)
    refine z_pair c1 c2 ?_ (zInv_mono j h hI')
    unfold f_Shman f_Moman
    rw [n1, n2, if_pos rfl, if_pos rfl]
/-- a stake set or taken away -/
theorem zB_set {g : Int64} {k : Nat → Bool} (hg : zB g k) {c : Nat} (hc : c < 64) : zB (g ||| (1 <<< ((nI c).toInt64 &&& 63))) (fun i => if i = c then true else k i) := by
  intro i hi
  rw [bt_or, hg i hi, bt_one hc hi]
  by_cases q : i = c
  · simp [q]
  · simp [q]
theorem zB_clr {g : Int64} {k : Nat → Bool} (hg : zB g k) {c : Nat} (hc : c < 64) : zB (g &&& ((1 <<< ((nI c).toInt64 &&& 63)) ^^^ (-1))) (fun i => if i = c then false else k i) := by
  intro i hi
  rw [bt_and, hg i hi, bt_xor, bt_one hc hi, bt_m1 hi]
  by_cases q : i = c
  · simp [q]
  · simp [q]
theorem p_stake (E : jEnv) (x y z : Int32) (hz : z = 0 ∨ z = 1) : jPair E 100 zInv mX7_stake mX8_stake [.int x, .int y, .int z] := by
  intro j h hj hI
  have hI' := hI
  obtain ⟨L, S, hL, hCl, hMl, hS, hCs, hMs, hIm, hFt, hBk, hTx, hFa⟩ := hI
  have e0 : h.1 3 0 = nI (zW L) := hCl.1.1
  have e1 : h.1 3 1 = nI (zG L) := hCl.1.2.1
  have f0 : h.1 52 0 = nI (zW L) := hMl.1.1
  have f1 : h.1 52 1 = nI (zG L) := hMl.1.2.1
  have hA := hL.2.2.1
  have hM4 : zM L ≤ 4 := hL.2.2.2.2.2.1
  have c1 := c_Shstake (E := E) (n := 99) x y z h
  rcases z_cell hL.1 hL.2.1 x y with ⟨a, b, ha, hb, rfl, rfl, k1, k2, k3⟩ | ⟨k1, k3⟩
  · have hc : zW L * b + a < zA L := by unfold zA; exact z_lin ha hb
    generalize hq : zW L * b + a = c at *
    have hne : ¬ nI c = -1 := nI_neg1 (by omega)
    have hcl : (26 + nI c).toNatClampNeg = 26 + c := by rw [z_26]; exact nI_clamp (by omega)
    have hvp : vp_in (26 + nI c) 62 := by rw [z_26]; exact z_vp (by omega) (by omega)
    have hg : zB (h.2 18 3) (zSk S) := hCs.2.2.1
    have hh : f_Shhas (h.2 18 3) (nI c) = if zSk S c = true then 1 else 0 := by rw [z_has _ (by omega), hg c (by omega)]
    have hr : h.1 56 (26 + c) = if zSk S c = true then 1 else 0 := hMs.2.2.1 c (by omega)
    have hans : (if f_Shhas (h.2 18 3) (nI c) = 0 then (0 : Int32) else 1) = h.1 56 (26 + c) := by
      rw [hh, hr]
      by_cases q : zSk S c = true
      · rw [if_pos q, if_neg one0]
      · rw [if_neg q, if_pos rfl]
    rcases hz with rfl | rfl
    · have g1 : H_Shstake h (nI a) (nI b) 0 = jPL h 18 3 ((h.2 18 3) &&& ((1 <<< ((nI c).toInt64 &&& 63)) ^^^ (-1))) := by
        unfold H_Shstake; rw [e0, e1, k1, k2, if_neg one0, if_pos rfl]; split <;> rfl
      rw [g1] at c1
      generalize hH : jPL h 18 3 ((h.2 18 3) &&& ((1 <<< ((nI c).toInt64 &&& 63)) ^^^ (-1))) = h1 at c1
      have f0' : h1.1 52 0 = nI (zW L) := by rw [← hH]; exact f0
      have f1' : h1.1 52 1 = nI (zG L) := by rw [← hH]; exact f1
      have f56 : h1.1 56 = h.1 56 := by rw [← hH]; rfl
      have g2 : H_Mostake h1 (nI a) (nI b) 0 = jPI h1 56 (26 + c) 0 := by
        unfold H_Mostake; rw [f0', f1', k3, if_neg hne, if_pos rfl, hcl]
      have c2 := c_Mostake (E := E) (n := 98) (nI a) (nI b) 0 h1 (fun _ => by rw [f0', f1', k3]; exact hvp) (fun _ _ => by rw [f0', f1', k3]; exact hvp) (fun _ _ => by rw [f0', f1', k3]; exact hvp)
      rw [g2] at c2
      refine z_pair c1 c2 ?_ ?_
      · unfold f_Shstake f_Mostake
        rw [e0, e1, f0', f1', f56, k1, k2, k3, if_neg one0, if_pos rfl, if_neg hne, if_pos rfl, hcl]
        exact hans
      · rw [← hH]
        refine ⟨L, sSk S c false, hL, hCl, hMl, ?_, ⟨hCs.1, hCs.2.1, zB_clr hg (by omega), hCs.2.2.2⟩, zMs_sk hM4 hMs c false, zIm_up hIm, hFt, hBk, hTx, hFa⟩
        obtain ⟨s1, s2, s3, s4⟩ := zSok_up hS
        refine ⟨s1, s2, fun i hi => ?_, s4⟩
        have hi' : (if i = c then false else zSk S i) = true := hi
        by_cases q : i = c
        · rw [if_pos q] at hi'; cases hi'
        · rw [if_neg q] at hi'; exact s3 i hi'
    · have g1 : H_Shstake h (nI a) (nI b) 1 = jPL h 18 3 ((h.2 18 3) ||| (1 <<< ((nI c).toInt64 &&& 63))) := by
        unfold H_Shstake; rw [e0, e1, k1, k2, if_neg one0, if_neg one0]; split <;> rfl
      rw [g1] at c1
      generalize hH : jPL h 18 3 ((h.2 18 3) ||| (1 <<< ((nI c).toInt64 &&& 63))) = h1 at c1
      have f0' : h1.1 52 0 = nI (zW L) := by rw [← hH]; exact f0
      have f1' : h1.1 52 1 = nI (zG L) := by rw [← hH]; exact f1
      have f56 : h1.1 56 = h.1 56 := by rw [← hH]; rfl
      have g2 : H_Mostake h1 (nI a) (nI b) 1 = jPI h1 56 (26 + c) 1 := by
        unfold H_Mostake; rw [f0', f1', k3, if_neg hne, if_neg one0, hcl]
      have c2 := c_Mostake (E := E) (n := 98) (nI a) (nI b) 1 h1 (fun _ => by rw [f0', f1', k3]; exact hvp) (fun _ _ => by rw [f0', f1', k3]; exact hvp) (fun _ _ => by rw [f0', f1', k3]; exact hvp)
      rw [g2] at c2
      refine z_pair c1 c2 ?_ ?_
      · unfold f_Shstake f_Mostake
        rw [e0, e1, f0', f1', f56, k1, k2, k3, if_neg one0, if_neg one0, if_neg hne, if_neg one0, hcl]
        exact hans
      · rw [← hH]
        refine ⟨L, sSk S c true, hL, hCl, hMl, ?_, ⟨hCs.1, hCs.2.1, zB_set hg (by omega), hCs.2.2.2⟩, zMs_sk hM4 hMs c true, zIm_up hIm, hFt, hBk, hTx, hFa⟩
        obtain ⟨s1, s2, s3, s4⟩ := zSok_up hS
        refine ⟨s1, s2, fun i hi => ?_, s4⟩
        have hi' : (if i = c then true else zSk S i) = true := hi
        by_cases q : i = c
        · rw [q]; exact hc
        · rw [if_neg q] at hi'; exact s3 i hi'
  · have g1 : H_Shstake h x y z = h := by unfold H_Shstake; rw [e0, e1, k1, if_pos rfl]
    have g2 : H_Mostake h x y z = h := by unfold H_Mostake; rw [f0, f1, k3, if_pos rfl]
    have n2 : f_Mocell (h.1 52 0) (h.1 52 1) x y = -1 := by rw [f0, f1, k3]
    have c2 := c_Mostake (E := E) (n := 98) x y z h (fun q => absurd n2 q) (fun q => absurd n2 q) (fun q => absurd n2 q)
    rw [g1] at c1
    rw [g2] at c2
    refine z_pair c1 c2 ?_ (zInv_mono j h hI')
    unfold f_Shstake f_Mostake
    rw [e0, e1, f0, f1, k1, k3, if_pos rfl, if_pos rfl]
