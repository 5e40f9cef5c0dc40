/-! ===== the small calls ===== -/
theorem z_ix0 (m : Nat) : 2 + 6 * nI m = nI (2 + 6 * m) := by
  show nI 2 + nI 6 * nI m = _
  rw [pk_mul, nI_add]
theorem z_ixd (m d e : Nat) (he : 2 + d = e) : (2 + 6 * nI m) + nI d = nI (e + 6 * m) := by
  rw [z_ix0, nI_add]
  congr 1
  omega
theorem z_ix1 (m : Nat) : (2 + 6 * nI m) + 1 = nI (3 + 6 * m) := z_ixd m 1 3 rfl
theorem z_ix2 (m : Nat) : (2 + 6 * nI m) + 2 = nI (4 + 6 * m) := z_ixd m 2 4 rfl
theorem z_ix3 (m : Nat) : (2 + 6 * nI m) + 3 = nI (5 + 6 * m) := z_ixd m 3 5 rfl
theorem z_ix4 (m : Nat) : (2 + 6 * nI m) + 4 = nI (6 + 6 * m) := z_ixd m 4 6 rfl
theorem z_ix5 (m : Nat) : (2 + 6 * nI m) + 5 = nI (7 + 6 * m) := z_ixd m 5 7 rfl
def sOr (S : ZS) (m k : Nat) : ZS := (S.1, S.2.1, S.2.2.1, S.2.2.2.1, S.2.2.2.2.1, S.2.2.2.2.2.1, fun i => if i = m then k else S.2.2.2.2.2.2 i)
def sSl (S : ZS) (m k : Nat) : ZS := (S.1, S.2.1, S.2.2.1, fun i => if i = m then k else S.2.2.2.1 i, S.2.2.2.2)
def sSe (S : ZS) (v : Nat) : ZS := ((S.1.1, v), S.2)
def sSk (S : ZS) (c : Nat) (b : Bool) : ZS := (S.1, fun i => if i = c then b else S.2.1 i, S.2.2)
theorem upd_ne {f : Nat → Int32} {k j : Nat} {x : Int32} (h : j ≠ k) : upd f k x j = f j := by simp [upd, h]
theorem upd_eq {f : Nat → Int32} {k : Nat} {x : Int32} : upd f k x k = x := by simp [upd]
theorem zMs_or {L : ZL} {S : ZS} {r : Nat → Int32} (hr : zMs L S r) {m : Nat} (hm : m < 4) (k : Nat) : zMs L (sOr S m k) (upd r (7 + 6 * m) (nI k)) := by
  obtain ⟨h1, h2, h3, h4⟩ := hr
  refine ⟨by rw [upd_ne (by omega)]; exact h1, by rw [upd_ne (by omega)]; exact h2, fun c hc => by rw [upd_ne (by omega)]; exact h3 c hc, fun i hi => ?_⟩
  obtain ⟨a, b, c, d, e, f⟩ := h4 i hi
  refine ⟨by rw [upd_ne (by omega)]; exact a, by rw [upd_ne (by omega)]; exact b, by rw [upd_ne (by omega)]; exact c, by rw [upd_ne (by omega)]; exact d, by rw [upd_ne (by omega)]; exact e, ?_⟩
  show upd r (7 + 6 * m) (nI k) (7 + 6 * i) = nI (if i = m then k else zOr S i)
  by_cases he : i = m
  · subst he; rw [upd_eq, if_pos rfl]
  · rw [upd_ne (by omega), if_neg he]; exact f
theorem zMs_sl {L : ZL} {S : ZS} {r : Nat → Int32} (hr : zMs L S r) {m : Nat} (hm : m < 4) (k : Nat) : zMs L (sSl S m k) (upd r (4 + 6 * m) (nI k)) := by
  obtain ⟨h1, h2, h3, h4⟩ := hr
  refine ⟨by rw [upd_ne (by omega)]; exact h1, by rw [upd_ne (by omega)]; exact h2, fun c hc => by rw [upd_ne (by omega)]; exact h3 c hc, fun i hi => ?_⟩
  obtain ⟨a, b, c, d, e, f⟩ := h4 i hi
  refine ⟨by rw [upd_ne (by omega)]; exact a, by rw [upd_ne (by omega)]; exact b, ?_, by rw [upd_ne (by omega)]; exact d, by rw [upd_ne (by omega)]; exact e, by rw [upd_ne (by omega)]; exact f⟩
  show upd r (4 + 6 * m) (nI k) (4 + 6 * i) = nI (if i = m then k else zSl S i)
  by_cases he : i = m
  · subst he; rw [upd_eq, if_pos rfl]
  · rw [upd_ne (by omega), if_neg he]; exact c
theorem zMs_se {L : ZL} {S : ZS} {r : Nat → Int32} (hr : zMs L S r) (v : Nat) : zMs L (sSe S v) (upd r 1 (nI v)) := by
  obtain ⟨h1, h2, h3, h4⟩ := hr
  refine ⟨by rw [upd_ne (by omega)]; exact h1, upd_eq, fun c hc => by rw [upd_ne (by omega)]; exact h3 c hc, fun i hi => ?_⟩
  obtain ⟨a, b, c, d, e, f⟩ := h4 i hi
  exact ⟨by rw [upd_ne (by omega)]; exact a, by rw [upd_ne (by omega)]; exact b, by rw [upd_ne (by omega)]; exact c, by rw [upd_ne (by omega)]; exact d, by rw [upd_ne (by omega)]; exact e, by rw [upd_ne (by omega)]; exact f⟩
theorem zMs_sk {L : ZL} {S : ZS} {r : Nat → Int32} (hM : zM L ≤ 4) (hr : zMs L S r) (q : Nat) (b : Bool) : zMs L (sSk S q b) (upd r (26 + q) (if b = true then 1 else 0)) := by
  obtain ⟨h1, h2, h3, h4⟩ := hr
  refine ⟨by rw [upd_ne (by omega)]; exact h1, by rw [upd_ne (by omega)]; exact h2, fun c hc => ?_, fun i hi => ?_⟩
  · show upd r (26 + q) _ (26 + c) = if (if c = q then b else zSk S c) = true then 1 else 0
    by_cases he : c = q
    · subst he; rw [upd_eq, if_pos rfl]
    · rw [upd_ne (by omega), if_neg he]; exact h3 c hc
  · obtain ⟨a, b, c, d, e, f⟩ := h4 i hi
    exact ⟨by rw [upd_ne (by omega)]; exact a, by rw [upd_ne (by omega)]; exact b, by rw [upd_ne (by omega)]; exact c, by rw [upd_ne (by omega)]; exact d, by rw [upd_ne (by omega)]; exact e, by rw [upd_ne (by omega)]; exact f⟩
theorem one0 : ¬ (1 : Int32) = 0 := by decide
theorem zIm_up {L : ZL} {j : Nat} {h : HP} (hi : zIm L (99 * j) h) : zIm L (99 * (j + 1)) h := zIm.mono (by omega) hi
theorem zSok_up {L : ZL} {j : Nat} {S : ZS} (hi : zSok L S (99 * j)) : zSok L S (99 * (j + 1)) := zSok.mono (by omega) hi
theorem z_vp {m k : Nat} (h : m < k) (hk : k < 2 ^ 31) : vp_in (nI m) k := vp_in_nI h hk
theorem p_fault (E : jEnv) : jPair E 100 zInv mX7_fault mX8_fault [] := by
  intro j h hj hI
  have hI' := hI
  obtain ⟨L, S, hL, hCl, hMl, hS, hCs, hMs, hIm, hFt, hBk, hTx, hFa⟩ := hI
  exact z_pair (c_Shfault h) (c_Mofault h) hFa (zInv_mono j h hI')
theorem p_tear (E : jEnv) : jPair E 100 zInv mX7_tear mX8_tear [] := by
  intro j h hj hI
  obtain ⟨L, S, hL, hCl, hMl, hS, hCs, hMs, hIm, hFt, hBk, hTx, hFa⟩ := hI
  obtain ⟨k, hk, e1, e2, e3⟩ := hBk
  exact z_pair (c_Shtear h) (c_Motear _) (show h.1 33 1 = h.1 52 16 by rw [e1, e2]) ⟨L, S, hL, hCl, hMl, zSok_up hS, hCs, hMs, zIm_up hIm, hFt, ⟨0, by omega, rfl, rfl, fun i hi => absurd hi (by omega)⟩, hTx, hFa⟩
theorem p_seed (E : jEnv) (x : Int32) : jPair E 100 zInv mX7_seed mX8_seed [.int x] := by
  intro j h hj hI
  have hI' := hI
  obtain ⟨L, S, hL, hCl, hMl, hS, hCs, hMs, hIm, hFt, hBk, hTx, hFa⟩ := hI
  by_cases hx : (0 : Int32) ≤ x
  · have e1 : H_Shseed h x = jPI h 18 2 x := by unfold H_Shseed; rw [if_pos hx]
    have e2 : H_Moseed (jPI h 18 2 x) x = jPI (jPI h 18 2 x) 56 1 x := by unfold H_Moseed; rw [if_pos hx]
    have c1 := c_Shseed (E := E) (n := 100) x h
    have c2 := c_Moseed (E := E) (n := 100) x (jPI h 18 2 x)
    rw [e1] at c1
    rw [e2] at c2
    obtain ⟨v, hv, rfl⟩ := nI_of (x := x) (Int32.not_lt.mpr hx)
    refine z_pair c1 c2 ?_ ⟨L, sSe S v, hL, hCl, hMl, ?_, ?_, zMs_se hMs v, zIm_up hIm, hFt, hBk, hTx, hFa⟩
    · show (if (0 : Int32) ≤ nI v then h.1 18 2 else _) = if (0 : Int32) ≤ nI v then h.1 56 1 else _
      rw [if_pos hx, if_pos hx, hCs.2.1, hMs.2.1]
    · obtain ⟨a, b, c⟩ := zSok_up hS
      exact ⟨a, hv, c⟩
    · exact ⟨hCs.1, rfl, hCs.2.2⟩
  · have e1 : H_Shseed h x = h := by unfold H_Shseed; rw [if_neg hx]
    have e2 : H_Moseed h x = h := by unfold H_Moseed; rw [if_neg hx]
    have c1 := c_Shseed (E := E) (n := 100) x h
    have c2 := c_Moseed (E := E) (n := 100) x h
    rw [e1] at c1
    rw [e2] at c2
    refine z_pair c1 c2 ?_ (zInv_mono j h hI')
    show (if (0 : Int32) ≤ x then h.1 18 2 else _) = if (0 : Int32) ≤ x then h.1 56 1 else _
    rw [if_neg hx, if_neg hx]
theorem p_order (E : jEnv) (x y : Int32) : jPair E 100 zInv mX7_order mX8_order [.int x, .int y] := by
  intro j h hj hI
  have hI' := hI
  obtain ⟨L, S, hL, hCl, hMl, hS, hCs, hMs, hIm, hFt, hBk, hTx, hFa⟩ := hI
  have hM4 : zM L ≤ 4 := hL.2.2.2.2.2.1
  have e3 : h.1 3 3 = nI (zM L) := hCl.1.2.2.2.1
  have e5 : h.1 52 5 = nI (zM L) := hMl.1.2.2.2.1
  rcases z_isMan (n := zM L) (by omega) x with ⟨m1, m2, m, hm, rfl⟩ | ⟨m1, m2⟩
  · have hv4 : vp_in (nI m) 4 := z_vp (by omega) (by omega)
    have hv62 : vp_in ((2 + 6 * nI m) + 5) 62 := by rw [z_ix5]; exact z_vp (by omega) (by omega)
    have hc4 : (nI m).toNatClampNeg = m := nI_clamp (by omega)
    have hc7 : ((2 + 6 * nI m) + 5).toNatClampNeg = 7 + 6 * m := by rw [z_ix5]; exact nI_clamp (by omega)
    rcases z_way y with ⟨w1, w2, k, hk, rfl⟩ | ⟨w1, w2⟩
    · have e1 : H_Shorder h (nI m) (nI k) = jPI h 23 m (nI k) := by
        unfold H_Shorder; rw [e3, m1, w1, if_neg (by decide), if_neg (by decide), hc4]
      have e2 : H_Moorder (jPI h 23 m (nI k)) (nI m) (nI k) = jPI (jPI h 23 m (nI k)) 56 (7 + 6 * m) (nI k) := by
        unfold H_Moorder
        rw [show (jPI h 23 m (nI k)).1 52 5 = nI (zM L) from e5, m2, w2, if_neg (by decide), if_neg (by decide), hc7]
      have c1 := c_Shorder (E := E) (n := 99) (nI m) (nI k) h (fun _ _ => hv4) (fun _ _ => hv4)
      have c2 := c_Moorder (E := E) (n := 98) (nI m) (nI k) (jPI h 23 m (nI k)) (fun _ _ => hv62) (fun _ _ => hv62)
      rw [e1] at c1
      rw [e2] at c2
      refine z_pair c1 c2 ?_ ⟨L, sOr S m k, hL, hCl, hMl, ?_, ?_, zMs_or hMs (by omega) k, zIm_up hIm, hFt, hBk, hTx, hFa⟩
      · unfold f_Shorder f_Moorder
        rw [show (jPI h 23 m (nI k)).1 52 5 = nI (zM L) from e5, e3, m1, m2, w1, w2, if_neg (by decide), if_neg (by decide), if_neg (by decide), if_neg (by decide), hc4, hc7]
        show h.1 23 m = h.1 56 (7 + 6 * m)
        rw [(hMs.2.2.2 m hm).2.2.2.2.2]
        exact (hCs.2.2.2 m hm).2.2.2.2
      · obtain ⟨a, b, c, d⟩ := zSok_up hS
        refine ⟨a, b, c, fun i hi => ?_⟩
        obtain ⟨d1, d2, d3, d4, d5⟩ := d i hi
        refine ⟨d1, d2, d3, d4, ?_⟩
        show (if i = m then k else zOr S i) ≤ 4
        split
        · exact hk
        · exact d5
      · refine ⟨hCs.1, hCs.2.1, hCs.2.2.1, fun i hi => ?_⟩
        obtain ⟨d1, d2, d3, d4, d5⟩ := hCs.2.2.2 i hi
        refine ⟨d1, d2, d3, d4, ?_⟩
        show upd (h.1 23) m (nI k) i = nI (if i = m then k else zOr S i)
        by_cases he : i = m
        · subst he; rw [upd_eq, if_pos rfl]
        · rw [upd_ne he, if_neg he]; exact d5
    · have e1 : H_Shorder h (nI m) y = h := by
        unfold H_Shorder; rw [e3, m1, w1, if_neg (by decide), if_pos rfl]
      have e2 : H_Moorder h (nI m) y = h := by
        unfold H_Moorder; rw [e5, m2, w2, if_neg (by decide), if_pos rfl]
      have c1 := c_Shorder (E := E) (n := 99) (nI m) y h (fun _ _ => hv4) (fun _ _ => hv4)
      have c2 := c_Moorder (E := E) (n := 98) (nI m) y h (fun _ _ => hv62) (fun _ _ => hv62)
      rw [e1] at c1
      rw [e2] at c2
      refine z_pair c1 c2 ?_ (zInv_mono j h hI')
      unfold f_Shorder f_Moorder
      rw [e3, e5, m1, m2, w1, w2, if_neg one0, if_pos rfl, if_neg one0, if_pos rfl]
  · have e1 : H_Shorder h x y = h := by
      unfold H_Shorder; rw [e3, m1, if_pos rfl]
    have e2 : H_Moorder h x y = h := by
      unfold H_Moorder; rw [e5, m2, if_pos rfl]
    have c1 := c_Shorder (E := E) (n := 99) x y h (fun q => absurd (by rw [e3, m1]) q) (fun q => absurd (by rw [e3, m1]) q)
    have c2 := c_Moorder (E := E) (n := 98) x y h (fun q => absurd (by rw [e5, m2]) q) (fun q => absurd (by rw [e5, m2]) q)
    rw [e1] at c1
    rw [e2] at c2
    refine z_pair c1 c2 ?_ (zInv_mono j h hI')
    unfold f_Shorder f_Moorder
    rw [e3, e5, m1, m2, if_pos rfl, if_pos rfl]
