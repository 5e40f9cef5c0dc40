theorem z_2x (k : Nat) : 2 * nI k = nI (2 * k) := by
  show nI 2 * nI k = _
  rw [pk_mul]
theorem z_2x1 (k : Nat) : 2 * nI k + 1 = nI (2 * k + 1) := by rw [z_2x]; exact nI_add _ 1
/-- two writes into a row of pairs -/
theorem upd_pair {r : Nat → Int32} {k : Nat} {v w : Int32} (i : Nat) : upd (upd r (2 * k) v) (2 * k + 1) w (2 * i) = (if i = k then v else r (2 * i)) ∧ upd (upd r (2 * k) v) (2 * k + 1) w (2 * i + 1) = (if i = k then w else r (2 * i + 1)) := by
  by_cases h : i = k
  · subst h
    rw [if_pos rfl, if_pos rfl, upd_ne (by omega), upd_eq, upd_eq]
    exact ⟨rfl, rfl⟩
  · rw [if_neg h, if_neg h, upd_ne (by omega), upd_ne (by omega), upd_ne (by omega), upd_ne (by omega)]
    exact ⟨rfl, rfl⟩
theorem upd_if {r : Nat → Int32} {k : Nat} {v : Int32} (i : Nat) : upd r k v i = if i = k then v else r i := rfl
theorem c_Shwrite {E : jEnv} {n : Nat} (x y : Int32) (h : HP) (hb : vp_in (h.1 33 1) 40 ∨ (40 : Int32) ≤ h.1 33 1) : jC E mX7_write (n + 1) [.ref 0, .int x, .int y] h (fun v h2 =>
    ((f_LdisMan (h.1 3 3) x = 0 ∧ v = some (.int (-1000000001)) ∧ h2 = h) ∨ (¬ f_LdisMan (h.1 3 3) x = 0 ∧ f_ShisWay y = 0 ∧ v = some (.int (-1000000002)) ∧ h2 = h) ∨ (¬ f_LdisMan (h.1 3 3) x = 0 ∧ ¬ f_ShisWay y = 0 ∧ ¬ h.1 33 1 < 40 ∧ v = some (.int (-1000000004)) ∧ h2 = h) ∨
     (¬ f_LdisMan (h.1 3 3) x = 0 ∧ ¬ f_ShisWay y = 0 ∧ h.1 33 1 < 40 ∧ v = some (.int (h.1 33 1 + 1)) ∧ h2 = jPI (jPI (jPI h 34 ((h.1 33 1).toNatClampNeg) x) 35 ((h.1 33 1).toNatClampNeg) y) 33 1 (h.1 33 1 + 1)))) := by
  refine jC.of (lv := [some (.ref 0), some (.int x), some (.int y)]) (by decide) (Nat.le_of_ble_eq_true rfl) ⟨rfl, rfl, rfl, trivial⟩ (q_Shwrite_0 x y h (fun c1 => Or.inl ⟨c1, rfl, rfl⟩) (fun c1 c2 => Or.inr (Or.inl ⟨c1, c2, rfl, rfl⟩)) (fun c1 c2 c3 => ?_) (fun c1 c2 c3 => Or.inr (Or.inr (Or.inl ⟨c1, c2, c3, rfl, rfl⟩))))
  have h40 : ¬ (40 : Int32) ≤ h.1 33 1 := Int32.not_le.mpr c3
  have hv : vp_in (h.1 33 1) 40 := hb.resolve_right h40
  refine ⟨_, c_Bkappend x y h (fun _ => hv) (fun _ => hv), fun v h2 hp => ?_⟩
  rw [hp.1, hp.2]
  have e1 : H_Bkappend h x y = jPI (jPI (jPI h 34 ((h.1 33 1).toNatClampNeg) x) 35 ((h.1 33 1).toNatClampNeg) y) 33 1 (h.1 33 1 + 1) := by
    unfold H_Bkappend; rw [if_neg h40]
  rw [e1]
  exact q_Shwrite_48 _ (Or.inr (Or.inr (Or.inr ⟨c1, c2, c3, rfl, rfl⟩)))
theorem p_write (E : jEnv) (x y : Int32) : jPair E 100 zInv mX7_write mX8_write [.int x, .int y] := by
  intro j h hj hI
  have hI' := hI
  obtain ⟨L, S, hL, hCl, hMl, hS, hCs, hMs, hIm, hFt, hBk, hTx, hFa⟩ := hI
  have hM4 : zM L ≤ 4 := hL.2.2.2.2.2.1
  have e3 : h.1 3 3 = nI (zM L) := hCl.1.2.2.2.1
  have e5 : h.1 52 5 = nI (zM L) := hMl.1.2.2.2.1
  obtain ⟨k, hk, q1, q2, q3⟩ := hBk
  have hlt : nI k < 40 ↔ k < 40 := nI_ltI (b := 40) (by omega) (by omega)
  have heq : nI k = 40 ↔ k = 40 := nI_eq (b := 40) (by omega) (by omega)
  refine ⟨_, c_Shwrite (n := 99) x y h ?_, fun v h2 hp => ?_⟩
  · rw [q1]
    by_cases h40 : k < 40
    · exact Or.inl (z_vp h40 (by omega))
    · exact Or.inr (show nI 40 ≤ nI k from nI_le (by omega) (by omega))
  · rw [q1, e3] at hp
    rcases z_isMan (n := zM L) (by omega) x with ⟨m1, m2, m, hm, rfl⟩ | ⟨m1, m2⟩
    · rcases z_way y with ⟨w1, w2, d, hd, rfl⟩ | ⟨w1, w2⟩
      · rcases hp with ⟨a1, _⟩ | ⟨_, a2, _⟩ | ⟨_, _, a3, ev, eh⟩ | ⟨_, _, a3, ev, eh⟩
        · rw [m1] at a1; exact absurd a1 one0
        · rw [w1] at a2; exact absurd a2 one0
        · rw [ev, eh]
          have hk40 : k = 40 := by have := mt hlt.mpr a3; omega
          have g2 : H_Mowrite h (nI m) (nI d) = h := by unfold H_Mowrite; rw [e5, q2, m2, w2, if_neg one0, if_neg one0, if_pos (heq.mpr hk40)]
          have c2 := c_Mowrite (E := E) (n := 98) (nI m) (nI d) h (fun _ _ q => absurd (by rw [q2]; exact heq.mpr hk40) q) (fun _ _ q => absurd (by rw [q2]; exact heq.mpr hk40) q)
          rw [g2] at c2
          refine ⟨_, rfl, _, c2, fun v2 h3 hp2 => ⟨?_, by rw [hp2.2]; exact zInv_mono j h hI'⟩⟩
          rw [hp2.1]
          unfold f_Mowrite
          rw [e5, q2, m2, w2, if_neg one0, if_neg one0, if_pos (heq.mpr hk40)]
        · have hk40 : k < 40 := hlt.mp a3
          have hc : (nI k).toNatClampNeg = k := nI_clamp (by omega)
          rw [hc] at eh
          rw [ev, eh]
          generalize hh : jPI (jPI (jPI h 34 k (nI m)) 35 k (nI d)) 33 1 (nI k + 1) = h1
          have r5 : h1.1 52 5 = nI (zM L) := by rw [← hh]; exact e5
          have r16 : h1.1 52 16 = nI k := by rw [← hh]; exact q2
          have g2 : H_Mowrite h1 (nI m) (nI d) = jPI (jPI (jPI h1 60 (2 * k) (nI m)) 60 (2 * k + 1) (nI d)) 52 16 (nI k + 1) := by
            unfold H_Mowrite
            rw [r5, r16, m2, w2, if_neg one0, if_neg one0, if_neg (fun z => absurd (heq.mp z) (by omega)), z_2x, show nI (2 * k) + 1 = nI (2 * k + 1) from nI_1 _, nI_clamp (by omega), nI_clamp (by omega)]
          have c2 := c_Mowrite (E := E) (n := 98) (nI m) (nI d) h1 (fun _ _ _ => by rw [r16, z_2x]; exact z_vp (by omega) (by omega)) (fun _ _ _ => by rw [r16, z_2x1]; exact z_vp (by omega) (by omega))
          rw [g2] at c2
          refine ⟨_, rfl, _, c2, fun v2 h3 hp2 => ⟨?_, ?_⟩⟩
          · rw [hp2.1]
            unfold f_Mowrite
            rw [r5, r16, m2, w2, if_neg one0, if_neg one0, if_neg (fun z => absurd (heq.mp z) (by omega))]
          · rw [hp2.2, ← hh]
            refine ⟨L, S, hL, hCl, hMl, zSok_up hS, hCs, hMs, zIm_up hIm, hFt, ⟨k + 1, by omega, nI_1 k, nI_1 k, fun i hi => ?_⟩, hTx, hFa⟩
            show ∃ m' d', m' < zM L ∧ d' ≤ 4 ∧ upd (h.1 34) k (nI m) i = nI m' ∧ upd (upd (h.1 60) (2 * k) (nI m)) (2 * k + 1) (nI d) (2 * i) = nI m' ∧ upd (h.1 35) k (nI d) i = nI d' ∧ upd (upd (h.1 60) (2 * k) (nI m)) (2 * k + 1) (nI d) (2 * i + 1) = nI d'
            rw [(upd_pair i).1, (upd_pair i).2, upd_if, upd_if]
            by_cases he : i = k
            · rw [if_pos he, if_pos he, if_pos he, if_pos he]
              exact ⟨m, d, hm, hd, rfl, rfl, rfl, rfl⟩
            · rw [if_neg he, if_neg he, if_neg he, if_neg he]
              exact q3 i (by omega)
      · rcases hp with ⟨a1, _⟩ | ⟨_, a2, ev, eh⟩ | ⟨_, a2, _⟩ | ⟨_, a2, _⟩
        · rw [m1] at a1; exact absurd a1 one0
        · rw [ev, eh]
          have g2 : H_Mowrite h (nI m) y = h := by unfold H_Mowrite; rw [e5, m2, w2, if_neg one0, if_pos rfl]
          have c2 := c_Mowrite (E := E) (n := 98) (nI m) y h (fun _ q => absurd w2 q) (fun _ q => absurd w2 q)
          rw [g2] at c2
          refine ⟨_, rfl, _, c2, fun v2 h3 hp2 => ⟨?_, by rw [hp2.2]; exact zInv_mono j h hI'⟩⟩
          rw [hp2.1]
          unfold f_Mowrite
          rw [e5, m2, w2, if_neg one0, if_pos rfl]
        · exact absurd w1 a2
        · exact absurd w1 a2
    · rcases hp with ⟨a1, ev, eh⟩ | ⟨a1, _⟩ | ⟨a1, _⟩ | ⟨a1, _⟩
      · rw [ev, eh]
        have g2 : H_Mowrite h x y = h := by unfold H_Mowrite; rw [e5, m2, if_pos rfl]
        have c2 := c_Mowrite (E := E) (n := 98) x y h (fun q => absurd (by rw [e5, m2]) q) (fun q => absurd (by rw [e5, m2]) q)
        rw [g2] at c2
        refine ⟨_, rfl, _, c2, fun v2 h3 hp2 => ⟨?_, by rw [hp2.2]; exact zInv_mono j h hI'⟩⟩
        rw [hp2.1]
        unfold f_Mowrite
        rw [e5, m2, if_pos rfl]
      · exact absurd m1 a1
      · exact absurd m1 a1
      · exact absurd m1 a1
