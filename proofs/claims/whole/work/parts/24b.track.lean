theorem p_track (E : jEnv) (x y : Int32) : jPair E 100 zInv mX7_track mX8_track [.int x, .int y] := by
  intro j h hj hI
  have hI' := hI
  obtain ⟨L, S, hL, hCl, hMl, hS, hCs, hMs, hIm, hFt, hBk, hTx, hFa⟩ := hI
  have e0 : h.1 3 0 = nI (zW L) := hCl.1.1
  have e1 : h.1 3 1 = nI (zG L) := hCl.1.2.1
  have f0 : h.1 52 0 = nI (zW L) := hMl.1.1
  have f1 : h.1 52 1 = nI (zG L) := hMl.1.2.1
  have hA := hL.2.2.1
  have c1 := c_Shtrack (E := E) (n := 99) x y h
  rcases z_cell hL.1 hL.2.1 x y with ⟨a, b, ha, hb, rfl, rfl, k1, k2, k3⟩ | ⟨k1, k3⟩
  · have hc : zW L * b + a < zA L := by unfold zA; exact z_lin ha hb
    have hne : ¬ nI (zW L * b + a) = -1 := fun q => absurd (congrArg Int32.toInt q) (by rw [nI_toInt (by omega)]; show ¬ ((_ : Nat) : Int) = -1; omega)
    have g1 : H_Shtrack h (nI a) (nI b) = jPI (jPI h 30 2 (nI (zW L * b + a))) 30 3 0 := by
      unfold H_Shtrack; rw [e0, e1, k1, k2, if_neg one0]
    have g2 : H_Motrack (jPI (jPI h 30 2 (nI (zW L * b + a))) 30 3 0) (nI a) (nI b) = jPI (jPI (jPI (jPI h 30 2 (nI (zW L * b + a))) 30 3 0) 52 14 0) 52 12 (nI (zW L * b + a)) := by
      unfold H_Motrack
      rw [show (jPI (jPI h 30 2 (nI (zW L * b + a))) 30 3 0).1 52 0 = nI (zW L) from f0, show (jPI (jPI h 30 2 (nI (zW L * b + a))) 30 3 0).1 52 1 = nI (zG L) from f1, k3, if_neg hne]
    have c2 := c_Motrack (E := E) (n := 98) (nI a) (nI b) (jPI (jPI h 30 2 (nI (zW L * b + a))) 30 3 0)
    rw [g1] at c1
    rw [g2] at c2
    obtain ⟨q1, q2, k, hk, q3, q4, q5⟩ := hFt
    refine z_pair c1 c2 ?_ ⟨L, S, hL, hCl, ?_, zSok_up hS, hCs, hMs, zIm_up hIm, ⟨rfl, Or.inr ⟨_, hc, rfl⟩, 0, by omega, rfl, rfl, fun i hi => absurd hi (by omega)⟩, hBk, hTx, hFa⟩
    · unfold f_Shtrack f_Motrack
      rw [e0, e1, show (jPI (jPI h 30 2 (nI (zW L * b + a))) 30 3 0).1 52 0 = nI (zW L) from f0, show (jPI (jPI h 30 2 (nI (zW L * b + a))) 30 3 0).1 52 1 = nI (zG L) from f1, k1, k3, if_neg one0, if_neg hne, q3]
      exact q4.symm
    · exact hMl
  · have g1 : H_Shtrack h x y = h := by unfold H_Shtrack; rw [e0, e1, k1, if_pos rfl]
    have g2 : H_Motrack h x y = h := by unfold H_Motrack; rw [f0, f1, k3, if_pos rfl]
    have c2 := c_Motrack (E := E) (n := 98) x y h
    rw [g1] at c1
    rw [g2] at c2
    refine z_pair c1 c2 ?_ (zInv_mono j h hI')
    unfold f_Shtrack f_Motrack
    rw [e0, e1, f0, f1, k1, k3, if_pos rfl, if_pos rfl]
