/-- a call: some contract of the callee, and what follows out of it -/
def jCall (E : jEnv) (M : jM) (n : Nat) (av : List Value) (h : HP) (K : Option Value → HP → Prop) : Prop := ∃ P1 : Option Value → HP → Prop, jC E M n av h P1 ∧ ∀ (v : Option Value) (h2 : HP), P1 v h2 → K v h2
theorem jPI_at {h : HP} {k j : Nat} {x : Int32} : (jPI h k j x).1 k j = x := by simp [jPI, va_up, upd]
theorem jPL_at {h : HP} {k j : Nat} {x : Int64} : (jPL h k j x).2 k j = x := by simp [jPL, va_up, vp_updL]
theorem jvb {x N : Int32} {n : Nat} (h0 : ¬ x < 0) (h1 : ¬ N ≤ x) (hN : N.toInt = n) : vp_in x n := by
  rw [vp_in_iff]
  have h2 := Int32.not_lt.mp h0
  have h3 := Int32.not_le.mp h1
  rw [Int32.le_iff_toInt_le, Int32.toInt_zero] at h2
  rw [Int32.lt_iff_toInt_lt, hN] at h3
  exact ⟨h2, h3⟩
theorem jnz {x : Int32} (h : ¬ x ≤ 0) : ¬ x = 0 := fun e => h (by rw [e]; exact Int32.le_refl 0)
theorem wMmax_c : Cond.code Lib.Math.max.name Lib.Math.max.code 2 (some .int) ∈ lw_tbl := List.mem_of_getElem? (i := 513) (by decide +kernel)
theorem wMmax_s : Cond.static Lib.Math.max.name ∈ lw_tbl := List.mem_of_getElem? (i := 512) (by decide +kernel)
theorem wMmin_c : Cond.code Lib.Math.min.name Lib.Math.min.code 2 (some .int) ∈ lw_tbl := List.mem_of_getElem? (i := 516) (by decide +kernel)
theorem wMmin_s : Cond.static Lib.Math.min.name ∈ lw_tbl := List.mem_of_getElem? (i := 515) (by decide +kernel)
theorem wM_i : Cond.initialized "java/lang/Math" ∈ lw_tbl := List.mem_of_getElem? (i := 73) (by decide +kernel)
section JMM
variable {E : jEnv} {M : jM} {n : Nat} {X : State → Prop} {Post : Option Value → HP → Prop} {pc pc' : Nat} {lv : List (Option Value)} {st : List Value} {h : HP}
theorem jr_mmax {i : Nat} {x y : Int32} (hw : Cond.methodLink M.1.cls i Lib.Math.max.name ∈ lw_tbl) (hd : decode M.2.1 pc = .ok (.invokestatic i, 3)) (hn : pc + 3 = pc') (hn1 : 1 ≤ n) (hst : (st.map fun v => v.category).sum ≤ 8)
    (kk : jG E M n X Post pc' lv (.int (if x < y then y else x) :: st) h) : jG E M n X Post pc lv (.int y :: .int x :: st) h := by
  intro p l e R s m args below meth c H locs cells slots Q ls hC hc1 hc2 hX hP hS hL hF
  subst hn
  exact va_mmax hC.1 hC.2.1 (hC.2.2.1.trans hL.1.symm) hC.2.2.2.1 (hC.2.2.2.2.1 _ (jT_in hw rfl)) (hC.2.2.2.2.1 _ (jT_in wMmax_s rfl)) (hC.2.2.2.2.1 _ (jT_in wM_i rfl)) (hC.2.2.2.2.1 _ (jT_in wMmax_c rfl)) (Nat.le_trans hn1 hC.2.2.2.2.2.2.2.2.1) (by rw [j_cats]; have := hC.2.2.2.2.2.2.2.2.2; omega) hc1 hc2 hd (kk p l e R s m args below meth c H locs cells slots Q ls hC hc1 hc2 hX hP hS hL hF)
theorem jr_mmin {i : Nat} {x y : Int32} (hw : Cond.methodLink M.1.cls i Lib.Math.min.name ∈ lw_tbl) (hd : decode M.2.1 pc = .ok (.invokestatic i, 3)) (hn : pc + 3 = pc') (hn1 : 1 ≤ n) (hst : (st.map fun v => v.category).sum ≤ 8)
    (kk : jG E M n X Post pc' lv (.int (if y < x then y else x) :: st) h) : jG E M n X Post pc lv (.int y :: .int x :: st) h := by
  intro p l e R s m args below meth c H locs cells slots Q ls hC hc1 hc2 hX hP hS hL hF
  subst hn
  exact va_mmin hC.1 hC.2.1 (hC.2.2.1.trans hL.1.symm) hC.2.2.2.1 (hC.2.2.2.2.1 _ (jT_in hw rfl)) (hC.2.2.2.2.1 _ (jT_in wMmin_s rfl)) (hC.2.2.2.2.1 _ (jT_in wM_i rfl)) (hC.2.2.2.2.1 _ (jT_in wMmin_c rfl)) (Nat.le_trans hn1 hC.2.2.2.2.2.2.2.2.1) (by rw [j_cats]; have := hC.2.2.2.2.2.2.2.2.2; omega) hc1 hc2 hd (kk p l e R s m args below meth c H locs cells slots Q ls hC hc1 hc2 hX hP hS hL hF)
end JMM
