/-! ===== rows that read and write the heap ===== -/
/-- what is known of the class of number ci -/
def jK (ci : Nat) (C : String) (T : u_T) (N : Nat) (ty0 : Nat → FieldType) : Prop :=
  vwCl[ci]? = some (C, T, N) ∧ (∀ w ∈ u_ws C T N, w ∈ jT) ∧ (jNF ci = N ∧ ci ≤ 8) ∧ (∀ k, k < N → parseFieldDescriptor (T k).2.2.1 = some (ty0 k)) ∧ ∀ a, a < N → ∀ b, b < N → a ≠ b → (T a).2.1 ≠ (T b).2.1
theorem jE_obj {E : jEnv} {h : HP} {k ci N : Nat} (hc : jKind k = ci) (h8 : ci ≤ 8) (hN : jNF ci = N) : jE E h k = .inr (ci, (List.range N).map (jFv E.1 h k)) := by
  subst hc; subst hN
  simp [jE, h8]
theorem jE_int {E : jEnv} {h : HP} {k ty : Nat} (hc : jKind k = ty) (ht : ty = 9 ∨ ty = 10 ∨ ty = 12) : jE E h k = .inl (E.2.2 ty, jLen k, .inl (h.1 k)) := by
  subst hc
  rcases ht with ht | ht | ht <;> simp [jE, ht]
theorem jE_long {E : jEnv} {h : HP} {k : Nat} (hc : jKind k = 11) : jE E h k = .inl (E.2.2 11, jLen k, .inr (.inl (h.2 k))) := by
  simp [jE, hc]
theorem jE_ref {E : jEnv} {h : HP} {k : Nat} (hc : jKind k = 13) : jE E h k = .inl (E.2.2 13, jLen k, .inr (.inr (.inr (.inr (fun i => some (E.1 (jRef k i))))))) := by
  simp [jE, hc]
theorem jPI_ne {E : jEnv} {h : HP} {k j : Nat} {x : Int32} : ∀ i, i ≠ k → jE E (jPI h k j x) i = jE E h i := fun i hi => jE_congr (by simp [jPI, va_up, hi]) rfl
theorem jPA_ne {E : jEnv} {h : HP} {k : Nat} {f : Nat → Int32} : ∀ i, i ≠ k → jE E (jPA h k f) i = jE E h i := fun i hi => jE_congr (by simp [jPA, va_up, hi]) rfl
theorem jPL_ne {E : jEnv} {h : HP} {k j : Nat} {x : Int64} : ∀ i, i ≠ k → jE E (jPL h k j x) i = jE E h i := fun i hi => jE_congr rfl (by simp [jPL, va_up, hi])
theorem j_mapset {N j : Nat} {f g : Nat → Value} {v : Value} (hj : g j = v) (ho : ∀ i, i ≠ j → g i = f i) : (List.range N).map g = ((List.range N).map f).set j v := by
  apply List.ext_getElem?
  intro i
  by_cases hN : i < N
  · by_cases hi : i = j
    · subst hi
      rw [List.getElem?_set_self (by simpa using hN)]
      simp [hN, hj]
    · rw [List.getElem?_set_ne (Ne.symm hi)]
      simp [hN, ho i hi]
  · rw [List.getElem?_eq_none (by simpa using hN), List.getElem?_eq_none (by simpa using hN)]
theorem jvin {i : Int32} {n : Nat} (h : (decide (i < 0) || decide (n ≤ i.toNatClampNeg)) = false) : vp_in i n := by
  intro hh
  rcases hh with hh | hh <;> simp [hh] at h
section JH
variable {E : jEnv} {M : jM} {n : Nat} {X : State → Prop} {Post : Option Value → HP → Prop} {pc pc' : Nat} {lv lv' : List (Option Value)} {st : List Value} {h : HP}
theorem jr_get {ci : Nat} {C : String} {T : u_T} {N : Nat} {ty0 : Nat → FieldType} (hK : jK ci C T N ty0) {k j i : Nat} {v : Value} (hw : Cond.fieldLink M.1.cls i (T j).1 (T j).2.1 (T j).2.2.1 ∈ lw_tbl) (hd : decode M.2.1 pc = .ok (.getfield i, 3)) (hn : pc + 3 = pc') (hk : k < 72) (hc : jKind k = ci) (hj : j < N) (hv : jFv E.1 h k j = jV E v)
    (kk : jG E M n X Post pc' lv (v :: st) h) : jG E M n X Post pc lv (.ref k :: st) h := by
  intro p l e R s m args below meth c H locs cells slots Q ls hC hc1 hc2 hX hP hS hL hF
  subst hn
  refine va_get (ref := (T j).1) hC.1 hC.2.1 hC.2.2.2.2.1 hK.2.1 hC.2.2.2.1 hC.2.2.2.2.2.2.2.1.1 hP k (fs := (List.range N).map (jFv E.1 h k)) ?_ hK.1 j hj (hC.2.2.2.2.1 _ (jT_in hw rfl)) (fun _ q => q) (v := jV E v) ?_ hd (kk p l e R s m args below meth c H locs cells slots Q ls hC hc1 hc2 hX hP hS hL hF)
  · rw [jW_at hk, jE_obj hc hK.2.2.1.2 hK.2.2.1.1]
  · simp [hj, hv]
theorem jr_putI {ci : Nat} {C : String} {T : u_T} {N : Nat} {ty0 : Nat → FieldType} (hK : jK ci C T N ty0) {k j i : Nat} {x : Int32} (hw : Cond.fieldLink M.1.cls i (T j).1 (T j).2.1 (T j).2.2.1 ∈ lw_tbl) (hd : decode M.2.1 pc = .ok (.putfield i, 3)) (hn : pc + 3 = pc') (hk : k < 72) (hc : jKind k = ci) (hj : j < N) (hf : jFt ci j = 0 ∨ jFt ci j = 3) (hfin : (T j).2.2.2 = false) (hnar : narrow (ty0 j) (.int x) = .int x) (hfit : fits (ty0 j) (.int x) = true)
    (kk : jG E M n X Post pc' lv st (jPI h k j x)) : jG E M n X Post pc lv (.int x :: .ref k :: st) h := by
  intro p l e R s m args below meth c H locs cells slots Q ls hC hc1 hc2 hX hP hS hL hF
  subst hn
  have hEk := jE_obj (E := E) (h := h) hc hK.2.2.1.2 hK.2.2.1.1
  refine va_put (ref := (T j).1) hC.1 hC.2.1 hC.2.2.2.2.1 hK.2.1 ty0 hK.2.2.2.1 hK.2.2.2.2 hC.2.2.2.1 hC.2.2.2.2.2.2.2.1.1 hP (jW_D hC.2.2.2.2.2.2.2.1.2.2.2.2.2 h) hS k (fs := (List.range N).map (jFv E.1 h k)) (by rw [jW_at hk, hEk]) hK.1 j hj (hC.2.2.2.2.1 _ (jT_in hw rfl)) (fun _ q => q) hfin (ty := ty0 j) (v := .int x) (hK.2.2.2.1 j hj) hnar hfit (by simpa using hj) hd (fun H1 locs1 hP1 hD1 hS1 => ?_)
  have hset : (jW E h).set k (E.1 k, .inr (ci, ((List.range N).map (jFv E.1 h k)).set j (.int x))) = jW E (jPI h k j x) := by
    refine jW_set hk ?_ jPI_ne
    rw [jE_obj hc hK.2.2.1.2 hK.2.2.1.1, j_mapset (f := jFv E.1 h k) (j := j) (v := .int x)]
    · subst hc
      rcases hf with hf | hf <;> simp [jFv, hf, jPI, va_up, upd]
    · intro i hi
      simp [jFv, jPI, va_up, upd, hi]
  rw [hset] at hP1
  exact kk p l e R s m args below meth c H1 locs1 cells slots Q ls hC hc1 hc2 hX hP1 hS1 hL hF
theorem jr_putL {ci : Nat} {C : String} {T : u_T} {N : Nat} {ty0 : Nat → FieldType} (hK : jK ci C T N ty0) {k j i : Nat} {x : Int64} (hw : Cond.fieldLink M.1.cls i (T j).1 (T j).2.1 (T j).2.2.1 ∈ lw_tbl) (hd : decode M.2.1 pc = .ok (.putfield i, 3)) (hn : pc + 3 = pc') (hk : k < 72) (hc : jKind k = ci) (hj : j < N) (hf : jFt ci j = 1) (hfin : (T j).2.2.2 = false) (hnar : narrow (ty0 j) (.long x) = .long x) (hfit : fits (ty0 j) (.long x) = true)
    (kk : jG E M n X Post pc' lv st (jPL h k j x)) : jG E M n X Post pc lv (.long x :: .ref k :: st) h := by
  intro p l e R s m args below meth c H locs cells slots Q ls hC hc1 hc2 hX hP hS hL hF
  subst hn
  have hEk := jE_obj (E := E) (h := h) hc hK.2.2.1.2 hK.2.2.1.1
  refine va_put (ref := (T j).1) hC.1 hC.2.1 hC.2.2.2.2.1 hK.2.1 ty0 hK.2.2.2.1 hK.2.2.2.2 hC.2.2.2.1 hC.2.2.2.2.2.2.2.1.1 hP (jW_D hC.2.2.2.2.2.2.2.1.2.2.2.2.2 h) hS k (fs := (List.range N).map (jFv E.1 h k)) (by rw [jW_at hk, hEk]) hK.1 j hj (hC.2.2.2.2.1 _ (jT_in hw rfl)) (fun _ q => q) hfin (ty := ty0 j) (v := .long x) (hK.2.2.2.1 j hj) hnar hfit (by simpa using hj) hd (fun H1 locs1 hP1 hD1 hS1 => ?_)
  have hset : (jW E h).set k (E.1 k, .inr (ci, ((List.range N).map (jFv E.1 h k)).set j (.long x))) = jW E (jPL h k j x) := by
    refine jW_set hk ?_ jPL_ne
    rw [jE_obj hc hK.2.2.1.2 hK.2.2.1.1, j_mapset (f := jFv E.1 h k) (j := j) (v := .long x)]
    · subst hc
      simp [jFv, hf, jPL, va_up, vp_updL]
    · intro i hi
      simp [jFv, jPL, va_up, vp_updL, hi]
  rw [hset] at hP1
  exact kk p l e R s m args below meth c H1 locs1 cells slots Q ls hC hc1 hc2 hX hP1 hS1 hL hF
theorem jr_iald {k : Nat} {i : Int32} {v : Int32} (hd : decode M.2.1 pc = .ok (.iaload, 1)) (hn : pc + 1 = pc') (hk : k < 72) (hc : jKind k = 10) (hi : vp_in i (jLen k)) (hv : h.1 k i.toNatClampNeg = v)
    (kk : jG E M n X Post pc' lv (.int v :: st) h) : jG E M n X Post pc lv (.int i :: .ref k :: st) h := by
  intro p l e R s m args below meth c H locs cells slots Q ls hC hc1 hc2 hX hP hS hL hF
  subst hn; subst hv
  exact va_iald hC.1 hC.2.1 hC.2.2.2.2.2.2.2.1.1 hP k 1 (by rw [jW_at hk, jE_int hc (by decide)]) rfl hi hd (kk p l e R s m args below meth c H locs cells slots Q ls hC hc1 hc2 hX hP hS hL hF)
theorem jr_bald {k : Nat} {i : Int32} {v : Int32} (hd : decode M.2.1 pc = .ok (.baload, 1)) (hn : pc + 1 = pc') (hk : k < 72) (hc : jKind k = 9) (hi : vp_in i (jLen k)) (hv : h.1 k i.toNatClampNeg = v)
    (kk : jG E M n X Post pc' lv (.int v :: st) h) : jG E M n X Post pc lv (.int i :: .ref k :: st) h := by
  intro p l e R s m args below meth c H locs cells slots Q ls hC hc1 hc2 hX hP hS hL hF
  subst hn; subst hv
  exact va_bald hC.1 hC.2.1 hC.2.2.2.2.2.2.2.1.1 hP k 0 (by rw [jW_at hk, jE_int hc (by decide)]) rfl hi hd (kk p l e R s m args below meth c H locs cells slots Q ls hC hc1 hc2 hX hP hS hL hF)
theorem jr_zald {k : Nat} {i : Int32} {v : Int32} (hd : decode M.2.1 pc = .ok (.baload, 1)) (hn : pc + 1 = pc') (hk : k < 72) (hc : jKind k = 12) (hi : vp_in i (jLen k)) (hv : h.1 k i.toNatClampNeg = v)
    (kk : jG E M n X Post pc' lv (.int v :: st) h) : jG E M n X Post pc lv (.int i :: .ref k :: st) h := by
  intro p l e R s m args below meth c H locs cells slots Q ls hC hc1 hc2 hX hP hS hL hF
  subst hn; subst hv
  exact va_zald hC.1 hC.2.1 hC.2.2.2.2.2.2.2.1.1 hP k 3 (by rw [jW_at hk, jE_int hc (by decide)]) rfl hi hd (kk p l e R s m args below meth c H locs cells slots Q ls hC hc1 hc2 hX hP hS hL hF)
theorem jr_lald {k : Nat} {i : Int32} {v : Int64} (hd : decode M.2.1 pc = .ok (.laload, 1)) (hn : pc + 1 = pc') (hk : k < 72) (hc : jKind k = 11) (hi : vp_in i (jLen k)) (hv : h.2 k i.toNatClampNeg = v)
    (kk : jG E M n X Post pc' lv (.long v :: st) h) : jG E M n X Post pc lv (.int i :: .ref k :: st) h := by
  intro p l e R s m args below meth c H locs cells slots Q ls hC hc1 hc2 hX hP hS hL hF
  subst hn; subst hv
  exact va_lald hC.1 hC.2.1 hC.2.2.2.2.2.2.2.1.1 hP k 2 (by rw [jW_at hk, jE_long hc]) rfl hi hd (kk p l e R s m args below meth c H locs cells slots Q ls hC hc1 hc2 hX hP hS hL hF)
theorem jr_aald {k : Nat} {i : Int32} {v : Nat} (hd : decode M.2.1 pc = .ok (.aaload, 1)) (hn : pc + 1 = pc') (hk : k < 72) (hc : jKind k = 13) (hi : vp_in i (jLen k)) (hv : jRef k i.toNatClampNeg = v)
    (kk : jG E M n X Post pc' lv (.ref v :: st) h) : jG E M n X Post pc lv (.int i :: .ref k :: st) h := by
  intro p l e R s m args below meth c H locs cells slots Q ls hC hc1 hc2 hX hP hS hL hF
  subst hn; subst hv
  exact va_aldq (C := "StiltHeralds$State") (f := fun i => some (E.1 (jRef k i))) hC.1 hC.2.1 hC.2.2.2.2.2.2.2.1.1 hP k 4 (by rw [jW_at hk, jE_ref hc]) rfl hi hd (kk p l e R s m args below meth c H locs cells slots Q ls hC hc1 hc2 hX hP hS hL hF)
theorem jr_iast {k : Nat} {i x : Int32} {j : Nat} (hd : decode M.2.1 pc = .ok (.iastore, 1)) (hn : pc + 1 = pc') (hk : k < 72) (hc : jKind k = 10) (hi : vp_in i (jLen k)) (hj : i.toNatClampNeg = j)
    (kk : jG E M n X Post pc' lv st (jPI h k j x)) : jG E M n X Post pc lv (.int x :: .int i :: .ref k :: st) h := by
  intro p l e R s m args below meth c H locs cells slots Q ls hC hc1 hc2 hX hP hS hL hF
  subst hn; subst hj
  refine va_iast hC.1 hC.2.1 hC.2.2.2.2.2.2.2.1.1 hP (jW_D hC.2.2.2.2.2.2.2.1.2.2.2.2.2 h) hS k 1 (by rw [jW_at hk, jE_int hc (by decide)]) rfl hi hd (fun H1 locs1 hP1 hD1 hS1 => ?_)
  rw [jW_set (h' := jPI h k i.toNatClampNeg x) hk (by rw [jE_int hc (by decide)]; simp [jPI, va_up]) jPI_ne] at hP1
  exact kk p l e R s m args below meth c H1 locs1 cells slots Q ls hC hc1 hc2 hX hP1 hS1 hL hF
theorem jr_bast {k : Nat} {i x : Int32} {j : Nat} (hd : decode M.2.1 pc = .ok (.bastore, 1)) (hn : pc + 1 = pc') (hk : k < 72) (hc : jKind k = 9) (hi : vp_in i (jLen k)) (hj : i.toNatClampNeg = j)
    (kk : jG E M n X Post pc' lv st (jPI h k j (vp_nar .byte x))) : jG E M n X Post pc lv (.int x :: .int i :: .ref k :: st) h := by
  intro p l e R s m args below meth c H locs cells slots Q ls hC hc1 hc2 hX hP hS hL hF
  subst hn; subst hj
  refine va_bast hC.1 hC.2.1 hC.2.2.2.2.2.2.2.1.1 hP (jW_D hC.2.2.2.2.2.2.2.1.2.2.2.2.2 h) hS k 0 (by rw [jW_at hk, jE_int hc (by decide)]) rfl hi hd (fun H1 locs1 hP1 hD1 hS1 => ?_)
  rw [jW_set (h' := jPI h k i.toNatClampNeg (vp_nar .byte x)) hk (by rw [jE_int hc (by decide)]; simp [jPI, va_up]) jPI_ne] at hP1
  exact kk p l e R s m args below meth c H1 locs1 cells slots Q ls hC hc1 hc2 hX hP1 hS1 hL hF
theorem jr_zast {k : Nat} {i x : Int32} {j : Nat} (hd : decode M.2.1 pc = .ok (.bastore, 1)) (hn : pc + 1 = pc') (hk : k < 72) (hc : jKind k = 12) (hi : vp_in i (jLen k)) (hj : i.toNatClampNeg = j)
    (kk : jG E M n X Post pc' lv st (jPI h k j (vp_nar .boolean x))) : jG E M n X Post pc lv (.int x :: .int i :: .ref k :: st) h := by
  intro p l e R s m args below meth c H locs cells slots Q ls hC hc1 hc2 hX hP hS hL hF
  subst hn; subst hj
  refine va_zast hC.1 hC.2.1 hC.2.2.2.2.2.2.2.1.1 hP (jW_D hC.2.2.2.2.2.2.2.1.2.2.2.2.2 h) hS k 3 (by rw [jW_at hk, jE_int hc (by decide)]) rfl hi hd (fun H1 locs1 hP1 hD1 hS1 => ?_)
  rw [jW_set (h' := jPI h k i.toNatClampNeg (vp_nar .boolean x)) hk (by rw [jE_int hc (by decide)]; simp [jPI, va_up]) jPI_ne] at hP1
  exact kk p l e R s m args below meth c H1 locs1 cells slots Q ls hC hc1 hc2 hX hP1 hS1 hL hF
theorem jr_last {k : Nat} {i : Int32} {x : Int64} {j : Nat} (hd : decode M.2.1 pc = .ok (.lastore, 1)) (hn : pc + 1 = pc') (hk : k < 72) (hc : jKind k = 11) (hi : vp_in i (jLen k)) (hj : i.toNatClampNeg = j)
    (kk : jG E M n X Post pc' lv st (jPL h k j x)) : jG E M n X Post pc lv (.long x :: .int i :: .ref k :: st) h := by
  intro p l e R s m args below meth c H locs cells slots Q ls hC hc1 hc2 hX hP hS hL hF
  subst hn; subst hj
  refine va_last hC.1 hC.2.1 hC.2.2.2.2.2.2.2.1.1 hP (jW_D hC.2.2.2.2.2.2.2.1.2.2.2.2.2 h) hS k 2 (by rw [jW_at hk, jE_long hc]) rfl hi hd (fun H1 locs1 hP1 hD1 hS1 => ?_)
  rw [jW_set (h' := jPL h k i.toNatClampNeg x) hk (by rw [jE_long hc]; simp [jPL, va_up]) jPL_ne] at hP1
  exact kk p l e R s m args below meth c H1 locs1 cells slots Q ls hC hc1 hc2 hX hP1 hS1 hL hF
theorem jr_alen {k : Nat} {v : Int32} (hd : decode M.2.1 pc = .ok (.arraylength, 1)) (hn : pc + 1 = pc') (hk : k < 72) (hc : jKind k = 9 ∨ jKind k = 10 ∨ jKind k = 12 ∨ jKind k = 13) (hv : Int32.ofNat (jLen k) = v)
    (kk : jG E M n X Post pc' lv (.int v :: st) h) : jG E M n X Post pc lv (.ref k :: st) h := by
  intro p l e R s m args below meth c H locs cells slots Q ls hC hc1 hc2 hX hP hS hL hF
  subst hn
  have kw := kk p l e R s m args below meth c H locs cells slots Q ls hC hc1 hc2 hX hP hS hL hF
  rcases hc with hc | hc | hc | hc
  · exact va_alen hC.1 hC.2.1 hC.2.2.2.2.2.2.2.1.1 hP k 0 (x := (jLen k, .inl (h.1 k))) (by rw [jW_at hk, jE_int hc (by decide)]) (ty := .byte) rfl hv hd kw
  · exact va_alen hC.1 hC.2.1 hC.2.2.2.2.2.2.2.1.1 hP k 1 (x := (jLen k, .inl (h.1 k))) (by rw [jW_at hk, jE_int hc (by decide)]) (ty := .int) rfl hv hd kw
  · exact va_alen hC.1 hC.2.1 hC.2.2.2.2.2.2.2.1.1 hP k 3 (x := (jLen k, .inl (h.1 k))) (by rw [jW_at hk, jE_int hc (by decide)]) (ty := .boolean) rfl hv hd kw
  · exact va_alen hC.1 hC.2.1 hC.2.2.2.2.2.2.2.1.1 hP k 4 (x := (jLen k, .inr (.inr (.inr (.inr (fun i => some (E.1 (jRef k i)))))))) (by rw [jW_at hk, jE_ref hc]) (ty := .object "StiltHeralds$State") rfl hv hd kw
theorem jr_alenL {k : Nat} {v : Int32} (hd : decode M.2.1 pc = .ok (.arraylength, 1)) (hn : pc + 1 = pc') (hk : k < 72) (hc : jKind k = 11) (hv : Int32.ofNat (jLen k) = v)
    (kk : jG E M n X Post pc' lv (.int v :: st) h) : jG E M n X Post pc lv (.ref k :: st) h := by
  intro p l e R s m args below meth c H locs cells slots Q ls hC hc1 hc2 hX hP hS hL hF
  subst hn
  exact va_alen hC.1 hC.2.1 hC.2.2.2.2.2.2.2.1.1 hP k 2 (x := (jLen k, .inr (.inl (h.2 k)))) (by rw [jW_at hk, jE_long hc]) (ty := .long) rfl hv hd (kk p l e R s m args below meth c H locs cells slots Q ls hC hc1 hc2 hX hP hS hL hF)
/-- System.arraycopy of ints, whole or a part -/
theorem jr_copy {k0 k1 i : Nat} {sp dp z : Int32} (hw : Cond.methodLink M.1.cls i arraycopyName ∈ lw_tbl) (hw2 : Cond.native arraycopyName ∈ lw_tbl) (hw3 : Cond.static arraycopyName ∈ lw_tbl) (hw4 : Cond.initialized "java/lang/System" ∈ lw_tbl) (hd : decode M.2.1 pc = .ok (.invokestatic i, 3)) (hn : pc + 3 = pc') (hn1 : 1 ≤ n) (hk0 : k0 < 72) (hc0 : jKind k0 = 10) (hk1 : k1 < 72) (hc1 : jKind k1 = 10) (h1 : ¬ sp < 0) (h2 : ¬ dp < 0) (h3 : ¬ z < 0) (h4 : sp.toNatClampNeg + z.toNatClampNeg ≤ jLen k0) (h5 : dp.toNatClampNeg + z.toNatClampNeg ≤ jLen k1) (hst : (st.map fun v => v.category).sum ≤ 8)
    (kk : jG E M n X Post pc' lv st (jPA h k1 (va_cpy (h.1 k0) (h.1 k1) sp.toNatClampNeg dp.toNatClampNeg z.toNatClampNeg))) : jG E M n X Post pc lv (.int z :: .int dp :: .ref k1 :: .int sp :: .ref k0 :: st) h := by
  intro p l e R s m args below meth c H locs cells slots Q ls hC hc1' hc2 hX hP hS hL hF
  subst hn
  have hcat : ((st.map (jV E)).map fun v => v.category).sum = (st.map fun v => v.category).sum := by
    rw [List.map_map]
    congr 1
    exact List.map_congr_left (fun v _ => jV_cat E v)
  have hw0 : nativeFrameWords "java/lang/System" "arraycopy" 5 + 11 ≤ 56 := by decide
  refine va_copyi hC.1 hC.2.1 (hC.2.2.1.trans hL.1.symm) hC.2.2.2.1 (hC.2.2.2.2.1 _ (jT_in hw rfl)) (hC.2.2.2.2.1 _ (jT_in hw2 rfl)) (hC.2.2.2.2.1 _ (jT_in hw3 rfl)) (hC.2.2.2.2.1 _ (jT_in hw4 rfl)) hC.2.2.2.2.2.2.2.1.1 hP (jW_D hC.2.2.2.2.2.2.2.1.2.2.2.2.2 h) hS k0 k1 1 1 (ty := .int) (by rw [jW_at hk0, jE_int hc0 (by decide)]) (by rw [jW_at hk1, jE_int hc1 (by decide)]) rfl rfl rfl h1 h2 h3 h4 h5 (fun _ _ => rfl) (Nat.le_trans hn1 hC.2.2.2.2.2.2.2.2.1) ?_ hd (fun H1 locs1 hP1 hD1 hS1 => ?_)
  · have := hC.2.2.2.2.2.2.2.2.2
    rw [hcat]
    omega
  · rw [jW_set (h' := jPA h k1 (va_cpy (h.1 k0) (h.1 k1) sp.toNatClampNeg dp.toNatClampNeg z.toNatClampNeg)) hk1 (by rw [jE_int hc1 (by decide)]; simp [jPA, va_up]) jPA_ne] at hP1
    exact kk p l e R s m args below meth c H1 locs1 cells slots Q ls hC hc1' hc2 hX hP1 hS1 hL hF
end JH
