/-! ===== the String constants: six texts, by their places ===== -/
section JS
variable {E : jEnv} {M Mc : jM} {n : Nat} {X : State → Prop} {Post P1 : Option Value → HP → Prop} {pc pc' : Nat} {lv : List (Option Value)} {st stk av : List Value} {h : HP} {na : Nat}
theorem jr_getSv {i k : Nat} (hi : i < 6) (hw : Cond.fieldLink M.1.cls k "java/lang/String" "value" "[B" ∈ lw_tbl) (hd : decode M.2.1 pc = .ok (.getfield k, 3)) (hn : pc + 3 = pc')
    (kk : jG E M n X Post pc' lv (.ref (3000 + i) :: st) h) : jG E M n X Post pc lv (.ref (2000 + i) :: st) h := by
  intro p l e R s m args below meth c H locs cells slots Q ls hC hc1 hc2 hX hP hS hL hF
  subst hn
  exact vk_getf (o := "java/lang/String") (n := "value") (d := "[B") hC.1 hC.2.1 (hC.2.2.2.2.2.2.2.1.2.2.2.1.1 i hi).2.2.1 hS hC.2.2.2.1 (hC.2.2.2.2.1 _ (jT_in hw rfl)) (fun _ q => q) hd (kk p l e R s m args below meth c H locs cells slots Q ls hC hc1 hc2 hX hP hS hL hF)
theorem jr_getSc {i k : Nat} (hi : i < 6) (hw : Cond.fieldLink M.1.cls k "java/lang/String" "coder" "B" ∈ lw_tbl) (hd : decode M.2.1 pc = .ok (.getfield k, 3)) (hn : pc + 3 = pc')
    (kk : jG E M n X Post pc' lv (.int 0 :: st) h) : jG E M n X Post pc lv (.ref (2000 + i) :: st) h := by
  intro p l e R s m args below meth c H locs cells slots Q ls hC hc1 hc2 hX hP hS hL hF
  subst hn
  exact vk_getf (o := "java/lang/String") (n := "coder") (d := "B") hC.1 hC.2.1 (hC.2.2.2.2.2.2.2.1.2.2.2.1.1 i hi).2.1 hS hC.2.2.2.1 (hC.2.2.2.2.1 _ (jT_in hw rfl)) (fun _ q => q) hd (kk p l e R s m args below meth c H locs cells slots Q ls hC hc1 hc2 hX hP hS hL hF)
theorem jr_getsC {k : Nat} (hw : Cond.fieldLink M.1.cls k "java/lang/String" "COMPACT_STRINGS" "Z" ∈ lw_tbl) (hd : decode M.2.1 pc = .ok (.getstatic k, 3)) (hn : pc + 3 = pc')
    (kk : jG E M n X Post pc' lv (.int 1 :: st) h) : jG E M n X Post pc lv st h := by
  intro p l e R s m args below meth c H locs cells slots Q ls hC hc1 hc2 hX hP hS hL hF
  subst hn
  exact va_gets hC.1 hC.2.1 hC.2.2.2.2.2.2.2.1.2.2.2.2.1.1 hS hC.2.2.2.1 (hC.2.2.2.2.1 _ (jT_in hw rfl)) (fun _ q => q) hd (kk p l e R s m args below meth c H locs cells slots Q ls hC hc1 hc2 hX hP hS hL hF)
theorem jr_getsQ {k : Nat} (hw : Cond.fieldLink M.1.cls k "jdk/internal/util/Preconditions" "SIOOBE_FORMATTER" "Ljava/util/function/BiFunction;" ∈ lw_tbl) (hd : decode M.2.1 pc = .ok (.getstatic k, 3)) (hn : pc + 3 = pc')
    (kk : ∀ v : Value, (v = .null ∨ v = .ref 4000) → jG E M n X Post pc' lv (v :: st) h) : jG E M n X Post pc lv st h := by
  intro p l e R s m args below meth c H locs cells slots Q ls hC hc1 hc2 hX hP hS hL hF
  subst hn
  rcases hC.2.2.2.2.2.2.2.1.2.2.2.2.1.2 with hz | hz
  · exact va_gets hC.1 hC.2.1 hz hS hC.2.2.2.1 (hC.2.2.2.2.1 _ (jT_in hw rfl)) (fun _ q => q) hd (kk .null (Or.inl rfl) p l e R s m args below meth c H locs cells slots Q ls hC hc1 hc2 hX hP hS hL hF)
  · exact va_gets hC.1 hC.2.1 hz hS hC.2.2.2.1 (hC.2.2.2.2.1 _ (jT_in hw rfl)) (fun _ q => q) hd (kk (.ref 4000) (Or.inr rfl) p l e R s m args below meth c H locs cells slots Q ls hC hc1 hc2 hX hP hS hL hF)
theorem jr_baldS {i : Nat} {x : Int32} (hi : i < 6) (hin : vp_in x (jSl.getD i 0)) (hd : decode M.2.1 pc = .ok (.baload, 1)) (hn : pc + 1 = pc')
    (kk : jG E M n X Post pc' lv (.int ((jSb.getD i []).getD x.toNatClampNeg 0) :: st) h) : jG E M n X Post pc lv (.int x :: .ref (3000 + i) :: st) h := by
  intro p l e R s m args below meth c H locs cells slots Q ls hC hc1 hc2 hX hP hS hL hF
  subst hn
  exact va_tb hC.1 hC.2.1 (hC.2.2.2.2.2.2.2.1.2.2.2.1.1 i hi).2.2.2 hS hin rfl hd (kk p l e R s m args below meth c H locs cells slots Q ls hC hc1 hc2 hX hP hS hL hF)
theorem jr_alenS {i : Nat} (hi : i < 6) (hd : decode M.2.1 pc = .ok (.arraylength, 1)) (hn : pc + 1 = pc')
    (kk : jG E M n X Post pc' lv (.int (nI (jSl.getD i 0)) :: st) h) : jG E M n X Post pc lv (.ref (3000 + i) :: st) h := by
  intro p l e R s m args below meth c H locs cells slots Q ls hC hc1 hc2 hX hP hS hL hF
  subst hn
  exact va_tlen hC.1 hC.2.1 (hC.2.2.2.2.2.2.2.1.2.2.2.1.1 i hi).2.2.2 hS rfl hd (kk p l e R s m args below meth c H locs cells slots Q ls hC hc1 hc2 hX hP hS hL hF)
theorem jr_i2c {x : Int32} (hd : decode M.2.1 pc = .ok (.i2c, 1)) (hn : pc + 1 = pc') (kk : jG E M n X Post pc' lv (.int (x.toUInt32 % 65536).toInt32 :: st) h) : jG E M n X Post pc lv (.int x :: st) h := by
  intro p l e R s m args below meth c H locs cells slots Q ls hC hc1 hc2 hX hP hS hL hF
  subst hn
  exact lv_i2c hC.1 hC.2.1 hd rfl (kk p l e R s m args below meth c H locs cells slots Q ls hC hc1 hc2 hX hP hS hL hF)
theorem jr_callT {i k : Nat} (hi : i < 6) (hM : jMv Mc na) (hcl : Mc.1.cls = "java/lang/String") (hw : Cond.methodLink M.1.cls k Mc.1 ∈ lw_tbl) (hd : decode M.2.1 pc = .ok (.invokevirtual k, 3)) (hn : pc + 3 = pc') (hna : av.length = na) (hst : (st.map fun v => v.category).sum ≤ 8) (hstk : stk = av.reverse ++ .ref (2000 + i) :: st)
    (hC1 : jC E Mc n (.ref (2000 + i) :: av) h P1) (kk : ∀ (v : Option Value) (h' : HP), P1 v h' → jG E M (n + 1) X Post pc' lv (v.toList ++ st) h') : jG E M (n + 1) X Post pc lv stk h := by
  intro p l e R s m args below meth c H locs cells slots Q ls hC hc1 hc2 hX hP hS hL hF
  subst hn; subst hstk
  have hts := hC.2.2.2.2.1
  have hlo := hC.2.2.2.2.2.2.2.2.2
  have hfr := hC.2.2.2.2.2.2.2.2.1
  have hml := hM.1.2.2.2
  have hcell := vk_recv hC.2.2.2.2.2.2.2.1.2.2.2.1 hi hS
  rw [← hcl] at hcell
  have cw : CallW R s args M.1.cls Mc.1.cls k Mc.1 Mc.2.1 Mc.2.2.1 Mc.2.2.2 (Cond.code Mc.1 Mc.2.1 Mc.2.2.1 Mc.2.2.2 :: jT) (jRm n) 0 0 na :=
    ⟨callB_of na hts (jT_all hM.1.1) rfl rfl rfl (hts _ (jT_in hM.1.2.1 rfl)) (hts _ (jT_in hw rfl)) hM.1.2.2.1 ⟨hfr, by show 8 + (Mc.2.2.1 + 11) + 64 * n ≤ R.locals; omega⟩, hts _ (jT_in hM.2.1 rfl), hts _ (jT_in hM.2.2 rfl)⟩
  refine j_callx (va_runV (As := av.map (jV E)) (rest := st.map (jV E)) (b := E.1 (2000 + i)) (g := F0 m pc ls ((av.reverse ++ .ref (2000 + i) :: st).map (jV E))) ⟨hC.1, hC.2.1, hC.2.2.1, hC.2.2.2.1, hts⟩ (hC1 l) cw ⟨j_blind, hcell, fun U hU hW => j_pre (av := .ref (2000 + i) :: av) hC.2.2.2.2.2.2.2.1 hP hS hU hW⟩ rfl (by simpa using hna) hL.1 (by simp [jV]) (lv_room (by rw [j_cats]; exact hst)) hd ⟨hc1, hc2⟩) hS (fun v h' H1 locs1 hp hP1 hS1 => kk v h' hp p l e R s m args below meth c H1 locs1 cells slots Q ls hC hc1 hc2 hX hP1 hS1 hL hF)
end JS
theorem c_coder {E : jEnv} {n i : Nat} (hi : i < 6) (h : HP) : jC E mJ0_coder_7d493 n [.ref (2000 + i)] h (fun v h2 => v = some (.int 0) ∧ h2 = h) := by
  refine jC.of (lv := [some (.ref (2000 + i))]) (by decide) (Nat.le_of_ble_eq_true rfl) ⟨rfl, trivial⟩ ?_
  refine jr_getsC (pc' := 3) wfJ0_38 dJ0_coder_7d493_0 rfl ?_
  refine jr_if_eqF (pc' := 6) (tgt := 13) dJ0_coder_7d493_3 rfl rfl (by decide) ?_
  refine jr_aload_n (pc' := 7) (i := 0) dJ0_coder_7d493_6 rfl rfl rfl ?_
  refine jr_getSc (pc' := 10) hi wfJ0_15 dJ0_coder_7d493_7 rfl ?_
  refine jr_goto (pc' := 14) dJ0_coder_7d493_10 rfl ?_
  exact jr_iret dJ0_coder_7d493_14 rfl rfl ⟨rfl, rfl⟩
theorem c_isLatin1 {E : jEnv} {n i : Nat} (hi : i < 6) (h : HP) : jC E mJ0_isLatin1_aae02 n [.ref (2000 + i)] h (fun v h2 => v = some (.int 1) ∧ h2 = h) := by
  refine jC.of (lv := [some (.ref (2000 + i))]) (by decide) (Nat.le_of_ble_eq_true rfl) ⟨rfl, trivial⟩ ?_
  refine jr_getsC (pc' := 3) wfJ0_38 dJ0_isLatin1_aae02_0 rfl ?_
  refine jr_if_eqF (pc' := 6) (tgt := 17) dJ0_isLatin1_aae02_3 rfl rfl (by decide) ?_
  refine jr_aload_n (pc' := 7) (i := 0) dJ0_isLatin1_aae02_6 rfl rfl rfl ?_
  refine jr_getSc (pc' := 10) hi wfJ0_15 dJ0_isLatin1_aae02_7 rfl ?_
  refine jr_if_neF (pc' := 13) (tgt := 17) dJ0_isLatin1_aae02_10 rfl rfl (by decide) ?_
  refine jr_iconst (pc' := 14) (v := 1) dJ0_isLatin1_aae02_13 rfl (by decide) ?_
  refine jr_goto (pc' := 18) dJ0_isLatin1_aae02_14 rfl ?_
  exact jr_iret dJ0_isLatin1_aae02_18 rfl rfl ⟨rfl, rfl⟩
theorem j_sh0 : ∀ i, i < 6 → nI (jSl.getD i 0) >>> ((0 : Int32) &&& 31) = nI (jSl.getD i 0) := by decide +kernel
theorem c_length {E : jEnv} {n i : Nat} (hi : i < 6) (h : HP) : jC E mJ0_length_8abf5 (n + 1) [.ref (2000 + i)] h (fun v h2 => v = some (.int (nI (jSl.getD i 0))) ∧ h2 = h) := by
  refine jC.of (lv := [some (.ref (2000 + i))]) (by decide) (Nat.le_of_ble_eq_true rfl) ⟨rfl, trivial⟩ ?_
  refine jr_aload_n (pc' := 1) (i := 0) dJ0_length_8abf5_0 rfl rfl rfl ?_
  refine jr_getSv (pc' := 4) hi wfJ0_9 dJ0_length_8abf5_1 rfl ?_
  refine jr_alenS (pc' := 5) hi dJ0_length_8abf5_4 rfl ?_
  refine jr_aload_n (pc' := 6) (i := 0) dJ0_length_8abf5_5 rfl rfl rfl ?_
  refine jr_callT (pc' := 9) (av := []) (st := [.int (nI (jSl.getD i 0))]) hi sJ0_coder_7d493 rfl wmJ0_335 dJ0_length_8abf5_6 rfl rfl (Nat.le_of_ble_eq_true rfl) rfl (c_coder hi h) (fun v h2 hp => ?_)
  rw [hp.1, hp.2]
  show jG E mJ0_length_8abf5 (n + 1) _ _ 9 _ [.int 0, .int (nI (jSl.getD i 0))] h
  refine jr_ishr (pc' := 10) dJ0_length_8abf5_9 rfl ?_
  exact jr_iret dJ0_length_8abf5_10 rfl rfl ⟨by rw [j_sh0 i hi], rfl⟩
theorem c_pre {E : jEnv} {n : Nat} {x y : Int32} {w : Value} (hx : ¬ x < 0) (hy : x < y) (hw : w = .null ∨ w = .ref 4000) (h : HP) : jC E mJ3_checkIndex_8e157 n [.int x, .int y, w] h (fun v h2 => v = some (.int x) ∧ h2 = h) := by
  rcases hw with rfl | rfl
  · refine jC.of (lv := [some (.int x), some (.int y), none]) (by decide) (Nat.le_of_ble_eq_true rfl) ⟨rfl, rfl, trivial⟩ ?_
    refine jr_iload_n (pc' := 1) (i := 0) dJ3_checkIndex_8e157_0 rfl rfl rfl ?_
    refine jr_if_ltF (pc' := 4) (tgt := 9) dJ3_checkIndex_8e157_1 rfl rfl hx ?_
    refine jr_iload_n (pc' := 5) (i := 0) dJ3_checkIndex_8e157_4 rfl rfl rfl ?_
    refine jr_iload_n (pc' := 6) (i := 1) dJ3_checkIndex_8e157_5 rfl rfl rfl ?_
    refine jr_icmp_ltT (pc' := 16) dJ3_checkIndex_8e157_6 rfl hy ?_
    refine jr_iload_n (pc' := 17) (i := 0) dJ3_checkIndex_8e157_16 rfl rfl rfl ?_
    exact jr_iret dJ3_checkIndex_8e157_17 rfl rfl ⟨rfl, rfl⟩
  · refine jC.of (lv := [some (.int x), some (.int y), none]) (by decide) (Nat.le_of_ble_eq_true rfl) ⟨rfl, rfl, trivial⟩ ?_
    refine jr_iload_n (pc' := 1) (i := 0) dJ3_checkIndex_8e157_0 rfl rfl rfl ?_
    refine jr_if_ltF (pc' := 4) (tgt := 9) dJ3_checkIndex_8e157_1 rfl rfl hx ?_
    refine jr_iload_n (pc' := 5) (i := 0) dJ3_checkIndex_8e157_4 rfl rfl rfl ?_
    refine jr_iload_n (pc' := 6) (i := 1) dJ3_checkIndex_8e157_5 rfl rfl rfl ?_
    refine jr_icmp_ltT (pc' := 16) dJ3_checkIndex_8e157_6 rfl hy ?_
    refine jr_iload_n (pc' := 17) (i := 0) dJ3_checkIndex_8e157_16 rfl rfl rfl ?_
    exact jr_iret dJ3_checkIndex_8e157_17 rfl rfl ⟨rfl, rfl⟩
theorem c_chk {E : jEnv} {n : Nat} {x y : Int32} (hx : ¬ x < 0) (hy : x < y) (h : HP) : jC E mJ0_checkIndex_df160 (n + 1) [.int x, .int y] h (fun v h2 => v = none ∧ h2 = h) := by
  refine jC.of (lv := [some (.int x), some (.int y)]) (by decide) (Nat.le_of_ble_eq_true rfl) ⟨rfl, rfl, trivial⟩ ?_
  refine jr_iload_n (pc' := 1) (i := 0) dJ0_checkIndex_df160_0 rfl rfl rfl ?_
  refine jr_iload_n (pc' := 2) (i := 1) dJ0_checkIndex_df160_1 rfl rfl rfl ?_
  refine jr_getsQ (pc' := 5) wfJ0_1053 dJ0_checkIndex_df160_2 rfl (fun w hw => ?_)
  refine jr_callS (pc' := 8) (av := [.int x, .int y, w]) (st := []) sJ3_checkIndex_8e157 wmJ0_1059 dJ0_checkIndex_df160_5 rfl rfl (Nat.le_of_ble_eq_true rfl) rfl (c_pre hx hy hw h) (fun v h2 hp => ?_)
  rw [hp.1, hp.2]
  show jG E mJ0_checkIndex_df160 (n + 1) _ _ 8 _ [.int x] h
  refine jr_pop (pc' := 9) dJ0_checkIndex_df160_8 rfl rfl ?_
  exact jr_vret dJ0_checkIndex_df160_9 rfl ⟨rfl, rfl⟩
theorem c_latin {E : jEnv} {n i k : Nat} (hi : i < 6) (hk : k < jSl.getD i 0) (h : HP) : jC E mJ1_charAt_3b067 (n + 2) [.ref (3000 + i), .int (nI k)] h (fun v h2 => v = some (.int ((jSb.getD i []).getD k 0 &&& 255)) ∧ h2 = h) := by
  have h6 : ∀ i, i < 6 → jSl.getD i 0 < 10 := by decide
  have h7 := h6 i hi
  refine jC.of (lv := [some (.ref (3000 + i)), some (.int (nI k))]) (by decide) (Nat.le_of_ble_eq_true rfl) ⟨rfl, rfl, trivial⟩ ?_
  refine jr_iload_n (pc' := 1) (i := 1) dJ1_charAt_3b067_0 rfl rfl rfl ?_
  refine jr_aload_n (pc' := 2) (i := 0) dJ1_charAt_3b067_1 rfl rfl rfl ?_
  refine jr_alenS (pc' := 3) hi dJ1_charAt_3b067_2 rfl ?_
  refine jr_callS (pc' := 6) (av := [.int (nI k), .int (nI (jSl.getD i 0))]) (st := []) sJ0_checkIndex_df160 wmJ1_9 dJ1_charAt_3b067_3 rfl rfl (Nat.le_of_ble_eq_true rfl) rfl (c_chk (n := n) (nI_pos (by omega)) (nI_lt hk (by omega)) h) (fun v h2 hp => ?_)
  rw [hp.1, hp.2]
  show jG E mJ1_charAt_3b067 (n + 2) _ _ 6 _ [] h
  refine jr_aload_n (pc' := 7) (i := 0) dJ1_charAt_3b067_6 rfl rfl rfl ?_
  refine jr_iload_n (pc' := 8) (i := 1) dJ1_charAt_3b067_7 rfl rfl rfl ?_
  refine jr_baldS (pc' := 9) hi (vp_in_nI hk (by omega)) dJ1_charAt_3b067_8 rfl ?_
  refine jr_sipush (pc' := 12) (v := 255) dJ1_charAt_3b067_9 rfl (by decide) ?_
  refine jr_iand (pc' := 13) dJ1_charAt_3b067_12 rfl ?_
  refine jr_i2c (pc' := 14) dJ1_charAt_3b067_13 rfl ?_
  rw [sc_c2, nI_clamp (by omega)]
  exact jr_iret dJ1_charAt_3b067_14 rfl (sc_nar _) ⟨rfl, rfl⟩
theorem c_charAt {E : jEnv} {n i k : Nat} (hi : i < 6) (hk : k < jSl.getD i 0) (h : HP) : jC E mJ0_charAt_5068e (n + 3) [.ref (2000 + i), .int (nI k)] h (fun v h2 => v = some (.int ((jSb.getD i []).getD k 0 &&& 255)) ∧ h2 = h) := by
  refine jC.of (lv := [some (.ref (2000 + i)), some (.int (nI k))]) (by decide) (Nat.le_of_ble_eq_true rfl) ⟨rfl, rfl, trivial⟩ ?_
  refine jr_aload_n (pc' := 1) (i := 0) dJ0_charAt_5068e_0 rfl rfl rfl ?_
  refine jr_callT (pc' := 4) (av := []) (st := []) hi sJ0_isLatin1_aae02 rfl wmJ0_492 dJ0_charAt_5068e_1 rfl rfl (Nat.le_of_ble_eq_true rfl) rfl (c_isLatin1 hi h) (fun v h2 hp => ?_)
  rw [hp.1, hp.2]
  show jG E mJ0_charAt_5068e (n + 3) _ _ 4 _ [.int 1] h
  refine jr_if_eqF (pc' := 7) (tgt := 16) dJ0_charAt_5068e_4 rfl rfl (by decide) ?_
  refine jr_aload_n (pc' := 8) (i := 0) dJ0_charAt_5068e_7 rfl rfl rfl ?_
  refine jr_getSv (pc' := 11) hi wfJ0_9 dJ0_charAt_5068e_8 rfl ?_
  refine jr_iload_n (pc' := 12) (i := 1) dJ0_charAt_5068e_11 rfl rfl rfl ?_
  refine jr_callS (pc' := 15) (av := [.ref (3000 + i), .int (nI k)]) (st := []) sJ1_charAt_3b067 wmJ0_495 dJ0_charAt_5068e_12 rfl rfl (Nat.le_of_ble_eq_true rfl) rfl (c_latin (n := n) hi hk h) (fun v h2 hp => ?_)
  rw [hp.1, hp.2]
  exact jr_iret dJ0_charAt_5068e_15 rfl (sc_nar _) ⟨rfl, rfl⟩
