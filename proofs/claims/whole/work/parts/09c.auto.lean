theorem q_TxbyteAt_0 {E : jEnv} {n : Nat} {X : State → Prop} {Post : Option Value → HP → Prop} (x : Int32) (h : HP)
    (k0 : (x < 0) → Post (some (.int (-1))) h)
    (k1 : (¬ x < 0) → ((h.1 1 1) ≤ x) → Post (some (.int (-1))) h)
    (k2 : (¬ x < 0) → (¬ (h.1 1 1) ≤ x) → ((500 : Int32) ≤ x) → Post (some (.int (-1))) h)
    (k3 : (¬ x < 0) → (¬ (h.1 1 1) ≤ x) → (¬ (500 : Int32) ≤ x) → Post (some (.int ((h.1 2 x.toNatClampNeg) &&& 255))) h)
    : jG E mX6_byteAt n X Post 0 [some (.ref 1), some (.int x)] [] h := by
  refine jr_iload_n (pc' := 1) (i := 1) dX6_byteAt_0 rfl rfl rfl ?_
  by_cases c1 : x < 0
  · refine jr_if_ltT (pc' := 34) dX6_byteAt_1 rfl c1 ?_
    refine jr_iconst (pc' := 35) (v := (-1)) dX6_byteAt_34 rfl (by decide) ?_
    exact jr_iret dX6_byteAt_35 rfl rfl (k0 c1)
  · refine jr_if_ltF (pc' := 4) (tgt := 34) dX6_byteAt_1 rfl rfl c1 ?_
    refine jr_iload_n (pc' := 5) (i := 1) dX6_byteAt_4 rfl rfl rfl ?_
    refine jr_aload_n (pc' := 6) (i := 0) dX6_byteAt_5 rfl rfl rfl ?_
    refine jr_get (pc' := 9) jK6 (k := 1) (j := 1) (v := .int (h.1 1 1)) wfX6_15 dX6_byteAt_6 rfl (by decide) rfl (by decide) rfl ?_
    by_cases c2 : (h.1 1 1) ≤ x
    · refine jr_icmp_geT (pc' := 34) dX6_byteAt_9 rfl c2 ?_
      refine jr_iconst (pc' := 35) (v := (-1)) dX6_byteAt_34 rfl (by decide) ?_
      exact jr_iret dX6_byteAt_35 rfl rfl (k1 c1 c2)
    · refine jr_icmp_geF (pc' := 12) (tgt := 34) dX6_byteAt_9 rfl rfl c2 ?_
      refine jr_iload_n (pc' := 13) (i := 1) dX6_byteAt_12 rfl rfl rfl ?_
      refine jr_aload_n (pc' := 14) (i := 0) dX6_byteAt_13 rfl rfl rfl ?_
      refine jr_get (pc' := 17) jK6 (k := 1) (j := 0) (v := .ref 2) wfX6_9 dX6_byteAt_14 rfl (by decide) rfl (by decide) rfl ?_
      refine jr_alen (pc' := 18) (v := 500) dX6_byteAt_17 rfl (by decide) (by decide) (by decide) ?_
      by_cases c3 : (500 : Int32) ≤ x
      · refine jr_icmp_geT (pc' := 34) dX6_byteAt_18 rfl c3 ?_
        refine jr_iconst (pc' := 35) (v := (-1)) dX6_byteAt_34 rfl (by decide) ?_
        exact jr_iret dX6_byteAt_35 rfl rfl (k2 c1 c2 c3)
      · refine jr_icmp_geF (pc' := 21) (tgt := 34) dX6_byteAt_18 rfl rfl c3 ?_
        refine jr_aload_n (pc' := 22) (i := 0) dX6_byteAt_21 rfl rfl rfl ?_
        refine jr_get (pc' := 25) jK6 (k := 1) (j := 0) (v := .ref 2) wfX6_9 dX6_byteAt_22 rfl (by decide) rfl (by decide) rfl ?_
        refine jr_iload_n (pc' := 26) (i := 1) dX6_byteAt_25 rfl rfl rfl ?_
        refine jr_bald (pc' := 27) (v := h.1 2 x.toNatClampNeg) dX6_byteAt_26 rfl (by decide) rfl (jvb c1 c3 (by decide)) rfl ?_
        refine jr_sipush (pc' := 30) (v := 255) dX6_byteAt_27 rfl (by decide) ?_
        refine jr_iand (pc' := 31)  dX6_byteAt_30 rfl  ?_
        refine jr_goto (pc' := 35) dX6_byteAt_31 rfl ?_
        exact jr_iret dX6_byteAt_35 rfl rfl (k3 c1 c2 c3)
def f_TxbyteAt (f1_1 : Int32) (r2 : Nat → Int32) (x : Int32) : Int32 := (if x < 0 then (-1) else (if (f1_1) ≤ x then (-1) else (if (500 : Int32) ≤ x then (-1) else ((r2 x.toNatClampNeg) &&& 255))))
theorem c_TxbyteAt {E : jEnv} {n : Nat} (x : Int32) (h : HP)  : jC E mX6_byteAt n [.ref 1, .int x] h (fun v h2 => v = some (.int (f_TxbyteAt (h.1 1 1) (h.1 2) x)) ∧ h2 = h) :=
  jC.of (lv := [some (.ref 1), some (.int x)]) (by decide) (Nat.le_of_ble_eq_true rfl) ⟨rfl, rfl, trivial⟩ (q_TxbyteAt_0 x h (fun c1 => ⟨(congrArg (fun z => some (Value.int z)) (Eq.symm (by first | (rw [f_TxbyteAt, if_pos c1]; done) | (simp [f_TxbyteAt, c1]; done)))), rfl⟩) (fun c1 c2 => ⟨(congrArg (fun z => some (Value.int z)) (Eq.symm (by first | (rw [f_TxbyteAt, if_neg c1, if_pos c2]; done) | (simp [f_TxbyteAt, c1, c2]; done)))), rfl⟩) (fun c1 c2 c3 => ⟨(congrArg (fun z => some (Value.int z)) (Eq.symm (by first | (rw [f_TxbyteAt, if_neg c1, if_neg c2, if_pos c3]; done) | (simp [f_TxbyteAt, c1, c2, c3]; done)))), rfl⟩) (fun c1 c2 c3 => ⟨(congrArg (fun z => some (Value.int z)) (Eq.symm (by first | (rw [f_TxbyteAt, if_neg c1, if_neg c2, if_neg c3]; done) | (simp [f_TxbyteAt, c1, c2, c3]; done)))), rfl⟩))

theorem q_RdisLetter_0 {E : jEnv} {n : Nat} {X : State → Prop} {Post : Option Value → HP → Prop} (x : Int32) (h : HP)
    (k0 : (x < 97) → Post (some (.int 0)) h)
    (k1 : (¬ x < 97) → ((122 : Int32) < x) → Post (some (.int 0)) h)
    (k2 : (¬ x < 97) → (¬ (122 : Int32) < x) → Post (some (.int 1)) h)
    : jG E mX3_isLetter n X Post 0 [some (.int x)] [] h := by
  refine jr_iload_n (pc' := 1) (i := 0) dX3_isLetter_0 rfl rfl rfl ?_
  refine jr_bipush (pc' := 3) (v := 97) dX3_isLetter_1 rfl (by decide) ?_
  by_cases c1 : x < 97
  · refine jr_icmp_ltT (pc' := 16) dX3_isLetter_3 rfl c1 ?_
    refine jr_iconst (pc' := 17) (v := 0) dX3_isLetter_16 rfl (by decide) ?_
    exact jr_iret dX3_isLetter_17 rfl rfl (k0 c1)
  · refine jr_icmp_ltF (pc' := 6) (tgt := 16) dX3_isLetter_3 rfl rfl c1 ?_
    refine jr_iload_n (pc' := 7) (i := 0) dX3_isLetter_6 rfl rfl rfl ?_
    refine jr_bipush (pc' := 9) (v := 122) dX3_isLetter_7 rfl (by decide) ?_
    by_cases c2 : (122 : Int32) < x
    · refine jr_icmp_gtT (pc' := 16) dX3_isLetter_9 rfl c2 ?_
      refine jr_iconst (pc' := 17) (v := 0) dX3_isLetter_16 rfl (by decide) ?_
      exact jr_iret dX3_isLetter_17 rfl rfl (k1 c1 c2)
    · refine jr_icmp_gtF (pc' := 12) (tgt := 16) dX3_isLetter_9 rfl rfl c2 ?_
      refine jr_iconst (pc' := 13) (v := 1) dX3_isLetter_12 rfl (by decide) ?_
      refine jr_goto (pc' := 17) dX3_isLetter_13 rfl ?_
      exact jr_iret dX3_isLetter_17 rfl rfl (k2 c1 c2)
def f_RdisLetter  (x : Int32) : Int32 := (if x < 97 then 0 else (if (122 : Int32) < x then 0 else 1))
theorem c_RdisLetter {E : jEnv} {n : Nat} (x : Int32) (h : HP)  : jC E mX3_isLetter n [.int x] h (fun v h2 => v = some (.int (f_RdisLetter x)) ∧ h2 = h) :=
  jC.of (lv := [some (.int x)]) (by decide) (Nat.le_of_ble_eq_true rfl) ⟨rfl, trivial⟩ (q_RdisLetter_0 x h (fun c1 => ⟨(congrArg (fun z => some (Value.int z)) (Eq.symm (by first | (rw [f_RdisLetter, if_pos c1]; done) | (simp [f_RdisLetter, c1]; done)))), rfl⟩) (fun c1 c2 => ⟨(congrArg (fun z => some (Value.int z)) (Eq.symm (by first | (rw [f_RdisLetter, if_neg c1, if_pos c2]; done) | (simp [f_RdisLetter, c1, c2]; done)))), rfl⟩) (fun c1 c2 => ⟨(congrArg (fun z => some (Value.int z)) (Eq.symm (by first | (rw [f_RdisLetter, if_neg c1, if_neg c2]; done) | (simp [f_RdisLetter, c1, c2]; done)))), rfl⟩))

theorem q_Rdfail_0 {E : jEnv} {n : Nat} {X : State → Prop} {Post : Option Value → HP → Prop} (x : Int32) (y : Int32) (h : HP)
    (k0 : ((h.1 10 2) = 0) → Post none (jPI (jPI h 10 2 x) 10 3 y))
    (k1 : (¬ (h.1 10 2) = 0) → Post none h)
    : jG E mX3_fail n X Post 0 [some (.ref 10), some (.int x), some (.int y)] [] h := by
  refine jr_aload_n (pc' := 1) (i := 0) dX3_fail_0 rfl rfl rfl ?_
  refine jr_get (pc' := 4) jK3 (k := 10) (j := 2) (v := .int (h.1 10 2)) wfX3_18 dX3_fail_1 rfl (by decide) rfl (by decide) rfl ?_
  by_cases c1 : (h.1 10 2) = 0
  · refine jr_if_neF (pc' := 7) (tgt := 17) dX3_fail_4 rfl rfl c1 ?_
    refine jr_aload_n (pc' := 8) (i := 0) dX3_fail_7 rfl rfl rfl ?_
    refine jr_iload_n (pc' := 9) (i := 1) dX3_fail_8 rfl rfl rfl ?_
    refine jr_putI (pc' := 12) jK3 (k := 10) (j := 2) wfX3_18 dX3_fail_9 rfl (by decide) rfl (by decide) (by decide) rfl rfl rfl ?_
    refine jr_aload_n (pc' := 13) (i := 0) dX3_fail_12 rfl rfl rfl ?_
    refine jr_iload_n (pc' := 14) (i := 2) dX3_fail_13 rfl rfl rfl ?_
    refine jr_putI (pc' := 17) jK3 (k := 10) (j := 3) wfX3_22 dX3_fail_14 rfl (by decide) rfl (by decide) (by decide) rfl rfl rfl ?_
    exact jr_vret dX3_fail_17 rfl (k0 c1)
  · refine jr_if_neT (pc' := 17) dX3_fail_4 rfl c1 ?_
    exact jr_vret dX3_fail_17 rfl (k1 c1)
def H_Rdfail (h : HP) (x : Int32) (y : Int32) : HP := (if (h.1 10 2) = 0 then (jPI (jPI h 10 2 x) 10 3 y) else h)
theorem c_Rdfail {E : jEnv} {n : Nat} (x : Int32) (y : Int32) (h : HP)  : jC E mX3_fail n [.ref 10, .int x, .int y] h (fun v h2 => v = none ∧ h2 = (H_Rdfail h x y)) :=
  jC.of (lv := [some (.ref 10), some (.int x), some (.int y)]) (by decide) (Nat.le_of_ble_eq_true rfl) ⟨rfl, rfl, rfl, trivial⟩ (q_Rdfail_0 x y h (fun c1 => ⟨rfl, (Eq.symm (by first | (rw [H_Rdfail, if_pos c1]; done) | (simp [H_Rdfail, c1]; done)))⟩) (fun c1 => ⟨rfl, (Eq.symm (by first | (rw [H_Rdfail, if_neg c1]; done) | (simp [H_Rdfail, c1]; done)))⟩))

theorem q_RdisFigure_0 {E : jEnv} {n : Nat} {X : State → Prop} {Post : Option Value → HP → Prop} (x : Int32) (h : HP)
    (k0 : (x < 48) → Post (some (.int 0)) h)
    (k1 : (¬ x < 48) → ((57 : Int32) < x) → Post (some (.int 0)) h)
    (k2 : (¬ x < 48) → (¬ (57 : Int32) < x) → Post (some (.int 1)) h)
    : jG E mX3_isFigure n X Post 0 [some (.int x)] [] h := by
  refine jr_iload_n (pc' := 1) (i := 0) dX3_isFigure_0 rfl rfl rfl ?_
  refine jr_bipush (pc' := 3) (v := 48) dX3_isFigure_1 rfl (by decide) ?_
  by_cases c1 : x < 48
  · refine jr_icmp_ltT (pc' := 16) dX3_isFigure_3 rfl c1 ?_
    refine jr_iconst (pc' := 17) (v := 0) dX3_isFigure_16 rfl (by decide) ?_
    exact jr_iret dX3_isFigure_17 rfl rfl (k0 c1)
  · refine jr_icmp_ltF (pc' := 6) (tgt := 16) dX3_isFigure_3 rfl rfl c1 ?_
    refine jr_iload_n (pc' := 7) (i := 0) dX3_isFigure_6 rfl rfl rfl ?_
    refine jr_bipush (pc' := 9) (v := 57) dX3_isFigure_7 rfl (by decide) ?_
    by_cases c2 : (57 : Int32) < x
    · refine jr_icmp_gtT (pc' := 16) dX3_isFigure_9 rfl c2 ?_
      refine jr_iconst (pc' := 17) (v := 0) dX3_isFigure_16 rfl (by decide) ?_
      exact jr_iret dX3_isFigure_17 rfl rfl (k1 c1 c2)
    · refine jr_icmp_gtF (pc' := 12) (tgt := 16) dX3_isFigure_9 rfl rfl c2 ?_
      refine jr_iconst (pc' := 13) (v := 1) dX3_isFigure_12 rfl (by decide) ?_
      refine jr_goto (pc' := 17) dX3_isFigure_13 rfl ?_
      exact jr_iret dX3_isFigure_17 rfl rfl (k2 c1 c2)
def f_RdisFigure  (x : Int32) : Int32 := (if x < 48 then 0 else (if (57 : Int32) < x then 0 else 1))
theorem c_RdisFigure {E : jEnv} {n : Nat} (x : Int32) (h : HP)  : jC E mX3_isFigure n [.int x] h (fun v h2 => v = some (.int (f_RdisFigure x)) ∧ h2 = h) :=
  jC.of (lv := [some (.int x)]) (by decide) (Nat.le_of_ble_eq_true rfl) ⟨rfl, trivial⟩ (q_RdisFigure_0 x h (fun c1 => ⟨(congrArg (fun z => some (Value.int z)) (Eq.symm (by first | (rw [f_RdisFigure, if_pos c1]; done) | (simp [f_RdisFigure, c1]; done)))), rfl⟩) (fun c1 c2 => ⟨(congrArg (fun z => some (Value.int z)) (Eq.symm (by first | (rw [f_RdisFigure, if_neg c1, if_pos c2]; done) | (simp [f_RdisFigure, c1, c2]; done)))), rfl⟩) (fun c1 c2 => ⟨(congrArg (fun z => some (Value.int z)) (Eq.symm (by first | (rw [f_RdisFigure, if_neg c1, if_neg c2]; done) | (simp [f_RdisFigure, c1, c2]; done)))), rfl⟩))

theorem q_Rdfailed_0 {E : jEnv} {n : Nat} {X : State → Prop} {Post : Option Value → HP → Prop}  (h : HP)
    (k0 : ((h.1 10 2) = 0) → Post (some (.int 0)) h)
    (k1 : (¬ (h.1 10 2) = 0) → Post (some (.int 1)) h)
    : jG E mX3_failed n X Post 0 [some (.ref 10)] [] h := by
  refine jr_aload_n (pc' := 1) (i := 0) dX3_failed_0 rfl rfl rfl ?_
  refine jr_get (pc' := 4) jK3 (k := 10) (j := 2) (v := .int (h.1 10 2)) wfX3_18 dX3_failed_1 rfl (by decide) rfl (by decide) rfl ?_
  by_cases c1 : (h.1 10 2) = 0
  · refine jr_if_eqT (pc' := 11) dX3_failed_4 rfl c1 ?_
    refine jr_iconst (pc' := 12) (v := 0) dX3_failed_11 rfl (by decide) ?_
    exact jr_iret dX3_failed_12 rfl rfl (k0 c1)
  · refine jr_if_eqF (pc' := 7) (tgt := 11) dX3_failed_4 rfl rfl c1 ?_
    refine jr_iconst (pc' := 8) (v := 1) dX3_failed_7 rfl (by decide) ?_
    refine jr_goto (pc' := 12) dX3_failed_8 rfl ?_
    exact jr_iret dX3_failed_12 rfl rfl (k1 c1)
def f_Rdfailed (f10_2 : Int32)  : Int32 := (if (f10_2) = 0 then 0 else 1)
theorem c_Rdfailed {E : jEnv} {n : Nat}  (h : HP)  : jC E mX3_failed n [.ref 10] h (fun v h2 => v = some (.int (f_Rdfailed (h.1 10 2))) ∧ h2 = h) :=
  jC.of (lv := [some (.ref 10)]) (by decide) (Nat.le_of_ble_eq_true rfl) ⟨rfl, trivial⟩ (q_Rdfailed_0  h (fun c1 => ⟨(congrArg (fun z => some (Value.int z)) (Eq.symm (by first | (rw [f_Rdfailed, if_pos c1]; done) | (simp [f_Rdfailed, c1]; done)))), rfl⟩) (fun c1 => ⟨(congrArg (fun z => some (Value.int z)) (Eq.symm (by first | (rw [f_Rdfailed, if_neg c1]; done) | (simp [f_Rdfailed, c1]; done)))), rfl⟩))

theorem q_Shhas_0 {E : jEnv} {n : Nat} {X : State → Prop} {Post : Option Value → HP → Prop} (x : Int64) (y : Int32) (h : HP)
    (k0 : ((lg_cmp ((x >>> (y.toInt64 &&& 63)) &&& 1) 0) = 0) → Post (some (.int 0)) h)
    (k1 : (¬ (lg_cmp ((x >>> (y.toInt64 &&& 63)) &&& 1) 0) = 0) → Post (some (.int 1)) h)
    : jG E mX7_has n X Post 0 [some (.long x), none, some (.int y)] [] h := by
  refine jr_lload_n (pc' := 1) (i := 0) dX7_has_0 rfl rfl rfl ?_
  refine jr_iload_n (pc' := 2) (i := 2) dX7_has_1 rfl rfl rfl ?_
  refine jr_lshr (pc' := 3)  dX7_has_2 rfl  ?_
  refine jr_lconst (pc' := 4) (v := 1) dX7_has_3 rfl (by decide) ?_
  refine jr_land (pc' := 5)  dX7_has_4 rfl  ?_
  refine jr_lconst (pc' := 6) (v := 0) dX7_has_5 rfl (by decide) ?_
  refine jr_lcmp (pc' := 7)  dX7_has_6 rfl  ?_
  by_cases c1 : (lg_cmp ((x >>> (y.toInt64 &&& 63)) &&& 1) 0) = 0
  · refine jr_if_eqT (pc' := 14) dX7_has_7 rfl c1 ?_
    refine jr_iconst (pc' := 15) (v := 0) dX7_has_14 rfl (by decide) ?_
    exact jr_iret dX7_has_15 rfl rfl (k0 c1)
  · refine jr_if_eqF (pc' := 10) (tgt := 14) dX7_has_7 rfl rfl c1 ?_
    refine jr_iconst (pc' := 11) (v := 1) dX7_has_10 rfl (by decide) ?_
    refine jr_goto (pc' := 15) dX7_has_11 rfl ?_
    exact jr_iret dX7_has_15 rfl rfl (k1 c1)
def f_Shhas  (x : Int64) (y : Int32) : Int32 := (if (lg_cmp ((x >>> (y.toInt64 &&& 63)) &&& 1) 0) = 0 then 0 else 1)
theorem c_Shhas {E : jEnv} {n : Nat} (x : Int64) (y : Int32) (h : HP)  : jC E mX7_has n [.long x, .int y] h (fun v h2 => v = some (.int (f_Shhas x y)) ∧ h2 = h) :=
  jC.of (lv := [some (.long x), none, some (.int y)]) (by decide) (Nat.le_of_ble_eq_true rfl) ⟨rfl, rfl, trivial⟩ (q_Shhas_0 x y h (fun c1 => ⟨(congrArg (fun z => some (Value.int z)) (Eq.symm (by first | (rw [f_Shhas, if_pos c1]; done) | (simp [f_Shhas, c1]; done)))), rfl⟩) (fun c1 => ⟨(congrArg (fun z => some (Value.int z)) (Eq.symm (by first | (rw [f_Shhas, if_neg c1]; done) | (simp [f_Shhas, c1]; done)))), rfl⟩))

theorem q_LdcellOf3_0 {E : jEnv} {n : Nat} {X : State → Prop} {Post : Option Value → HP → Prop} (x : Int32) (y : Int32) (h : HP)
    (k0 : Post (some (.int ((y * (h.1 3 0)) + x))) h)
    : jG E mX2_cellOf n X Post 0 [some (.ref 3), some (.int x), some (.int y)] [] h := by
  refine jr_iload_n (pc' := 1) (i := 2) dX2_cellOf_0 rfl rfl rfl ?_
  refine jr_aload_n (pc' := 2) (i := 0) dX2_cellOf_1 rfl rfl rfl ?_
  refine jr_get (pc' := 5) jK2 (k := 3) (j := 0) (v := .int (h.1 3 0)) wfX2_9 dX2_cellOf_2 rfl (by decide) rfl (by decide) rfl ?_
  refine jr_imul (pc' := 6)  dX2_cellOf_5 rfl  ?_
  refine jr_iload_n (pc' := 7) (i := 1) dX2_cellOf_6 rfl rfl rfl ?_
  refine jr_iadd (pc' := 8)  dX2_cellOf_7 rfl  ?_
  exact jr_iret dX2_cellOf_8 rfl rfl (k0)
def f_LdcellOf3 (f3_0 : Int32) (x : Int32) (y : Int32) : Int32 := ((y * (f3_0)) + x)
theorem c_LdcellOf3 {E : jEnv} {n : Nat} (x : Int32) (y : Int32) (h : HP)  : jC E mX2_cellOf n [.ref 3, .int x, .int y] h (fun v h2 => v = some (.int (f_LdcellOf3 (h.1 3 0) x y)) ∧ h2 = h) :=
  jC.of (lv := [some (.ref 3), some (.int x), some (.int y)]) (by decide) (Nat.le_of_ble_eq_true rfl) ⟨rfl, rfl, rfl, trivial⟩ (q_LdcellOf3_0 x y h (⟨(congrArg (fun z => some (Value.int z)) (Eq.symm rfl)), rfl⟩))

theorem q_LdcellOf11_0 {E : jEnv} {n : Nat} {X : State → Prop} {Post : Option Value → HP → Prop} (x : Int32) (y : Int32) (h : HP)
    (k0 : Post (some (.int ((y * (h.1 11 0)) + x))) h)
    : jG E mX2_cellOf n X Post 0 [some (.ref 11), some (.int x), some (.int y)] [] h := by
  refine jr_iload_n (pc' := 1) (i := 2) dX2_cellOf_0 rfl rfl rfl ?_
  refine jr_aload_n (pc' := 2) (i := 0) dX2_cellOf_1 rfl rfl rfl ?_
  refine jr_get (pc' := 5) jK2 (k := 11) (j := 0) (v := .int (h.1 11 0)) wfX2_9 dX2_cellOf_2 rfl (by decide) rfl (by decide) rfl ?_
  refine jr_imul (pc' := 6)  dX2_cellOf_5 rfl  ?_
  refine jr_iload_n (pc' := 7) (i := 1) dX2_cellOf_6 rfl rfl rfl ?_
  refine jr_iadd (pc' := 8)  dX2_cellOf_7 rfl  ?_
  exact jr_iret dX2_cellOf_8 rfl rfl (k0)
def f_LdcellOf11 (f11_0 : Int32) (x : Int32) (y : Int32) : Int32 := ((y * (f11_0)) + x)
theorem c_LdcellOf11 {E : jEnv} {n : Nat} (x : Int32) (y : Int32) (h : HP)  : jC E mX2_cellOf n [.ref 11, .int x, .int y] h (fun v h2 => v = some (.int (f_LdcellOf11 (h.1 11 0) x y)) ∧ h2 = h) :=
  jC.of (lv := [some (.ref 11), some (.int x), some (.int y)]) (by decide) (Nat.le_of_ble_eq_true rfl) ⟨rfl, rfl, rfl, trivial⟩ (q_LdcellOf11_0 x y h (⟨(congrArg (fun z => some (Value.int z)) (Eq.symm rfl)), rfl⟩))

theorem q_Ldcells_0 {E : jEnv} {n : Nat} {X : State → Prop} {Post : Option Value → HP → Prop}  (h : HP)
    (k0 : Post (some (.int ((h.1 3 0) * (h.1 3 1)))) h)
    : jG E mX2_cells n X Post 0 [some (.ref 3)] [] h := by
  refine jr_aload_n (pc' := 1) (i := 0) dX2_cells_0 rfl rfl rfl ?_
  refine jr_get (pc' := 4) jK2 (k := 3) (j := 0) (v := .int (h.1 3 0)) wfX2_9 dX2_cells_1 rfl (by decide) rfl (by decide) rfl ?_
  refine jr_aload_n (pc' := 5) (i := 0) dX2_cells_4 rfl rfl rfl ?_
  refine jr_get (pc' := 8) jK2 (k := 3) (j := 1) (v := .int (h.1 3 1)) wfX2_15 dX2_cells_5 rfl (by decide) rfl (by decide) rfl ?_
  refine jr_imul (pc' := 9)  dX2_cells_8 rfl  ?_
  exact jr_iret dX2_cells_9 rfl rfl (k0)
def f_Ldcells (f3_0 : Int32) (f3_1 : Int32)  : Int32 := ((f3_0) * (f3_1))
theorem c_Ldcells {E : jEnv} {n : Nat}  (h : HP)  : jC E mX2_cells n [.ref 3] h (fun v h2 => v = some (.int (f_Ldcells (h.1 3 0) (h.1 3 1))) ∧ h2 = h) :=
  jC.of (lv := [some (.ref 3)]) (by decide) (Nat.le_of_ble_eq_true rfl) ⟨rfl, trivial⟩ (q_Ldcells_0  h (⟨(congrArg (fun z => some (Value.int z)) (Eq.symm rfl)), rfl⟩))

theorem q_LdcolumnOf_0 {E : jEnv} {n : Nat} {X : State → Prop} {Post : Option Value → HP → Prop} (x : Int32) (h : HP)
    (k0 : ((h.1 3 0) ≤ 0) → Post (some (.int 0)) h)
    (k1 : (¬ (h.1 3 0) ≤ 0) → Post (some (.int (x - x / (h.1 3 0) * (h.1 3 0)))) h)
    : jG E mX2_columnOf n X Post 0 [some (.ref 3), some (.int x)] [] h := by
  refine jr_aload_n (pc' := 1) (i := 0) dX2_columnOf_0 rfl rfl rfl ?_
  refine jr_get (pc' := 4) jK2 (k := 3) (j := 0) (v := .int (h.1 3 0)) wfX2_9 dX2_columnOf_1 rfl (by decide) rfl (by decide) rfl ?_
  by_cases c1 : (h.1 3 0) ≤ 0
  · refine jr_if_leT (pc' := 16) dX2_columnOf_4 rfl c1 ?_
    refine jr_iconst (pc' := 17) (v := 0) dX2_columnOf_16 rfl (by decide) ?_
    exact jr_iret dX2_columnOf_17 rfl rfl (k0 c1)
  · refine jr_if_leF (pc' := 7) (tgt := 16) dX2_columnOf_4 rfl rfl c1 ?_
    refine jr_iload_n (pc' := 8) (i := 1) dX2_columnOf_7 rfl rfl rfl ?_
    refine jr_aload_n (pc' := 9) (i := 0) dX2_columnOf_8 rfl rfl rfl ?_
    refine jr_get (pc' := 12) jK2 (k := 3) (j := 0) (v := .int (h.1 3 0)) wfX2_9 dX2_columnOf_9 rfl (by decide) rfl (by decide) rfl ?_
    refine jr_irem (pc' := 13)  dX2_columnOf_12 rfl (jnz c1) ?_
    refine jr_goto (pc' := 17) dX2_columnOf_13 rfl ?_
    exact jr_iret dX2_columnOf_17 rfl rfl (k1 c1)
def f_LdcolumnOf (f3_0 : Int32) (x : Int32) : Int32 := (if (f3_0) ≤ 0 then 0 else (x - x / (f3_0) * (f3_0)))
theorem c_LdcolumnOf {E : jEnv} {n : Nat} (x : Int32) (h : HP)  : jC E mX2_columnOf n [.ref 3, .int x] h (fun v h2 => v = some (.int (f_LdcolumnOf (h.1 3 0) x)) ∧ h2 = h) :=
  jC.of (lv := [some (.ref 3), some (.int x)]) (by decide) (Nat.le_of_ble_eq_true rfl) ⟨rfl, rfl, trivial⟩ (q_LdcolumnOf_0 x h (fun c1 => ⟨(congrArg (fun z => some (Value.int z)) (Eq.symm (by first | (rw [f_LdcolumnOf, if_pos c1]; done) | (simp [f_LdcolumnOf, c1]; done)))), rfl⟩) (fun c1 => ⟨(congrArg (fun z => some (Value.int z)) (Eq.symm (by first | (rw [f_LdcolumnOf, if_neg c1]; done) | (simp [f_LdcolumnOf, c1]; done)))), rfl⟩))

theorem q_LdtideOf_0 {E : jEnv} {n : Nat} {X : State → Prop} {Post : Option Value → HP → Prop} (x : Int32) (h : HP)
    (k0 : ((h.1 3 2) ≤ 0) → Post (some (.int 0)) h)
    (k1 : (¬ (h.1 3 2) ≤ 0) → (x ≤ 0) → Post (some (.int 0)) h)
    (k2 : (¬ (h.1 3 2) ≤ 0) → (¬ x ≤ 0) → Post (some (.int (x - x / (h.1 3 2) * (h.1 3 2)))) h)
    : jG E mX2_tideOf n X Post 0 [some (.ref 3), some (.int x)] [] h := by
  refine jr_aload_n (pc' := 1) (i := 0) dX2_tideOf_0 rfl rfl rfl ?_
  refine jr_get (pc' := 4) jK2 (k := 3) (j := 2) (v := .int (h.1 3 2)) wfX2_18 dX2_tideOf_1 rfl (by decide) rfl (by decide) rfl ?_
  by_cases c1 : (h.1 3 2) ≤ 0
  · refine jr_if_leT (pc' := 20) dX2_tideOf_4 rfl c1 ?_
    refine jr_iconst (pc' := 21) (v := 0) dX2_tideOf_20 rfl (by decide) ?_
    exact jr_iret dX2_tideOf_21 rfl rfl (k0 c1)
  · refine jr_if_leF (pc' := 7) (tgt := 20) dX2_tideOf_4 rfl rfl c1 ?_
    refine jr_iload_n (pc' := 8) (i := 1) dX2_tideOf_7 rfl rfl rfl ?_
    by_cases c2 : x ≤ 0
    · refine jr_if_leT (pc' := 20) dX2_tideOf_8 rfl c2 ?_
      refine jr_iconst (pc' := 21) (v := 0) dX2_tideOf_20 rfl (by decide) ?_
      exact jr_iret dX2_tideOf_21 rfl rfl (k1 c1 c2)
    · refine jr_if_leF (pc' := 11) (tgt := 20) dX2_tideOf_8 rfl rfl c2 ?_
      refine jr_iload_n (pc' := 12) (i := 1) dX2_tideOf_11 rfl rfl rfl ?_
      refine jr_aload_n (pc' := 13) (i := 0) dX2_tideOf_12 rfl rfl rfl ?_
      refine jr_get (pc' := 16) jK2 (k := 3) (j := 2) (v := .int (h.1 3 2)) wfX2_18 dX2_tideOf_13 rfl (by decide) rfl (by decide) rfl ?_
      refine jr_irem (pc' := 17)  dX2_tideOf_16 rfl (jnz c1) ?_
      refine jr_goto (pc' := 21) dX2_tideOf_17 rfl ?_
      exact jr_iret dX2_tideOf_21 rfl rfl (k2 c1 c2)
def f_LdtideOf (f3_2 : Int32) (x : Int32) : Int32 := (if (f3_2) ≤ 0 then 0 else (if x ≤ 0 then 0 else (x - x / (f3_2) * (f3_2))))
theorem c_LdtideOf {E : jEnv} {n : Nat} (x : Int32) (h : HP)  : jC E mX2_tideOf n [.ref 3, .int x] h (fun v h2 => v = some (.int (f_LdtideOf (h.1 3 2) x)) ∧ h2 = h) :=
  jC.of (lv := [some (.ref 3), some (.int x)]) (by decide) (Nat.le_of_ble_eq_true rfl) ⟨rfl, rfl, trivial⟩ (q_LdtideOf_0 x h (fun c1 => ⟨(congrArg (fun z => some (Value.int z)) (Eq.symm (by first | (rw [f_LdtideOf, if_pos c1]; done) | (simp [f_LdtideOf, c1]; done)))), rfl⟩) (fun c1 c2 => ⟨(congrArg (fun z => some (Value.int z)) (Eq.symm (by first | (rw [f_LdtideOf, if_neg c1, if_pos c2]; done) | (simp [f_LdtideOf, c1, c2]; done)))), rfl⟩) (fun c1 c2 => ⟨(congrArg (fun z => some (Value.int z)) (Eq.symm (by first | (rw [f_LdtideOf, if_neg c1, if_neg c2]; done) | (simp [f_LdtideOf, c1, c2]; done)))), rfl⟩))

theorem q_Fsforget_0 {E : jEnv} {n : Nat} {X : State → Prop} {Post : Option Value → HP → Prop}  (h : HP)
    (k0 : Post none (jPI (jPI h 30 2 (-1)) 30 3 0))
    : jG E mX1_forget n X Post 0 [some (.ref 30)] [] h := by
  refine jr_aload_n (pc' := 1) (i := 0) dX1_forget_0 rfl rfl rfl ?_
  refine jr_iconst (pc' := 2) (v := (-1)) dX1_forget_1 rfl (by decide) ?_
  refine jr_putI (pc' := 5) jK1 (k := 30) (j := 2) wfX1_9 dX1_forget_2 rfl (by decide) rfl (by decide) (by decide) rfl rfl rfl ?_
  refine jr_aload_n (pc' := 6) (i := 0) dX1_forget_5 rfl rfl rfl ?_
  refine jr_iconst (pc' := 7) (v := 0) dX1_forget_6 rfl (by decide) ?_
  refine jr_putI (pc' := 10) jK1 (k := 30) (j := 3) wfX1_15 dX1_forget_7 rfl (by decide) rfl (by decide) (by decide) rfl rfl rfl ?_
  exact jr_vret dX1_forget_10 rfl (k0)
theorem c_Fsforget {E : jEnv} {n : Nat}  (h : HP)  : jC E mX1_forget n [.ref 30] h (fun v h2 => v = none ∧ h2 = (jPI (jPI h 30 2 (-1)) 30 3 0)) :=
  jC.of (lv := [some (.ref 30)]) (by decide) (Nat.le_of_ble_eq_true rfl) ⟨rfl, trivial⟩ (q_Fsforget_0  h (⟨rfl, rfl⟩))

theorem q_Shfault_0 {E : jEnv} {n : Nat} {X : State → Prop} {Post : Option Value → HP → Prop}  (h : HP)
    (k0 : Post (some (.int (h.1 10 3))) h)
    : jG E mX7_fault n X Post 0 [some (.ref 0)] [] h := by
  refine jr_aload_n (pc' := 1) (i := 0) dX7_fault_0 rfl rfl rfl ?_
  refine jr_get (pc' := 4) jK7 (k := 0) (j := 2) (v := .ref 10) wfX7_28 dX7_fault_1 rfl (by decide) rfl (by decide) rfl ?_
  refine jr_get (pc' := 7) jK3 (k := 10) (j := 3) (v := .int (h.1 10 3)) wfX7_110 dX7_fault_4 rfl (by decide) rfl (by decide) rfl ?_
  exact jr_iret dX7_fault_7 rfl rfl (k0)
def f_Shfault (f10_3 : Int32)  : Int32 := f10_3
theorem c_Shfault {E : jEnv} {n : Nat}  (h : HP)  : jC E mX7_fault n [.ref 0] h (fun v h2 => v = some (.int (f_Shfault (h.1 10 3))) ∧ h2 = h) :=
  jC.of (lv := [some (.ref 0)]) (by decide) (Nat.le_of_ble_eq_true rfl) ⟨rfl, trivial⟩ (q_Shfault_0  h (⟨(congrArg (fun z => some (Value.int z)) (Eq.symm rfl)), rfl⟩))

theorem q_LdrowOf_0 {E : jEnv} {n : Nat} {X : State → Prop} {Post : Option Value → HP → Prop} (x : Int32) (h : HP)
    (k0 : ((h.1 3 0) ≤ 0) → Post (some (.int 0)) h)
    (k1 : (¬ (h.1 3 0) ≤ 0) → Post (some (.int (x / (h.1 3 0)))) h)
    : jG E mX2_rowOf n X Post 0 [some (.ref 3), some (.int x)] [] h := by
  refine jr_aload_n (pc' := 1) (i := 0) dX2_rowOf_0 rfl rfl rfl ?_
  refine jr_get (pc' := 4) jK2 (k := 3) (j := 0) (v := .int (h.1 3 0)) wfX2_9 dX2_rowOf_1 rfl (by decide) rfl (by decide) rfl ?_
  by_cases c1 : (h.1 3 0) ≤ 0
  · refine jr_if_leT (pc' := 16) dX2_rowOf_4 rfl c1 ?_
    refine jr_iconst (pc' := 17) (v := 0) dX2_rowOf_16 rfl (by decide) ?_
    exact jr_iret dX2_rowOf_17 rfl rfl (k0 c1)
  · refine jr_if_leF (pc' := 7) (tgt := 16) dX2_rowOf_4 rfl rfl c1 ?_
    refine jr_iload_n (pc' := 8) (i := 1) dX2_rowOf_7 rfl rfl rfl ?_
    refine jr_aload_n (pc' := 9) (i := 0) dX2_rowOf_8 rfl rfl rfl ?_
    refine jr_get (pc' := 12) jK2 (k := 3) (j := 0) (v := .int (h.1 3 0)) wfX2_9 dX2_rowOf_9 rfl (by decide) rfl (by decide) rfl ?_
    refine jr_idiv (pc' := 13)  dX2_rowOf_12 rfl (jnz c1) ?_
    refine jr_goto (pc' := 17) dX2_rowOf_13 rfl ?_
    exact jr_iret dX2_rowOf_17 rfl rfl (k1 c1)
def f_LdrowOf (f3_0 : Int32) (x : Int32) : Int32 := (if (f3_0) ≤ 0 then 0 else (x / (f3_0)))
theorem c_LdrowOf {E : jEnv} {n : Nat} (x : Int32) (h : HP)  : jC E mX2_rowOf n [.ref 3, .int x] h (fun v h2 => v = some (.int (f_LdrowOf (h.1 3 0) x)) ∧ h2 = h) :=
  jC.of (lv := [some (.ref 3), some (.int x)]) (by decide) (Nat.le_of_ble_eq_true rfl) ⟨rfl, rfl, trivial⟩ (q_LdrowOf_0 x h (fun c1 => ⟨(congrArg (fun z => some (Value.int z)) (Eq.symm (by first | (rw [f_LdrowOf, if_pos c1]; done) | (simp [f_LdrowOf, c1]; done)))), rfl⟩) (fun c1 => ⟨(congrArg (fun z => some (Value.int z)) (Eq.symm (by first | (rw [f_LdrowOf, if_neg c1]; done) | (simp [f_LdrowOf, c1]; done)))), rfl⟩))

theorem q_LdisCell_0 {E : jEnv} {n : Nat} {X : State → Prop} {Post : Option Value → HP → Prop} (x : Int32) (y : Int32) (h : HP)
    (k0 : (x < 0) → Post (some (.int 0)) h)
    (k1 : (¬ x < 0) → ((h.1 3 0) ≤ x) → Post (some (.int 0)) h)
    (k2 : (¬ x < 0) → (¬ (h.1 3 0) ≤ x) → (y < 0) → Post (some (.int 0)) h)
    (k3 : (¬ x < 0) → (¬ (h.1 3 0) ≤ x) → (¬ y < 0) → ((h.1 3 1) ≤ y) → Post (some (.int 0)) h)
    (k4 : (¬ x < 0) → (¬ (h.1 3 0) ≤ x) → (¬ y < 0) → (¬ (h.1 3 1) ≤ y) → Post (some (.int 1)) h)
    : jG E mX2_isCell n X Post 0 [some (.ref 3), some (.int x), some (.int y)] [] h := by
  refine jr_iload_n (pc' := 1) (i := 1) dX2_isCell_0 rfl rfl rfl ?_
  by_cases c1 : x < 0
  · refine jr_if_ltT (pc' := 28) dX2_isCell_1 rfl c1 ?_
    refine jr_iconst (pc' := 29) (v := 0) dX2_isCell_28 rfl (by decide) ?_
    exact jr_iret dX2_isCell_29 rfl rfl (k0 c1)
  · refine jr_if_ltF (pc' := 4) (tgt := 28) dX2_isCell_1 rfl rfl c1 ?_
    refine jr_iload_n (pc' := 5) (i := 1) dX2_isCell_4 rfl rfl rfl ?_
    refine jr_aload_n (pc' := 6) (i := 0) dX2_isCell_5 rfl rfl rfl ?_
    refine jr_get (pc' := 9) jK2 (k := 3) (j := 0) (v := .int (h.1 3 0)) wfX2_9 dX2_isCell_6 rfl (by decide) rfl (by decide) rfl ?_
    by_cases c2 : (h.1 3 0) ≤ x
    · refine jr_icmp_geT (pc' := 28) dX2_isCell_9 rfl c2 ?_
      refine jr_iconst (pc' := 29) (v := 0) dX2_isCell_28 rfl (by decide) ?_
      exact jr_iret dX2_isCell_29 rfl rfl (k1 c1 c2)
    · refine jr_icmp_geF (pc' := 12) (tgt := 28) dX2_isCell_9 rfl rfl c2 ?_
      refine jr_iload_n (pc' := 13) (i := 2) dX2_isCell_12 rfl rfl rfl ?_
      by_cases c3 : y < 0
      · refine jr_if_ltT (pc' := 28) dX2_isCell_13 rfl c3 ?_
        refine jr_iconst (pc' := 29) (v := 0) dX2_isCell_28 rfl (by decide) ?_
        exact jr_iret dX2_isCell_29 rfl rfl (k2 c1 c2 c3)
      · refine jr_if_ltF (pc' := 16) (tgt := 28) dX2_isCell_13 rfl rfl c3 ?_
        refine jr_iload_n (pc' := 17) (i := 2) dX2_isCell_16 rfl rfl rfl ?_
        refine jr_aload_n (pc' := 18) (i := 0) dX2_isCell_17 rfl rfl rfl ?_
        refine jr_get (pc' := 21) jK2 (k := 3) (j := 1) (v := .int (h.1 3 1)) wfX2_15 dX2_isCell_18 rfl (by decide) rfl (by decide) rfl ?_
        by_cases c4 : (h.1 3 1) ≤ y
        · refine jr_icmp_geT (pc' := 28) dX2_isCell_21 rfl c4 ?_
          refine jr_iconst (pc' := 29) (v := 0) dX2_isCell_28 rfl (by decide) ?_
          exact jr_iret dX2_isCell_29 rfl rfl (k3 c1 c2 c3 c4)
        · refine jr_icmp_geF (pc' := 24) (tgt := 28) dX2_isCell_21 rfl rfl c4 ?_
          refine jr_iconst (pc' := 25) (v := 1) dX2_isCell_24 rfl (by decide) ?_
          refine jr_goto (pc' := 29) dX2_isCell_25 rfl ?_
          exact jr_iret dX2_isCell_29 rfl rfl (k4 c1 c2 c3 c4)
def f_LdisCell (f3_0 : Int32) (f3_1 : Int32) (x : Int32) (y : Int32) : Int32 := (if x < 0 then 0 else (if (f3_0) ≤ x then 0 else (if y < 0 then 0 else (if (f3_1) ≤ y then 0 else 1))))
theorem c_LdisCell {E : jEnv} {n : Nat} (x : Int32) (y : Int32) (h : HP)  : jC E mX2_isCell n [.ref 3, .int x, .int y] h (fun v h2 => v = some (.int (f_LdisCell (h.1 3 0) (h.1 3 1) x y)) ∧ h2 = h) :=
  jC.of (lv := [some (.ref 3), some (.int x), some (.int y)]) (by decide) (Nat.le_of_ble_eq_true rfl) ⟨rfl, rfl, rfl, trivial⟩ (q_LdisCell_0 x y h (fun c1 => ⟨(congrArg (fun z => some (Value.int z)) (Eq.symm (by first | (rw [f_LdisCell, if_pos c1]; done) | (simp [f_LdisCell, c1]; done)))), rfl⟩) (fun c1 c2 => ⟨(congrArg (fun z => some (Value.int z)) (Eq.symm (by first | (rw [f_LdisCell, if_neg c1, if_pos c2]; done) | (simp [f_LdisCell, c1, c2]; done)))), rfl⟩) (fun c1 c2 c3 => ⟨(congrArg (fun z => some (Value.int z)) (Eq.symm (by first | (rw [f_LdisCell, if_neg c1, if_neg c2, if_pos c3]; done) | (simp [f_LdisCell, c1, c2, c3]; done)))), rfl⟩) (fun c1 c2 c3 c4 => ⟨(congrArg (fun z => some (Value.int z)) (Eq.symm (by first | (rw [f_LdisCell, if_neg c1, if_neg c2, if_neg c3, if_pos c4]; done) | (simp [f_LdisCell, c1, c2, c3, c4]; done)))), rfl⟩) (fun c1 c2 c3 c4 => ⟨(congrArg (fun z => some (Value.int z)) (Eq.symm (by first | (rw [f_LdisCell, if_neg c1, if_neg c2, if_neg c3, if_neg c4]; done) | (simp [f_LdisCell, c1, c2, c3, c4]; done)))), rfl⟩))

theorem q_LdisMan_0 {E : jEnv} {n : Nat} {X : State → Prop} {Post : Option Value → HP → Prop} (x : Int32) (h : HP)
    (k0 : (x < 0) → Post (some (.int 0)) h)
    (k1 : (¬ x < 0) → ((h.1 3 3) ≤ x) → Post (some (.int 0)) h)
    (k2 : (¬ x < 0) → (¬ (h.1 3 3) ≤ x) → Post (some (.int 1)) h)
    : jG E mX2_isMan n X Post 0 [some (.ref 3), some (.int x)] [] h := by
  refine jr_iload_n (pc' := 1) (i := 1) dX2_isMan_0 rfl rfl rfl ?_
  by_cases c1 : x < 0
  · refine jr_if_ltT (pc' := 16) dX2_isMan_1 rfl c1 ?_
    refine jr_iconst (pc' := 17) (v := 0) dX2_isMan_16 rfl (by decide) ?_
    exact jr_iret dX2_isMan_17 rfl rfl (k0 c1)
  · refine jr_if_ltF (pc' := 4) (tgt := 16) dX2_isMan_1 rfl rfl c1 ?_
    refine jr_iload_n (pc' := 5) (i := 1) dX2_isMan_4 rfl rfl rfl ?_
    refine jr_aload_n (pc' := 6) (i := 0) dX2_isMan_5 rfl rfl rfl ?_
    refine jr_get (pc' := 9) jK2 (k := 3) (j := 3) (v := .int (h.1 3 3)) wfX2_21 dX2_isMan_6 rfl (by decide) rfl (by decide) rfl ?_
    by_cases c2 : (h.1 3 3) ≤ x
    · refine jr_icmp_geT (pc' := 16) dX2_isMan_9 rfl c2 ?_
      refine jr_iconst (pc' := 17) (v := 0) dX2_isMan_16 rfl (by decide) ?_
      exact jr_iret dX2_isMan_17 rfl rfl (k1 c1 c2)
    · refine jr_icmp_geF (pc' := 12) (tgt := 16) dX2_isMan_9 rfl rfl c2 ?_
      refine jr_iconst (pc' := 13) (v := 1) dX2_isMan_12 rfl (by decide) ?_
      refine jr_goto (pc' := 17) dX2_isMan_13 rfl ?_
      exact jr_iret dX2_isMan_17 rfl rfl (k2 c1 c2)
def f_LdisMan (f3_3 : Int32) (x : Int32) : Int32 := (if x < 0 then 0 else (if (f3_3) ≤ x then 0 else 1))
theorem c_LdisMan {E : jEnv} {n : Nat} (x : Int32) (h : HP)  : jC E mX2_isMan n [.ref 3, .int x] h (fun v h2 => v = some (.int (f_LdisMan (h.1 3 3) x)) ∧ h2 = h) :=
  jC.of (lv := [some (.ref 3), some (.int x)]) (by decide) (Nat.le_of_ble_eq_true rfl) ⟨rfl, rfl, trivial⟩ (q_LdisMan_0 x h (fun c1 => ⟨(congrArg (fun z => some (Value.int z)) (Eq.symm (by first | (rw [f_LdisMan, if_pos c1]; done) | (simp [f_LdisMan, c1]; done)))), rfl⟩) (fun c1 c2 => ⟨(congrArg (fun z => some (Value.int z)) (Eq.symm (by first | (rw [f_LdisMan, if_neg c1, if_pos c2]; done) | (simp [f_LdisMan, c1, c2]; done)))), rfl⟩) (fun c1 c2 => ⟨(congrArg (fun z => some (Value.int z)) (Eq.symm (by first | (rw [f_LdisMan, if_neg c1, if_neg c2]; done) | (simp [f_LdisMan, c1, c2]; done)))), rfl⟩))

theorem q_ShisWay_0 {E : jEnv} {n : Nat} {X : State → Prop} {Post : Option Value → HP → Prop} (x : Int32) (h : HP)
    (k0 : (x < 0) → Post (some (.int 0)) h)
    (k1 : (¬ x < 0) → ((4 : Int32) < x) → Post (some (.int 0)) h)
    (k2 : (¬ x < 0) → (¬ (4 : Int32) < x) → Post (some (.int 1)) h)
    : jG E mX7_isWay n X Post 0 [some (.int x)] [] h := by
  refine jr_iload_n (pc' := 1) (i := 0) dX7_isWay_0 rfl rfl rfl ?_
  by_cases c1 : x < 0
  · refine jr_if_ltT (pc' := 13) dX7_isWay_1 rfl c1 ?_
    refine jr_iconst (pc' := 14) (v := 0) dX7_isWay_13 rfl (by decide) ?_
    exact jr_iret dX7_isWay_14 rfl rfl (k0 c1)
  · refine jr_if_ltF (pc' := 4) (tgt := 13) dX7_isWay_1 rfl rfl c1 ?_
    refine jr_iload_n (pc' := 5) (i := 0) dX7_isWay_4 rfl rfl rfl ?_
    refine jr_iconst (pc' := 6) (v := 4) dX7_isWay_5 rfl (by decide) ?_
    by_cases c2 : (4 : Int32) < x
    · refine jr_icmp_gtT (pc' := 13) dX7_isWay_6 rfl c2 ?_
      refine jr_iconst (pc' := 14) (v := 0) dX7_isWay_13 rfl (by decide) ?_
      exact jr_iret dX7_isWay_14 rfl rfl (k1 c1 c2)
    · refine jr_icmp_gtF (pc' := 9) (tgt := 13) dX7_isWay_6 rfl rfl c2 ?_
      refine jr_iconst (pc' := 10) (v := 1) dX7_isWay_9 rfl (by decide) ?_
      refine jr_goto (pc' := 14) dX7_isWay_10 rfl ?_
      exact jr_iret dX7_isWay_14 rfl rfl (k2 c1 c2)
def f_ShisWay  (x : Int32) : Int32 := (if x < 0 then 0 else (if (4 : Int32) < x then 0 else 1))
theorem c_ShisWay {E : jEnv} {n : Nat} (x : Int32) (h : HP)  : jC E mX7_isWay n [.int x] h (fun v h2 => v = some (.int (f_ShisWay x)) ∧ h2 = h) :=
  jC.of (lv := [some (.int x)]) (by decide) (Nat.le_of_ble_eq_true rfl) ⟨rfl, trivial⟩ (q_ShisWay_0 x h (fun c1 => ⟨(congrArg (fun z => some (Value.int z)) (Eq.symm (by first | (rw [f_ShisWay, if_pos c1]; done) | (simp [f_ShisWay, c1]; done)))), rfl⟩) (fun c1 c2 => ⟨(congrArg (fun z => some (Value.int z)) (Eq.symm (by first | (rw [f_ShisWay, if_neg c1, if_pos c2]; done) | (simp [f_ShisWay, c1, c2]; done)))), rfl⟩) (fun c1 c2 => ⟨(congrArg (fun z => some (Value.int z)) (Eq.symm (by first | (rw [f_ShisWay, if_neg c1, if_neg c2]; done) | (simp [f_ShisWay, c1, c2]; done)))), rfl⟩))

set_option maxRecDepth 4000 in
theorem q_Ldbeside_0 {E : jEnv} {n : Nat} {X : State → Prop} {Post : Option Value → HP → Prop} (x : Int32) (y : Int32) (h : HP)
    (k0 : (y.toInt < 1 ∨ 4 < y.toInt) → ((f_LdisCell (h.1 3 0) (h.1 3 1) (f_LdcolumnOf (h.1 3 0) x) (f_LdrowOf (h.1 3 0) x)) = 0) → Post (some (.int (-1))) h)
    (k1 : (y.toInt < 1 ∨ 4 < y.toInt) → (¬ (f_LdisCell (h.1 3 0) (h.1 3 1) (f_LdcolumnOf (h.1 3 0) x) (f_LdrowOf (h.1 3 0) x)) = 0) → Post (some (.int (f_LdcellOf3 (h.1 3 0) (f_LdcolumnOf (h.1 3 0) x) (f_LdrowOf (h.1 3 0) x)))) h)
    (k2 : (y.toInt = 1) → ((f_LdisCell (h.1 3 0) (h.1 3 1) (f_LdcolumnOf (h.1 3 0) x) ((f_LdrowOf (h.1 3 0) x) + (-1))) = 0) → Post (some (.int (-1))) h)
    (k3 : (y.toInt = 1) → (¬ (f_LdisCell (h.1 3 0) (h.1 3 1) (f_LdcolumnOf (h.1 3 0) x) ((f_LdrowOf (h.1 3 0) x) + (-1))) = 0) → Post (some (.int (f_LdcellOf3 (h.1 3 0) (f_LdcolumnOf (h.1 3 0) x) ((f_LdrowOf (h.1 3 0) x) + (-1))))) h)
    (k4 : (y.toInt = 2) → ((f_LdisCell (h.1 3 0) (h.1 3 1) ((f_LdcolumnOf (h.1 3 0) x) + 1) (f_LdrowOf (h.1 3 0) x)) = 0) → Post (some (.int (-1))) h)
    (k5 : (y.toInt = 2) → (¬ (f_LdisCell (h.1 3 0) (h.1 3 1) ((f_LdcolumnOf (h.1 3 0) x) + 1) (f_LdrowOf (h.1 3 0) x)) = 0) → Post (some (.int (f_LdcellOf3 (h.1 3 0) ((f_LdcolumnOf (h.1 3 0) x) + 1) (f_LdrowOf (h.1 3 0) x)))) h)
    (k6 : (y.toInt = 3) → ((f_LdisCell (h.1 3 0) (h.1 3 1) (f_LdcolumnOf (h.1 3 0) x) ((f_LdrowOf (h.1 3 0) x) + 1)) = 0) → Post (some (.int (-1))) h)
    (k7 : (y.toInt = 3) → (¬ (f_LdisCell (h.1 3 0) (h.1 3 1) (f_LdcolumnOf (h.1 3 0) x) ((f_LdrowOf (h.1 3 0) x) + 1)) = 0) → Post (some (.int (f_LdcellOf3 (h.1 3 0) (f_LdcolumnOf (h.1 3 0) x) ((f_LdrowOf (h.1 3 0) x) + 1)))) h)
    (k8 : (y.toInt = 4) → ((f_LdisCell (h.1 3 0) (h.1 3 1) ((f_LdcolumnOf (h.1 3 0) x) + (-1)) (f_LdrowOf (h.1 3 0) x)) = 0) → Post (some (.int (-1))) h)
    (k9 : (y.toInt = 4) → (¬ (f_LdisCell (h.1 3 0) (h.1 3 1) ((f_LdcolumnOf (h.1 3 0) x) + (-1)) (f_LdrowOf (h.1 3 0) x)) = 0) → Post (some (.int (f_LdcellOf3 (h.1 3 0) ((f_LdcolumnOf (h.1 3 0) x) + (-1)) (f_LdrowOf (h.1 3 0) x)))) h)
    : jG E mX2_beside (n + 1) X Post 0 [some (.ref 3), some (.int x), some (.int y), none, none] [] h := by
  refine jr_aload_n (pc' := 1) (i := 0) dX2_beside_0 rfl rfl rfl ?_
  refine jr_iload_n (pc' := 2) (i := 1) dX2_beside_1 rfl rfl rfl ?_
  refine jr_callV (pc' := 5) (k := 3) (av := [.int x]) (st := []) sX2_columnOf wmX2_79 dX2_beside_2 rfl (by decide) rfl (by decide) rfl rfl rfl (Nat.le_of_ble_eq_true rfl) rfl (c_LdcolumnOf (n := n) x h ) (fun v h2 hp => ?_)
  rw [hp.1, hp.2]
  show jG E mX2_beside (n + 1) X Post 5 [some (.ref 3), some (.int x), some (.int y), none, none] [.int (f_LdcolumnOf (h.1 3 0) x)] h
  refine jr_istore_n (pc' := 6) (i := 3) (lv' := [some (.ref 3), some (.int x), some (.int y), some (.int (f_LdcolumnOf (h.1 3 0) x)), none]) dX2_beside_5 rfl rfl (by decide) rfl ?_
  refine jr_aload_n (pc' := 7) (i := 0) dX2_beside_6 rfl rfl rfl ?_
  refine jr_iload_n (pc' := 8) (i := 1) dX2_beside_7 rfl rfl rfl ?_
  refine jr_callV (pc' := 11) (k := 3) (av := [.int x]) (st := []) sX2_rowOf wmX2_91 dX2_beside_8 rfl (by decide) rfl (by decide) rfl rfl rfl (Nat.le_of_ble_eq_true rfl) rfl (c_LdrowOf (n := n) x h ) (fun v h2 hp => ?_)
  rw [hp.1, hp.2]
  show jG E mX2_beside (n + 1) X Post 11 [some (.ref 3), some (.int x), some (.int y), some (.int (f_LdcolumnOf (h.1 3 0) x)), none] [.int (f_LdrowOf (h.1 3 0) x)] h
  refine jr_istore (pc' := 13) (i := 4) (lv' := [some (.ref 3), some (.int x), some (.int y), some (.int (f_LdcolumnOf (h.1 3 0) x)), some (.int (f_LdrowOf (h.1 3 0) x))]) dX2_beside_11 rfl (by decide) rfl ?_
  refine jr_iload_n (pc' := 14) (i := 2) dX2_beside_13 rfl rfl rfl ?_
  by_cases c1 : y.toInt < 1 ∨ 4 < y.toInt
  · refine jr_tabOut (pc' := 68) dX2_beside_14 c1 rfl ?_
    refine jr_aload_n (pc' := 69) (i := 0) dX2_beside_68 rfl rfl rfl ?_
    refine jr_iload_n (pc' := 70) (i := 3) dX2_beside_69 rfl rfl rfl ?_
    refine jr_iload (pc' := 72) (i := 4) dX2_beside_70 rfl rfl ?_
    refine jr_callV (pc' := 75) (k := 3) (av := [.int (f_LdcolumnOf (h.1 3 0) x), .int (f_LdrowOf (h.1 3 0) x)]) (st := []) sX2_isCell wmX2_104 dX2_beside_72 rfl (by decide) rfl (by decide) rfl rfl rfl (Nat.le_of_ble_eq_true rfl) rfl (c_LdisCell (n := n) (f_LdcolumnOf (h.1 3 0) x) (f_LdrowOf (h.1 3 0) x) h ) (fun v h2 hp => ?_)
    rw [hp.1, hp.2]
    show jG E mX2_beside (n + 1) X Post 75 [some (.ref 3), some (.int x), some (.int y), some (.int (f_LdcolumnOf (h.1 3 0) x)), some (.int (f_LdrowOf (h.1 3 0) x))] [.int (f_LdisCell (h.1 3 0) (h.1 3 1) (f_LdcolumnOf (h.1 3 0) x) (f_LdrowOf (h.1 3 0) x))] h
    by_cases c2 : (f_LdisCell (h.1 3 0) (h.1 3 1) (f_LdcolumnOf (h.1 3 0) x) (f_LdrowOf (h.1 3 0) x)) = 0
    · refine jr_if_eqT (pc' := 88) dX2_beside_75 rfl c2 ?_
      refine jr_iconst (pc' := 89) (v := (-1)) dX2_beside_88 rfl (by decide) ?_
      exact jr_iret dX2_beside_89 rfl rfl (k0 c1 c2)
    · refine jr_if_eqF (pc' := 78) (tgt := 88) dX2_beside_75 rfl rfl c2 ?_
      refine jr_aload_n (pc' := 79) (i := 0) dX2_beside_78 rfl rfl rfl ?_
      refine jr_iload_n (pc' := 80) (i := 3) dX2_beside_79 rfl rfl rfl ?_
      refine jr_iload (pc' := 82) (i := 4) dX2_beside_80 rfl rfl ?_
      refine jr_callV (pc' := 85) (k := 3) (av := [.int (f_LdcolumnOf (h.1 3 0) x), .int (f_LdrowOf (h.1 3 0) x)]) (st := []) sX2_cellOf wmX2_108 dX2_beside_82 rfl (by decide) rfl (by decide) rfl rfl rfl (Nat.le_of_ble_eq_true rfl) rfl (c_LdcellOf3 (n := n) (f_LdcolumnOf (h.1 3 0) x) (f_LdrowOf (h.1 3 0) x) h ) (fun v h2 hp => ?_)
      rw [hp.1, hp.2]
      show jG E mX2_beside (n + 1) X Post 85 [some (.ref 3), some (.int x), some (.int y), some (.int (f_LdcolumnOf (h.1 3 0) x)), some (.int (f_LdrowOf (h.1 3 0) x))] [.int (f_LdcellOf3 (h.1 3 0) (f_LdcolumnOf (h.1 3 0) x) (f_LdrowOf (h.1 3 0) x))] h
      refine jr_goto (pc' := 89) dX2_beside_85 rfl ?_
      exact jr_iret dX2_beside_89 rfl rfl (k1 c1 c2)
  · have c1x : y.toInt = 1 ∨ y.toInt = 2 ∨ y.toInt = 3 ∨ y.toInt = 4 := by omega
    rcases c1x with c1x | c1x | c1x | c1x
    · refine jr_tabIn (pc' := 44) (off := 30) dX2_beside_14 (by omega) (by omega) (by rw [c1x]; rfl) rfl ?_
      refine jr_iinc (pc' := 47) (i := 4) (v := ((f_LdrowOf (h.1 3 0) x) + (-1))) (lv' := [some (.ref 3), some (.int x), some (.int y), some (.int (f_LdcolumnOf (h.1 3 0) x)), some (.int ((f_LdrowOf (h.1 3 0) x) + (-1)))]) dX2_beside_44 rfl rfl (congrArg ((f_LdrowOf (h.1 3 0) x) + ·) (by decide)) (by decide) rfl ?_
      refine jr_goto (pc' := 68) dX2_beside_47 rfl ?_
      refine jr_aload_n (pc' := 69) (i := 0) dX2_beside_68 rfl rfl rfl ?_
      refine jr_iload_n (pc' := 70) (i := 3) dX2_beside_69 rfl rfl rfl ?_
      refine jr_iload (pc' := 72) (i := 4) dX2_beside_70 rfl rfl ?_
      refine jr_callV (pc' := 75) (k := 3) (av := [.int (f_LdcolumnOf (h.1 3 0) x), .int ((f_LdrowOf (h.1 3 0) x) + (-1))]) (st := []) sX2_isCell wmX2_104 dX2_beside_72 rfl (by decide) rfl (by decide) rfl rfl rfl (Nat.le_of_ble_eq_true rfl) rfl (c_LdisCell (n := n) (f_LdcolumnOf (h.1 3 0) x) ((f_LdrowOf (h.1 3 0) x) + (-1)) h ) (fun v h2 hp => ?_)
      rw [hp.1, hp.2]
      show jG E mX2_beside (n + 1) X Post 75 [some (.ref 3), some (.int x), some (.int y), some (.int (f_LdcolumnOf (h.1 3 0) x)), some (.int ((f_LdrowOf (h.1 3 0) x) + (-1)))] [.int (f_LdisCell (h.1 3 0) (h.1 3 1) (f_LdcolumnOf (h.1 3 0) x) ((f_LdrowOf (h.1 3 0) x) + (-1)))] h
      by_cases c3 : (f_LdisCell (h.1 3 0) (h.1 3 1) (f_LdcolumnOf (h.1 3 0) x) ((f_LdrowOf (h.1 3 0) x) + (-1))) = 0
      · refine jr_if_eqT (pc' := 88) dX2_beside_75 rfl c3 ?_
        refine jr_iconst (pc' := 89) (v := (-1)) dX2_beside_88 rfl (by decide) ?_
        exact jr_iret dX2_beside_89 rfl rfl (k2 c1x c3)
      · refine jr_if_eqF (pc' := 78) (tgt := 88) dX2_beside_75 rfl rfl c3 ?_
        refine jr_aload_n (pc' := 79) (i := 0) dX2_beside_78 rfl rfl rfl ?_
        refine jr_iload_n (pc' := 80) (i := 3) dX2_beside_79 rfl rfl rfl ?_
        refine jr_iload (pc' := 82) (i := 4) dX2_beside_80 rfl rfl ?_
        refine jr_callV (pc' := 85) (k := 3) (av := [.int (f_LdcolumnOf (h.1 3 0) x), .int ((f_LdrowOf (h.1 3 0) x) + (-1))]) (st := []) sX2_cellOf wmX2_108 dX2_beside_82 rfl (by decide) rfl (by decide) rfl rfl rfl (Nat.le_of_ble_eq_true rfl) rfl (c_LdcellOf3 (n := n) (f_LdcolumnOf (h.1 3 0) x) ((f_LdrowOf (h.1 3 0) x) + (-1)) h ) (fun v h2 hp => ?_)
        rw [hp.1, hp.2]
        show jG E mX2_beside (n + 1) X Post 85 [some (.ref 3), some (.int x), some (.int y), some (.int (f_LdcolumnOf (h.1 3 0) x)), some (.int ((f_LdrowOf (h.1 3 0) x) + (-1)))] [.int (f_LdcellOf3 (h.1 3 0) (f_LdcolumnOf (h.1 3 0) x) ((f_LdrowOf (h.1 3 0) x) + (-1)))] h
        refine jr_goto (pc' := 89) dX2_beside_85 rfl ?_
        exact jr_iret dX2_beside_89 rfl rfl (k3 c1x c3)
    · refine jr_tabIn (pc' := 50) (off := 36) dX2_beside_14 (by omega) (by omega) (by rw [c1x]; rfl) rfl ?_
      refine jr_iinc (pc' := 53) (i := 3) (v := ((f_LdcolumnOf (h.1 3 0) x) + 1)) (lv' := [some (.ref 3), some (.int x), some (.int y), some (.int ((f_LdcolumnOf (h.1 3 0) x) + 1)), some (.int (f_LdrowOf (h.1 3 0) x))]) dX2_beside_50 rfl rfl (congrArg ((f_LdcolumnOf (h.1 3 0) x) + ·) (by decide)) (by decide) rfl ?_
      refine jr_goto (pc' := 68) dX2_beside_53 rfl ?_
      refine jr_aload_n (pc' := 69) (i := 0) dX2_beside_68 rfl rfl rfl ?_
      refine jr_iload_n (pc' := 70) (i := 3) dX2_beside_69 rfl rfl rfl ?_
      refine jr_iload (pc' := 72) (i := 4) dX2_beside_70 rfl rfl ?_
      refine jr_callV (pc' := 75) (k := 3) (av := [.int ((f_LdcolumnOf (h.1 3 0) x) + 1), .int (f_LdrowOf (h.1 3 0) x)]) (st := []) sX2_isCell wmX2_104 dX2_beside_72 rfl (by decide) rfl (by decide) rfl rfl rfl (Nat.le_of_ble_eq_true rfl) rfl (c_LdisCell (n := n) ((f_LdcolumnOf (h.1 3 0) x) + 1) (f_LdrowOf (h.1 3 0) x) h ) (fun v h2 hp => ?_)
      rw [hp.1, hp.2]
      show jG E mX2_beside (n + 1) X Post 75 [some (.ref 3), some (.int x), some (.int y), some (.int ((f_LdcolumnOf (h.1 3 0) x) + 1)), some (.int (f_LdrowOf (h.1 3 0) x))] [.int (f_LdisCell (h.1 3 0) (h.1 3 1) ((f_LdcolumnOf (h.1 3 0) x) + 1) (f_LdrowOf (h.1 3 0) x))] h
      by_cases c4 : (f_LdisCell (h.1 3 0) (h.1 3 1) ((f_LdcolumnOf (h.1 3 0) x) + 1) (f_LdrowOf (h.1 3 0) x)) = 0
      · refine jr_if_eqT (pc' := 88) dX2_beside_75 rfl c4 ?_
        refine jr_iconst (pc' := 89) (v := (-1)) dX2_beside_88 rfl (by decide) ?_
        exact jr_iret dX2_beside_89 rfl rfl (k4 c1x c4)
      · refine jr_if_eqF (pc' := 78) (tgt := 88) dX2_beside_75 rfl rfl c4 ?_
        refine jr_aload_n (pc' := 79) (i := 0) dX2_beside_78 rfl rfl rfl ?_
        refine jr_iload_n (pc' := 80) (i := 3) dX2_beside_79 rfl rfl rfl ?_
        refine jr_iload (pc' := 82) (i := 4) dX2_beside_80 rfl rfl ?_
        refine jr_callV (pc' := 85) (k := 3) (av := [.int ((f_LdcolumnOf (h.1 3 0) x) + 1), .int (f_LdrowOf (h.1 3 0) x)]) (st := []) sX2_cellOf wmX2_108 dX2_beside_82 rfl (by decide) rfl (by decide) rfl rfl rfl (Nat.le_of_ble_eq_true rfl) rfl (c_LdcellOf3 (n := n) ((f_LdcolumnOf (h.1 3 0) x) + 1) (f_LdrowOf (h.1 3 0) x) h ) (fun v h2 hp => ?_)
        rw [hp.1, hp.2]
        show jG E mX2_beside (n + 1) X Post 85 [some (.ref 3), some (.int x), some (.int y), some (.int ((f_LdcolumnOf (h.1 3 0) x) + 1)), some (.int (f_LdrowOf (h.1 3 0) x))] [.int (f_LdcellOf3 (h.1 3 0) ((f_LdcolumnOf (h.1 3 0) x) + 1) (f_LdrowOf (h.1 3 0) x))] h
        refine jr_goto (pc' := 89) dX2_beside_85 rfl ?_
        exact jr_iret dX2_beside_89 rfl rfl (k5 c1x c4)
    · refine jr_tabIn (pc' := 56) (off := 42) dX2_beside_14 (by omega) (by omega) (by rw [c1x]; rfl) rfl ?_
      refine jr_iinc (pc' := 59) (i := 4) (v := ((f_LdrowOf (h.1 3 0) x) + 1)) (lv' := [some (.ref 3), some (.int x), some (.int y), some (.int (f_LdcolumnOf (h.1 3 0) x)), some (.int ((f_LdrowOf (h.1 3 0) x) + 1))]) dX2_beside_56 rfl rfl (congrArg ((f_LdrowOf (h.1 3 0) x) + ·) (by decide)) (by decide) rfl ?_
      refine jr_goto (pc' := 68) dX2_beside_59 rfl ?_
      refine jr_aload_n (pc' := 69) (i := 0) dX2_beside_68 rfl rfl rfl ?_
      refine jr_iload_n (pc' := 70) (i := 3) dX2_beside_69 rfl rfl rfl ?_
      refine jr_iload (pc' := 72) (i := 4) dX2_beside_70 rfl rfl ?_
      refine jr_callV (pc' := 75) (k := 3) (av := [.int (f_LdcolumnOf (h.1 3 0) x), .int ((f_LdrowOf (h.1 3 0) x) + 1)]) (st := []) sX2_isCell wmX2_104 dX2_beside_72 rfl (by decide) rfl (by decide) rfl rfl rfl (Nat.le_of_ble_eq_true rfl) rfl (c_LdisCell (n := n) (f_LdcolumnOf (h.1 3 0) x) ((f_LdrowOf (h.1 3 0) x) + 1) h ) (fun v h2 hp => ?_)
      rw [hp.1, hp.2]
      show jG E mX2_beside (n + 1) X Post 75 [some (.ref 3), some (.int x), some (.int y), some (.int (f_LdcolumnOf (h.1 3 0) x)), some (.int ((f_LdrowOf (h.1 3 0) x) + 1))] [.int (f_LdisCell (h.1 3 0) (h.1 3 1) (f_LdcolumnOf (h.1 3 0) x) ((f_LdrowOf (h.1 3 0) x) + 1))] h
      by_cases c5 : (f_LdisCell (h.1 3 0) (h.1 3 1) (f_LdcolumnOf (h.1 3 0) x) ((f_LdrowOf (h.1 3 0) x) + 1)) = 0
      · refine jr_if_eqT (pc' := 88) dX2_beside_75 rfl c5 ?_
        refine jr_iconst (pc' := 89) (v := (-1)) dX2_beside_88 rfl (by decide) ?_
        exact jr_iret dX2_beside_89 rfl rfl (k6 c1x c5)
      · refine jr_if_eqF (pc' := 78) (tgt := 88) dX2_beside_75 rfl rfl c5 ?_
        refine jr_aload_n (pc' := 79) (i := 0) dX2_beside_78 rfl rfl rfl ?_
        refine jr_iload_n (pc' := 80) (i := 3) dX2_beside_79 rfl rfl rfl ?_
        refine jr_iload (pc' := 82) (i := 4) dX2_beside_80 rfl rfl ?_
        refine jr_callV (pc' := 85) (k := 3) (av := [.int (f_LdcolumnOf (h.1 3 0) x), .int ((f_LdrowOf (h.1 3 0) x) + 1)]) (st := []) sX2_cellOf wmX2_108 dX2_beside_82 rfl (by decide) rfl (by decide) rfl rfl rfl (Nat.le_of_ble_eq_true rfl) rfl (c_LdcellOf3 (n := n) (f_LdcolumnOf (h.1 3 0) x) ((f_LdrowOf (h.1 3 0) x) + 1) h ) (fun v h2 hp => ?_)
        rw [hp.1, hp.2]
        show jG E mX2_beside (n + 1) X Post 85 [some (.ref 3), some (.int x), some (.int y), some (.int (f_LdcolumnOf (h.1 3 0) x)), some (.int ((f_LdrowOf (h.1 3 0) x) + 1))] [.int (f_LdcellOf3 (h.1 3 0) (f_LdcolumnOf (h.1 3 0) x) ((f_LdrowOf (h.1 3 0) x) + 1))] h
        refine jr_goto (pc' := 89) dX2_beside_85 rfl ?_
        exact jr_iret dX2_beside_89 rfl rfl (k7 c1x c5)
    · refine jr_tabIn (pc' := 62) (off := 48) dX2_beside_14 (by omega) (by omega) (by rw [c1x]; rfl) rfl ?_
      refine jr_iinc (pc' := 65) (i := 3) (v := ((f_LdcolumnOf (h.1 3 0) x) + (-1))) (lv' := [some (.ref 3), some (.int x), some (.int y), some (.int ((f_LdcolumnOf (h.1 3 0) x) + (-1))), some (.int (f_LdrowOf (h.1 3 0) x))]) dX2_beside_62 rfl rfl (congrArg ((f_LdcolumnOf (h.1 3 0) x) + ·) (by decide)) (by decide) rfl ?_
      refine jr_goto (pc' := 68) dX2_beside_65 rfl ?_
      refine jr_aload_n (pc' := 69) (i := 0) dX2_beside_68 rfl rfl rfl ?_
      refine jr_iload_n (pc' := 70) (i := 3) dX2_beside_69 rfl rfl rfl ?_
      refine jr_iload (pc' := 72) (i := 4) dX2_beside_70 rfl rfl ?_
      refine jr_callV (pc' := 75) (k := 3) (av := [.int ((f_LdcolumnOf (h.1 3 0) x) + (-1)), .int (f_LdrowOf (h.1 3 0) x)]) (st := []) sX2_isCell wmX2_104 dX2_beside_72 rfl (by decide) rfl (by decide) rfl rfl rfl (Nat.le_of_ble_eq_true rfl) rfl (c_LdisCell (n := n) ((f_LdcolumnOf (h.1 3 0) x) + (-1)) (f_LdrowOf (h.1 3 0) x) h ) (fun v h2 hp => ?_)
      rw [hp.1, hp.2]
      show jG E mX2_beside (n + 1) X Post 75 [some (.ref 3), some (.int x), some (.int y), some (.int ((f_LdcolumnOf (h.1 3 0) x) + (-1))), some (.int (f_LdrowOf (h.1 3 0) x))] [.int (f_LdisCell (h.1 3 0) (h.1 3 1) ((f_LdcolumnOf (h.1 3 0) x) + (-1)) (f_LdrowOf (h.1 3 0) x))] h
      by_cases c6 : (f_LdisCell (h.1 3 0) (h.1 3 1) ((f_LdcolumnOf (h.1 3 0) x) + (-1)) (f_LdrowOf (h.1 3 0) x)) = 0
      · refine jr_if_eqT (pc' := 88) dX2_beside_75 rfl c6 ?_
        refine jr_iconst (pc' := 89) (v := (-1)) dX2_beside_88 rfl (by decide) ?_
        exact jr_iret dX2_beside_89 rfl rfl (k8 c1x c6)
      · refine jr_if_eqF (pc' := 78) (tgt := 88) dX2_beside_75 rfl rfl c6 ?_
        refine jr_aload_n (pc' := 79) (i := 0) dX2_beside_78 rfl rfl rfl ?_
        refine jr_iload_n (pc' := 80) (i := 3) dX2_beside_79 rfl rfl rfl ?_
        refine jr_iload (pc' := 82) (i := 4) dX2_beside_80 rfl rfl ?_
        refine jr_callV (pc' := 85) (k := 3) (av := [.int ((f_LdcolumnOf (h.1 3 0) x) + (-1)), .int (f_LdrowOf (h.1 3 0) x)]) (st := []) sX2_cellOf wmX2_108 dX2_beside_82 rfl (by decide) rfl (by decide) rfl rfl rfl (Nat.le_of_ble_eq_true rfl) rfl (c_LdcellOf3 (n := n) ((f_LdcolumnOf (h.1 3 0) x) + (-1)) (f_LdrowOf (h.1 3 0) x) h ) (fun v h2 hp => ?_)
        rw [hp.1, hp.2]
        show jG E mX2_beside (n + 1) X Post 85 [some (.ref 3), some (.int x), some (.int y), some (.int ((f_LdcolumnOf (h.1 3 0) x) + (-1))), some (.int (f_LdrowOf (h.1 3 0) x))] [.int (f_LdcellOf3 (h.1 3 0) ((f_LdcolumnOf (h.1 3 0) x) + (-1)) (f_LdrowOf (h.1 3 0) x))] h
        refine jr_goto (pc' := 89) dX2_beside_85 rfl ?_
        exact jr_iret dX2_beside_89 rfl rfl (k9 c1x c6)
def f_Ldbeside (f3_0 : Int32) (f3_1 : Int32) (x : Int32) (y : Int32) : Int32 := (if y.toInt < 1 ∨ 4 < y.toInt then (if (f_LdisCell (f3_0) (f3_1) (f_LdcolumnOf (f3_0) x) (f_LdrowOf (f3_0) x)) = 0 then (-1) else (f_LdcellOf3 (f3_0) (f_LdcolumnOf (f3_0) x) (f_LdrowOf (f3_0) x))) else (if y.toInt = 1 then (if (f_LdisCell (f3_0) (f3_1) (f_LdcolumnOf (f3_0) x) ((f_LdrowOf (f3_0) x) + (-1))) = 0 then (-1) else (f_LdcellOf3 (f3_0) (f_LdcolumnOf (f3_0) x) ((f_LdrowOf (f3_0) x) + (-1)))) else (if y.toInt = 2 then (if (f_LdisCell (f3_0) (f3_1) ((f_LdcolumnOf (f3_0) x) + 1) (f_LdrowOf (f3_0) x)) = 0 then (-1) else (f_LdcellOf3 (f3_0) ((f_LdcolumnOf (f3_0) x) + 1) (f_LdrowOf (f3_0) x))) else (if y.toInt = 3 then (if (f_LdisCell (f3_0) (f3_1) (f_LdcolumnOf (f3_0) x) ((f_LdrowOf (f3_0) x) + 1)) = 0 then (-1) else (f_LdcellOf3 (f3_0) (f_LdcolumnOf (f3_0) x) ((f_LdrowOf (f3_0) x) + 1))) else (if (f_LdisCell (f3_0) (f3_1) ((f_LdcolumnOf (f3_0) x) + (-1)) (f_LdrowOf (f3_0) x)) = 0 then (-1) else (f_LdcellOf3 (f3_0) ((f_LdcolumnOf (f3_0) x) + (-1)) (f_LdrowOf (f3_0) x)))))))
theorem c_Ldbeside {E : jEnv} {n : Nat} (x : Int32) (y : Int32) (h : HP)  : jC E mX2_beside (n + 1) [.ref 3, .int x, .int y] h (fun v h2 => v = some (.int (f_Ldbeside (h.1 3 0) (h.1 3 1) x y)) ∧ h2 = h) :=
  jC.of (lv := [some (.ref 3), some (.int x), some (.int y), none, none]) (by decide) (Nat.le_of_ble_eq_true rfl) ⟨rfl, rfl, rfl, trivial⟩ (q_Ldbeside_0 x y h (fun c1 c2 => ⟨(congrArg (fun z => some (Value.int z)) (Eq.symm (by first | (rw [f_Ldbeside, if_pos c1, if_pos c2]; done) | (simp [f_Ldbeside, c1, c2]; done)))), rfl⟩) (fun c1 c2 => ⟨(congrArg (fun z => some (Value.int z)) (Eq.symm (by first | (rw [f_Ldbeside, if_pos c1, if_neg c2]; done) | (simp [f_Ldbeside, c1, c2]; done)))), rfl⟩) (fun c1x c3 => ⟨(congrArg (fun z => some (Value.int z)) (Eq.symm (by first | (rw [f_Ldbeside, if_pos c1x, if_pos c3]; done) | (simp [f_Ldbeside, c1x, c3]; done)))), rfl⟩) (fun c1x c3 => ⟨(congrArg (fun z => some (Value.int z)) (Eq.symm (by first | (rw [f_Ldbeside, if_pos c1x, if_neg c3]; done) | (simp [f_Ldbeside, c1x, c3]; done)))), rfl⟩) (fun c1x c4 => ⟨(congrArg (fun z => some (Value.int z)) (Eq.symm (by first | (rw [f_Ldbeside, if_pos c1x, if_pos c4]; done) | (simp [f_Ldbeside, c1x, c4]; done)))), rfl⟩) (fun c1x c4 => ⟨(congrArg (fun z => some (Value.int z)) (Eq.symm (by first | (rw [f_Ldbeside, if_pos c1x, if_neg c4]; done) | (simp [f_Ldbeside, c1x, c4]; done)))), rfl⟩) (fun c1x c5 => ⟨(congrArg (fun z => some (Value.int z)) (Eq.symm (by first | (rw [f_Ldbeside, if_pos c1x, if_pos c5]; done) | (simp [f_Ldbeside, c1x, c5]; done)))), rfl⟩) (fun c1x c5 => ⟨(congrArg (fun z => some (Value.int z)) (Eq.symm (by first | (rw [f_Ldbeside, if_pos c1x, if_neg c5]; done) | (simp [f_Ldbeside, c1x, c5]; done)))), rfl⟩) (fun c1x c6 => ⟨(congrArg (fun z => some (Value.int z)) (Eq.symm (by first | (rw [f_Ldbeside, if_pos c1x, if_pos c6]; done) | (simp [f_Ldbeside, c1x, c6]; done)))), rfl⟩) (fun c1x c6 => ⟨(congrArg (fun z => some (Value.int z)) (Eq.symm (by first | (rw [f_Ldbeside, if_pos c1x, if_neg c6]; done) | (simp [f_Ldbeside, c1x, c6]; done)))), rfl⟩))

theorem q_Shsaw_0 {E : jEnv} {n : Nat} {X : State → Prop} {Post : Option Value → HP → Prop} (x : Int32) (y : Int32) (h : HP)
    (k0 : ((f_LdisMan (h.1 3 3) x) = 0) → Post (some (.int (-1000000001))) h)
    (k1 : (¬ (f_LdisMan (h.1 3 3) x) = 0) → (y < 0) → Post (some (.int (-1000000002))) h)
    (b0 : (¬ (f_LdisMan (h.1 3 3) x) = 0) → (¬ y < 0) → (y ≤ 6) → vp_in x 4)
    (b1 : (¬ (f_LdisMan (h.1 3 3) x) = 0) → (¬ y < 0) → (y ≤ 6) → vp_in x 4)
    (k2 : (¬ (f_LdisMan (h.1 3 3) x) = 0) → (¬ y < 0) → (y ≤ 6) → Post (some (.int (h.1 20 x.toNatClampNeg))) (jPI h 20 x.toNatClampNeg y))
    (k3 : (¬ (f_LdisMan (h.1 3 3) x) = 0) → (¬ y < 0) → (¬ y ≤ 6) → Post (some (.int (-1000000002))) h)
    : jG E mX7_saw (n + 1) X Post 0 [some (.ref 0), some (.int x), some (.int y), none] [] h := by
  refine jr_aload_n (pc' := 1) (i := 0) dX7_saw_0 rfl rfl rfl ?_
  refine jr_get (pc' := 4) jK7 (k := 0) (j := 1) (v := .ref 3) wfX7_19 dX7_saw_1 rfl (by decide) rfl (by decide) rfl ?_
  refine jr_iload_n (pc' := 5) (i := 1) dX7_saw_4 rfl rfl rfl ?_
  refine jr_callV (pc' := 8) (k := 3) (av := [.int x]) (st := []) sX2_isMan wmX7_154 dX7_saw_5 rfl (by decide) rfl (by decide) rfl rfl rfl (Nat.le_of_ble_eq_true rfl) rfl (c_LdisMan (n := n) x h ) (fun v h2 hp => ?_)
  rw [hp.1, hp.2]
  show jG E mX7_saw (n + 1) X Post 8 [some (.ref 0), some (.int x), some (.int y), none] [.int (f_LdisMan (h.1 3 3) x)] h
  by_cases c1 : (f_LdisMan (h.1 3 3) x) = 0
  · refine jr_if_neF (pc' := 11) (tgt := 14) dX7_saw_8 rfl rfl c1 ?_
    refine jr_ldc (pc' := 13) (v := (-1000000001)) dX7_saw_11 rfl wcX7_146 ?_
    exact jr_iret dX7_saw_13 rfl rfl (k0 c1)
  · refine jr_if_neT (pc' := 14) dX7_saw_8 rfl c1 ?_
    refine jr_iload_n (pc' := 15) (i := 2) dX7_saw_14 rfl rfl rfl ?_
    by_cases c2 : y < 0
    · refine jr_if_ltT (pc' := 24) dX7_saw_15 rfl c2 ?_
      refine jr_ldc (pc' := 26) (v := (-1000000002)) dX7_saw_24 rfl wcX7_74 ?_
      exact jr_iret dX7_saw_26 rfl rfl (k1 c1 c2)
    · refine jr_if_ltF (pc' := 18) (tgt := 24) dX7_saw_15 rfl rfl c2 ?_
      refine jr_iload_n (pc' := 19) (i := 2) dX7_saw_18 rfl rfl rfl ?_
      refine jr_bipush (pc' := 21) (v := 6) dX7_saw_19 rfl (by decide) ?_
      by_cases c3 : y ≤ 6
      · refine jr_icmp_leT (pc' := 27) dX7_saw_21 rfl c3 ?_
        refine jr_aload_n (pc' := 28) (i := 0) dX7_saw_27 rfl rfl rfl ?_
        refine jr_get (pc' := 31) jK7 (k := 0) (j := 3) (v := .ref 18) wfX7_37 dX7_saw_28 rfl (by decide) rfl (by decide) rfl ?_
        refine jr_get (pc' := 34) jK5 (k := 18) (j := 5) (v := .ref 20) wfX7_168 dX7_saw_31 rfl (by decide) rfl (by decide) rfl ?_
        refine jr_iload_n (pc' := 35) (i := 1) dX7_saw_34 rfl rfl rfl ?_
        refine jr_iald (pc' := 36) (v := h.1 20 x.toNatClampNeg) dX7_saw_35 rfl (by decide) rfl (b0 c1 c2 c3) rfl ?_
        refine jr_istore_n (pc' := 37) (i := 3) (lv' := [some (.ref 0), some (.int x), some (.int y), some (.int (h.1 20 x.toNatClampNeg))]) dX7_saw_36 rfl rfl (by decide) rfl ?_
        refine jr_aload_n (pc' := 38) (i := 0) dX7_saw_37 rfl rfl rfl ?_
        refine jr_get (pc' := 41) jK7 (k := 0) (j := 3) (v := .ref 18) wfX7_37 dX7_saw_38 rfl (by decide) rfl (by decide) rfl ?_
        refine jr_get (pc' := 44) jK5 (k := 18) (j := 5) (v := .ref 20) wfX7_168 dX7_saw_41 rfl (by decide) rfl (by decide) rfl ?_
        refine jr_iload_n (pc' := 45) (i := 1) dX7_saw_44 rfl rfl rfl ?_
        refine jr_iload_n (pc' := 46) (i := 2) dX7_saw_45 rfl rfl rfl ?_
        refine jr_iast (pc' := 47) (j := x.toNatClampNeg) dX7_saw_46 rfl (by decide) rfl (b1 c1 c2 c3) rfl ?_
        refine jr_iload_n (pc' := 48) (i := 3) dX7_saw_47 rfl rfl rfl ?_
        exact jr_iret dX7_saw_48 rfl rfl (k2 c1 c2 c3)
      · refine jr_icmp_leF (pc' := 24) (tgt := 27) dX7_saw_21 rfl rfl c3 ?_
        refine jr_ldc (pc' := 26) (v := (-1000000002)) dX7_saw_24 rfl wcX7_74 ?_
        exact jr_iret dX7_saw_26 rfl rfl (k3 c1 c2 c3)
def f_Shsaw (f3_3 : Int32) (r20 : Nat → Int32) (x : Int32) (y : Int32) : Int32 := (if (f_LdisMan (f3_3) x) = 0 then (-1000000001) else (if y < 0 then (-1000000002) else (if y ≤ 6 then r20 x.toNatClampNeg else (-1000000002))))
def H_Shsaw (h : HP) (x : Int32) (y : Int32) : HP := (if (f_LdisMan (h.1 3 3) x) = 0 then h else (if y < 0 then h else (if y ≤ 6 then (jPI h 20 x.toNatClampNeg y) else h)))
theorem c_Shsaw {E : jEnv} {n : Nat} (x : Int32) (y : Int32) (h : HP) (b0 : (¬ (f_LdisMan (h.1 3 3) x) = 0) → (¬ y < 0) → (y ≤ 6) → vp_in x 4) (b1 : (¬ (f_LdisMan (h.1 3 3) x) = 0) → (¬ y < 0) → (y ≤ 6) → vp_in x 4) : jC E mX7_saw (n + 1) [.ref 0, .int x, .int y] h (fun v h2 => v = some (.int (f_Shsaw (h.1 3 3) (h.1 20) x y)) ∧ h2 = (H_Shsaw h x y)) :=
  jC.of (lv := [some (.ref 0), some (.int x), some (.int y), none]) (by decide) (Nat.le_of_ble_eq_true rfl) ⟨rfl, rfl, rfl, trivial⟩ (q_Shsaw_0 x y h (fun c1 => ⟨(congrArg (fun z => some (Value.int z)) (Eq.symm (by first | (rw [f_Shsaw, if_pos c1]; done) | (simp [f_Shsaw, c1]; done)))), (Eq.symm (by first | (rw [H_Shsaw, if_pos c1]; done) | (simp [H_Shsaw, c1]; done)))⟩) (fun c1 c2 => ⟨(congrArg (fun z => some (Value.int z)) (Eq.symm (by first | (rw [f_Shsaw, if_neg c1, if_pos c2]; done) | (simp [f_Shsaw, c1, c2]; done)))), (Eq.symm (by first | (rw [H_Shsaw, if_neg c1, if_pos c2]; done) | (simp [H_Shsaw, c1, c2]; done)))⟩) b0 b1 (fun c1 c2 c3 => ⟨(congrArg (fun z => some (Value.int z)) (Eq.symm (by first | (rw [f_Shsaw, if_neg c1, if_neg c2, if_pos c3]; done) | (simp [f_Shsaw, c1, c2, c3]; done)))), (Eq.symm (by first | (rw [H_Shsaw, if_neg c1, if_neg c2, if_pos c3]; done) | (simp [H_Shsaw, c1, c2, c3]; done)))⟩) (fun c1 c2 c3 => ⟨(congrArg (fun z => some (Value.int z)) (Eq.symm (by first | (rw [f_Shsaw, if_neg c1, if_neg c2, if_neg c3]; done) | (simp [f_Shsaw, c1, c2, c3]; done)))), (Eq.symm (by first | (rw [H_Shsaw, if_neg c1, if_neg c2, if_neg c3]; done) | (simp [H_Shsaw, c1, c2, c3]; done)))⟩))

set_option maxRecDepth 4000 in
theorem q_Shstake_0 {E : jEnv} {n : Nat} {X : State → Prop} {Post : Option Value → HP → Prop} (x : Int32) (y : Int32) (z : Int32) (h : HP)
    (k0 : ((f_LdisCell (h.1 3 0) (h.1 3 1) x y) = 0) → Post (some (.int (-1000000001))) h)
    (k1 : (¬ (f_LdisCell (h.1 3 0) (h.1 3 1) x y) = 0) → (z = 0) → ((f_Shhas (h.2 18 3) (f_LdcellOf3 (h.1 3 0) x y)) = 0) → Post (some (.int 0)) (jPL h 18 3 ((h.2 18 3) &&& ((1 <<< ((f_LdcellOf3 (h.1 3 0) x y).toInt64 &&& 63)) ^^^ (-1)))))
    (k2 : (¬ (f_LdisCell (h.1 3 0) (h.1 3 1) x y) = 0) → (z = 0) → (¬ (f_Shhas (h.2 18 3) (f_LdcellOf3 (h.1 3 0) x y)) = 0) → Post (some (.int 1)) (jPL h 18 3 ((h.2 18 3) &&& ((1 <<< ((f_LdcellOf3 (h.1 3 0) x y).toInt64 &&& 63)) ^^^ (-1)))))
    (k3 : (¬ (f_LdisCell (h.1 3 0) (h.1 3 1) x y) = 0) → (¬ z = 0) → ((f_Shhas (h.2 18 3) (f_LdcellOf3 (h.1 3 0) x y)) = 0) → Post (some (.int 0)) (jPL h 18 3 ((h.2 18 3) ||| (1 <<< ((f_LdcellOf3 (h.1 3 0) x y).toInt64 &&& 63)))))
    (k4 : (¬ (f_LdisCell (h.1 3 0) (h.1 3 1) x y) = 0) → (¬ z = 0) → (¬ (f_Shhas (h.2 18 3) (f_LdcellOf3 (h.1 3 0) x y)) = 0) → Post (some (.int 1)) (jPL h 18 3 ((h.2 18 3) ||| (1 <<< ((f_LdcellOf3 (h.1 3 0) x y).toInt64 &&& 63)))))
    : jG E mX7_stake (n + 1) X Post 0 [some (.ref 0), some (.int x), some (.int y), some (.int z), none, none] [] h := by
  refine jr_aload_n (pc' := 1) (i := 0) dX7_stake_0 rfl rfl rfl ?_
  refine jr_get (pc' := 4) jK7 (k := 0) (j := 1) (v := .ref 3) wfX7_19 dX7_stake_1 rfl (by decide) rfl (by decide) rfl ?_
  refine jr_iload_n (pc' := 5) (i := 1) dX7_stake_4 rfl rfl rfl ?_
  refine jr_iload_n (pc' := 6) (i := 2) dX7_stake_5 rfl rfl rfl ?_
  refine jr_callV (pc' := 9) (k := 3) (av := [.int x, .int y]) (st := []) sX2_isCell wmX7_142 dX7_stake_6 rfl (by decide) rfl (by decide) rfl rfl rfl (Nat.le_of_ble_eq_true rfl) rfl (c_LdisCell (n := n) x y h ) (fun v h2 hp => ?_)
  rw [hp.1, hp.2]
  show jG E mX7_stake (n + 1) X Post 9 [some (.ref 0), some (.int x), some (.int y), some (.int z), none, none] [.int (f_LdisCell (h.1 3 0) (h.1 3 1) x y)] h
  by_cases c1 : (f_LdisCell (h.1 3 0) (h.1 3 1) x y) = 0
  · refine jr_if_neF (pc' := 12) (tgt := 15) dX7_stake_9 rfl rfl c1 ?_
    refine jr_ldc (pc' := 14) (v := (-1000000001)) dX7_stake_12 rfl wcX7_146 ?_
    exact jr_iret dX7_stake_14 rfl rfl (k0 c1)
  · refine jr_if_neT (pc' := 15) dX7_stake_9 rfl c1 ?_
    refine jr_aload_n (pc' := 16) (i := 0) dX7_stake_15 rfl rfl rfl ?_
    refine jr_get (pc' := 19) jK7 (k := 0) (j := 1) (v := .ref 3) wfX7_19 dX7_stake_16 rfl (by decide) rfl (by decide) rfl ?_
    refine jr_iload_n (pc' := 20) (i := 1) dX7_stake_19 rfl rfl rfl ?_
    refine jr_iload_n (pc' := 21) (i := 2) dX7_stake_20 rfl rfl rfl ?_
    refine jr_callV (pc' := 24) (k := 3) (av := [.int x, .int y]) (st := []) sX2_cellOf wmX7_147 dX7_stake_21 rfl (by decide) rfl (by decide) rfl rfl rfl (Nat.le_of_ble_eq_true rfl) rfl (c_LdcellOf3 (n := n) x y h ) (fun v h2 hp => ?_)
    rw [hp.1, hp.2]
    show jG E mX7_stake (n + 1) X Post 24 [some (.ref 0), some (.int x), some (.int y), some (.int z), none, none] [.int (f_LdcellOf3 (h.1 3 0) x y)] h
    refine jr_istore (pc' := 26) (i := 4) (lv' := [some (.ref 0), some (.int x), some (.int y), some (.int z), some (.int (f_LdcellOf3 (h.1 3 0) x y)), none]) dX7_stake_24 rfl (by decide) rfl ?_
    refine jr_aload_n (pc' := 27) (i := 0) dX7_stake_26 rfl rfl rfl ?_
    refine jr_get (pc' := 30) jK7 (k := 0) (j := 3) (v := .ref 18) wfX7_37 dX7_stake_27 rfl (by decide) rfl (by decide) rfl ?_
    refine jr_get (pc' := 33) jK5 (k := 18) (j := 3) (v := .long (h.2 18 3)) wfX7_190 dX7_stake_30 rfl (by decide) rfl (by decide) rfl ?_
    refine jr_iload (pc' := 35) (i := 4) dX7_stake_33 rfl rfl ?_
    refine jr_callS (pc' := 38) (av := [.long (h.2 18 3), .int (f_LdcellOf3 (h.1 3 0) x y)]) (st := []) sX7_has wmX7_194 dX7_stake_35 rfl rfl (Nat.le_of_ble_eq_true rfl) rfl (c_Shhas (n := n) (h.2 18 3) (f_LdcellOf3 (h.1 3 0) x y) h ) (fun v h2 hp => ?_)
    rw [hp.1, hp.2]
    show jG E mX7_stake (n + 1) X Post 38 [some (.ref 0), some (.int x), some (.int y), some (.int z), some (.int (f_LdcellOf3 (h.1 3 0) x y)), none] [.int (f_Shhas (h.2 18 3) (f_LdcellOf3 (h.1 3 0) x y))] h
    refine jr_istore (pc' := 40) (i := 5) (lv' := [some (.ref 0), some (.int x), some (.int y), some (.int z), some (.int (f_LdcellOf3 (h.1 3 0) x y)), some (.int (f_Shhas (h.2 18 3) (f_LdcellOf3 (h.1 3 0) x y)))]) dX7_stake_38 rfl (by decide) rfl ?_
    refine jr_aload_n (pc' := 41) (i := 0) dX7_stake_40 rfl rfl rfl ?_
    refine jr_get (pc' := 44) jK7 (k := 0) (j := 3) (v := .ref 18) wfX7_37 dX7_stake_41 rfl (by decide) rfl (by decide) rfl ?_
    refine jr_iload_n (pc' := 45) (i := 3) dX7_stake_44 rfl rfl rfl ?_
    by_cases c2 : z = 0
    · refine jr_if_eqT (pc' := 63) dX7_stake_45 rfl c2 ?_
      refine jr_aload_n (pc' := 64) (i := 0) dX7_stake_63 rfl rfl rfl ?_
      refine jr_get (pc' := 67) jK7 (k := 0) (j := 3) (v := .ref 18) wfX7_37 dX7_stake_64 rfl (by decide) rfl (by decide) rfl ?_
      refine jr_get (pc' := 70) jK5 (k := 18) (j := 3) (v := .long (h.2 18 3)) wfX7_190 dX7_stake_67 rfl (by decide) rfl (by decide) rfl ?_
      refine jr_lconst (pc' := 71) (v := 1) dX7_stake_70 rfl (by decide) ?_
      refine jr_iload (pc' := 73) (i := 4) dX7_stake_71 rfl rfl ?_
      refine jr_lshl (pc' := 74)  dX7_stake_73 rfl  ?_
      refine jr_ldc2 (pc' := 77) (v := (-1)) dX7_stake_74 rfl wcX7_198 ?_
      refine jr_lxor (pc' := 78)  dX7_stake_77 rfl  ?_
      refine jr_land (pc' := 79)  dX7_stake_78 rfl  ?_
      refine jr_putL (pc' := 82) jK5 (k := 18) (j := 3) wfX7_190 dX7_stake_79 rfl (by decide) rfl (by decide) rfl rfl rfl rfl ?_
      refine jr_iload (pc' := 84) (i := 5) dX7_stake_82 rfl rfl ?_
      by_cases c3 : (f_Shhas (h.2 18 3) (f_LdcellOf3 (h.1 3 0) x y)) = 0
      · refine jr_if_eqT (pc' := 91) dX7_stake_84 rfl c3 ?_
        refine jr_iconst (pc' := 92) (v := 0) dX7_stake_91 rfl (by decide) ?_
        exact jr_iret dX7_stake_92 rfl rfl (k1 c1 c2 c3)
      · refine jr_if_eqF (pc' := 87) (tgt := 91) dX7_stake_84 rfl rfl c3 ?_
        refine jr_iconst (pc' := 88) (v := 1) dX7_stake_87 rfl (by decide) ?_
        refine jr_goto (pc' := 92) dX7_stake_88 rfl ?_
        exact jr_iret dX7_stake_92 rfl rfl (k2 c1 c2 c3)
    · refine jr_if_eqF (pc' := 48) (tgt := 63) dX7_stake_45 rfl rfl c2 ?_
      refine jr_aload_n (pc' := 49) (i := 0) dX7_stake_48 rfl rfl rfl ?_
      refine jr_get (pc' := 52) jK7 (k := 0) (j := 3) (v := .ref 18) wfX7_37 dX7_stake_49 rfl (by decide) rfl (by decide) rfl ?_
      refine jr_get (pc' := 55) jK5 (k := 18) (j := 3) (v := .long (h.2 18 3)) wfX7_190 dX7_stake_52 rfl (by decide) rfl (by decide) rfl ?_
      refine jr_lconst (pc' := 56) (v := 1) dX7_stake_55 rfl (by decide) ?_
      refine jr_iload (pc' := 58) (i := 4) dX7_stake_56 rfl rfl ?_
      refine jr_lshl (pc' := 59)  dX7_stake_58 rfl  ?_
      refine jr_lor (pc' := 60)  dX7_stake_59 rfl  ?_
      refine jr_goto (pc' := 79) dX7_stake_60 rfl ?_
      refine jr_putL (pc' := 82) jK5 (k := 18) (j := 3) wfX7_190 dX7_stake_79 rfl (by decide) rfl (by decide) rfl rfl rfl rfl ?_
      refine jr_iload (pc' := 84) (i := 5) dX7_stake_82 rfl rfl ?_
      by_cases c4 : (f_Shhas (h.2 18 3) (f_LdcellOf3 (h.1 3 0) x y)) = 0
      · refine jr_if_eqT (pc' := 91) dX7_stake_84 rfl c4 ?_
        refine jr_iconst (pc' := 92) (v := 0) dX7_stake_91 rfl (by decide) ?_
        exact jr_iret dX7_stake_92 rfl rfl (k3 c1 c2 c4)
      · refine jr_if_eqF (pc' := 87) (tgt := 91) dX7_stake_84 rfl rfl c4 ?_
        refine jr_iconst (pc' := 88) (v := 1) dX7_stake_87 rfl (by decide) ?_
        refine jr_goto (pc' := 92) dX7_stake_88 rfl ?_
        exact jr_iret dX7_stake_92 rfl rfl (k4 c1 c2 c4)
def f_Shstake (f3_0 : Int32) (f3_1 : Int32) (g18_3 : Int64) (x : Int32) (y : Int32) (z : Int32) : Int32 := (if (f_LdisCell (f3_0) (f3_1) x y) = 0 then (-1000000001) else (if z = 0 then (if (f_Shhas (g18_3) (f_LdcellOf3 (f3_0) x y)) = 0 then 0 else 1) else (if (f_Shhas (g18_3) (f_LdcellOf3 (f3_0) x y)) = 0 then 0 else 1)))
def H_Shstake (h : HP) (x : Int32) (y : Int32) (z : Int32) : HP := (if (f_LdisCell (h.1 3 0) (h.1 3 1) x y) = 0 then h else (if z = 0 then (if (f_Shhas (h.2 18 3) (f_LdcellOf3 (h.1 3 0) x y)) = 0 then (jPL h 18 3 ((h.2 18 3) &&& ((1 <<< ((f_LdcellOf3 (h.1 3 0) x y).toInt64 &&& 63)) ^^^ (-1)))) else (jPL h 18 3 ((h.2 18 3) &&& ((1 <<< ((f_LdcellOf3 (h.1 3 0) x y).toInt64 &&& 63)) ^^^ (-1))))) else (if (f_Shhas (h.2 18 3) (f_LdcellOf3 (h.1 3 0) x y)) = 0 then (jPL h 18 3 ((h.2 18 3) ||| (1 <<< ((f_LdcellOf3 (h.1 3 0) x y).toInt64 &&& 63)))) else (jPL h 18 3 ((h.2 18 3) ||| (1 <<< ((f_LdcellOf3 (h.1 3 0) x y).toInt64 &&& 63)))))))
theorem c_Shstake {E : jEnv} {n : Nat} (x : Int32) (y : Int32) (z : Int32) (h : HP)  : jC E mX7_stake (n + 1) [.ref 0, .int x, .int y, .int z] h (fun v h2 => v = some (.int (f_Shstake (h.1 3 0) (h.1 3 1) (h.2 18 3) x y z)) ∧ h2 = (H_Shstake h x y z)) :=
  jC.of (lv := [some (.ref 0), some (.int x), some (.int y), some (.int z), none, none]) (by decide) (Nat.le_of_ble_eq_true rfl) ⟨rfl, rfl, rfl, rfl, trivial⟩ (q_Shstake_0 x y z h (fun c1 => ⟨(congrArg (fun z => some (Value.int z)) (Eq.symm (by first | (rw [f_Shstake, if_pos c1]; done) | (simp [f_Shstake, c1]; done)))), (Eq.symm (by first | (rw [H_Shstake, if_pos c1]; done) | (simp [H_Shstake, c1]; done)))⟩) (fun c1 c2 c3 => ⟨(congrArg (fun z => some (Value.int z)) (Eq.symm (by first | (rw [f_Shstake, if_neg c1, if_pos c2, if_pos c3]; done) | (simp [f_Shstake, c1, c2, c3]; done)))), (Eq.symm (by first | (rw [H_Shstake, if_neg c1, if_pos c2, if_pos c3]; done) | (simp [H_Shstake, c1, c2, c3]; done)))⟩) (fun c1 c2 c3 => ⟨(congrArg (fun z => some (Value.int z)) (Eq.symm (by first | (rw [f_Shstake, if_neg c1, if_pos c2, if_neg c3]; done) | (simp [f_Shstake, c1, c2, c3]; done)))), (Eq.symm (by first | (rw [H_Shstake, if_neg c1, if_pos c2, if_neg c3]; done) | (simp [H_Shstake, c1, c2, c3]; done)))⟩) (fun c1 c2 c4 => ⟨(congrArg (fun z => some (Value.int z)) (Eq.symm (by first | (rw [f_Shstake, if_neg c1, if_neg c2, if_pos c4]; done) | (simp [f_Shstake, c1, c2, c4]; done)))), (Eq.symm (by first | (rw [H_Shstake, if_neg c1, if_neg c2, if_pos c4]; done) | (simp [H_Shstake, c1, c2, c4]; done)))⟩) (fun c1 c2 c4 => ⟨(congrArg (fun z => some (Value.int z)) (Eq.symm (by first | (rw [f_Shstake, if_neg c1, if_neg c2, if_neg c4]; done) | (simp [f_Shstake, c1, c2, c4]; done)))), (Eq.symm (by first | (rw [H_Shstake, if_neg c1, if_neg c2, if_neg c4]; done) | (simp [H_Shstake, c1, c2, c4]; done)))⟩))

theorem q_OltakeAsItIs_0 {E : jEnv} {n : Nat} {X : State → Prop} {Post : Option Value → HP → Prop}  (h : HP)
    (k0 : Post none (jPL (jPA h 25 (va_cpy (h.1 20) (h.1 25) (0 : Int32).toNatClampNeg (0 : Int32).toNatClampNeg (4 : Int32).toNatClampNeg)) 24 3 (h.2 18 3)))
    : jG E mX4_takeAsItIs (n + 1) X Post 0 [some (.ref 24)] [] h := by
  refine jr_aload_n (pc' := 1) (i := 0) dX4_takeAsItIs_0 rfl rfl rfl ?_
  refine jr_get (pc' := 4) jK4 (k := 24) (j := 1) (v := .ref 18) wfX4_46 dX4_takeAsItIs_1 rfl (by decide) rfl (by decide) rfl ?_
  refine jr_get (pc' := 7) jK5 (k := 18) (j := 5) (v := .ref 20) wfX4_50 dX4_takeAsItIs_4 rfl (by decide) rfl (by decide) rfl ?_
  refine jr_iconst (pc' := 8) (v := 0) dX4_takeAsItIs_7 rfl (by decide) ?_
  refine jr_aload_n (pc' := 9) (i := 0) dX4_takeAsItIs_8 rfl rfl rfl ?_
  refine jr_get (pc' := 12) jK4 (k := 24) (j := 2) (v := .ref 25) wfX4_9 dX4_takeAsItIs_9 rfl (by decide) rfl (by decide) rfl ?_
  refine jr_iconst (pc' := 13) (v := 0) dX4_takeAsItIs_12 rfl (by decide) ?_
  refine jr_iconst (pc' := 14) (v := 4) dX4_takeAsItIs_13 rfl (by decide) ?_
  refine jr_copy (pc' := 17) wmX4_55 wAcN wAcS wAcI dX4_takeAsItIs_14 rfl (by omega) (by decide) rfl (by decide) rfl (by decide) (by decide) (by decide) (by decide) (by decide) (Nat.le_of_ble_eq_true rfl) ?_
  refine jr_aload_n (pc' := 18) (i := 0) dX4_takeAsItIs_17 rfl rfl rfl ?_
  refine jr_aload_n (pc' := 19) (i := 0) dX4_takeAsItIs_18 rfl rfl rfl ?_
  refine jr_get (pc' := 22) jK4 (k := 24) (j := 1) (v := .ref 18) wfX4_46 dX4_takeAsItIs_19 rfl (by decide) rfl (by decide) rfl ?_
  refine jr_get (pc' := 25) jK5 (k := 18) (j := 3) (v := .long (h.2 18 3)) wfX4_61 dX4_takeAsItIs_22 rfl (by decide) rfl (by decide) rfl ?_
  refine jr_putL (pc' := 28) jK4 (k := 24) (j := 3) wfX4_15 dX4_takeAsItIs_25 rfl (by decide) rfl (by decide) rfl rfl rfl rfl ?_
  exact jr_vret dX4_takeAsItIs_28 rfl (k0)
theorem c_OltakeAsItIs {E : jEnv} {n : Nat}  (h : HP)  : jC E mX4_takeAsItIs (n + 1) [.ref 24] h (fun v h2 => v = none ∧ h2 = (jPL (jPA h 25 (va_cpy (h.1 20) (h.1 25) (0 : Int32).toNatClampNeg (0 : Int32).toNatClampNeg (4 : Int32).toNatClampNeg)) 24 3 (h.2 18 3))) :=
  jC.of (lv := [some (.ref 24)]) (by decide) (Nat.le_of_ble_eq_true rfl) ⟨rfl, trivial⟩ (q_OltakeAsItIs_0  h (⟨rfl, rfl⟩))

theorem q_LdcellsFor_0 {E : jEnv} {n : Nat} {X : State → Prop} {Post : Option Value → HP → Prop} (x : Int32) (y : Int32) (h : HP)
    (k0 : (((x * 6) + y) < 0) → Post (some (.long 0)) h)
    (k1 : (¬ ((x * 6) + y) < 0) → ((48 : Int32) ≤ ((x * 6) + y)) → Post (some (.long 0)) h)
    (k2 : (¬ ((x * 6) + y) < 0) → (¬ (48 : Int32) ≤ ((x * 6) + y)) → Post (some (.long (h.2 9 (((x * 6) + y).toNatClampNeg)))) h)
    : jG E mX2_cellsFor n X Post 0 [some (.ref 3), some (.int x), some (.int y), none] [] h := by
  refine jr_iload_n (pc' := 1) (i := 1) dX2_cellsFor_0 rfl rfl rfl ?_
  refine jr_bipush (pc' := 3) (v := 6) dX2_cellsFor_1 rfl (by decide) ?_
  refine jr_imul (pc' := 4)  dX2_cellsFor_3 rfl  ?_
  refine jr_iload_n (pc' := 5) (i := 2) dX2_cellsFor_4 rfl rfl rfl ?_
  refine jr_iadd (pc' := 6)  dX2_cellsFor_5 rfl  ?_
  refine jr_istore_n (pc' := 7) (i := 3) (lv' := [some (.ref 3), some (.int x), some (.int y), some (.int ((x * 6) + y))]) dX2_cellsFor_6 rfl rfl (by decide) rfl ?_
  refine jr_iload_n (pc' := 8) (i := 3) dX2_cellsFor_7 rfl rfl rfl ?_
  by_cases c1 : ((x * 6) + y) < 0
  · refine jr_if_ltT (pc' := 29) dX2_cellsFor_8 rfl c1 ?_
    refine jr_lconst (pc' := 30) (v := 0) dX2_cellsFor_29 rfl (by decide) ?_
    exact jr_lret dX2_cellsFor_30 rfl (k0 c1)
  · refine jr_if_ltF (pc' := 11) (tgt := 29) dX2_cellsFor_8 rfl rfl c1 ?_
    refine jr_iload_n (pc' := 12) (i := 3) dX2_cellsFor_11 rfl rfl rfl ?_
    refine jr_aload_n (pc' := 13) (i := 0) dX2_cellsFor_12 rfl rfl rfl ?_
    refine jr_get (pc' := 16) jK2 (k := 3) (j := 14) (v := .ref 9) wfX2_56 dX2_cellsFor_13 rfl (by decide) rfl (by decide) rfl ?_
    refine jr_alenL (pc' := 17) (v := 48) dX2_cellsFor_16 rfl (by decide) rfl (by decide) ?_
    by_cases c2 : (48 : Int32) ≤ ((x * 6) + y)
    · refine jr_icmp_geT (pc' := 29) dX2_cellsFor_17 rfl c2 ?_
      refine jr_lconst (pc' := 30) (v := 0) dX2_cellsFor_29 rfl (by decide) ?_
      exact jr_lret dX2_cellsFor_30 rfl (k1 c1 c2)
    · refine jr_icmp_geF (pc' := 20) (tgt := 29) dX2_cellsFor_17 rfl rfl c2 ?_
      refine jr_aload_n (pc' := 21) (i := 0) dX2_cellsFor_20 rfl rfl rfl ?_
      refine jr_get (pc' := 24) jK2 (k := 3) (j := 14) (v := .ref 9) wfX2_56 dX2_cellsFor_21 rfl (by decide) rfl (by decide) rfl ?_
      refine jr_iload_n (pc' := 25) (i := 3) dX2_cellsFor_24 rfl rfl rfl ?_
      refine jr_lald (pc' := 26) (v := h.2 9 (((x * 6) + y).toNatClampNeg)) dX2_cellsFor_25 rfl (by decide) rfl (jvb c1 c2 (by decide)) rfl ?_
      refine jr_goto (pc' := 30) dX2_cellsFor_26 rfl ?_
      exact jr_lret dX2_cellsFor_30 rfl (k2 c1 c2)
def f_LdcellsFor (R9 : Nat → Int64) (x : Int32) (y : Int32) : Int64 := (if ((x * 6) + y) < 0 then 0 else (if (48 : Int32) ≤ ((x * 6) + y) then 0 else R9 (((x * 6) + y).toNatClampNeg)))
theorem c_LdcellsFor {E : jEnv} {n : Nat} (x : Int32) (y : Int32) (h : HP)  : jC E mX2_cellsFor n [.ref 3, .int x, .int y] h (fun v h2 => v = some (.long (f_LdcellsFor (h.2 9) x y)) ∧ h2 = h) :=
  jC.of (lv := [some (.ref 3), some (.int x), some (.int y), none]) (by decide) (Nat.le_of_ble_eq_true rfl) ⟨rfl, rfl, rfl, trivial⟩ (q_LdcellsFor_0 x y h (fun c1 => ⟨(congrArg (fun z => some (Value.long z)) (Eq.symm (by first | (rw [f_LdcellsFor, if_pos c1]; done) | (simp [f_LdcellsFor, c1]; done)))), rfl⟩) (fun c1 c2 => ⟨(congrArg (fun z => some (Value.long z)) (Eq.symm (by first | (rw [f_LdcellsFor, if_neg c1, if_pos c2]; done) | (simp [f_LdcellsFor, c1, c2]; done)))), rfl⟩) (fun c1 c2 => ⟨(congrArg (fun z => some (Value.long z)) (Eq.symm (by first | (rw [f_LdcellsFor, if_neg c1, if_neg c2]; done) | (simp [f_LdcellsFor, c1, c2]; done)))), rfl⟩))

theorem q_Ldspread_0 {E : jEnv} {n : Nat} {X : State → Prop} {Post : Option Value → HP → Prop} (x : Int64) (y : Int64) (h : HP)
    (k0 : Post (some (.long (x ||| (((((((Int64.toUInt64 x) >>> (((h.1 3 0) : Int32).toInt64.toUInt64 &&& Int64.toUInt64 63)).toInt64) ||| (x <<< ((h.1 3 0).toInt64 &&& 63))) ||| ((x &&& (h.2 3 8)) <<< ((1 : Int32).toInt64 &&& 63))) ||| (((Int64.toUInt64 (x &&& (h.2 3 7))) >>> ((1 : Int32).toInt64.toUInt64 &&& Int64.toUInt64 63)).toInt64)) &&& y)))) h)
    : jG E mX2_spread n X Post 0 [some (.ref 3), some (.long x), none, some (.long y), none, none, none] [] h := by
  refine jr_lload_n (pc' := 1) (i := 1) dX2_spread_0 rfl rfl rfl ?_
  refine jr_aload_n (pc' := 2) (i := 0) dX2_spread_1 rfl rfl rfl ?_
  refine jr_get (pc' := 5) jK2 (k := 3) (j := 0) (v := .int (h.1 3 0)) wfX2_9 dX2_spread_2 rfl (by decide) rfl (by decide) rfl ?_
  refine jr_lushr (pc' := 6)  dX2_spread_5 rfl  ?_
  refine jr_lload_n (pc' := 7) (i := 1) dX2_spread_6 rfl rfl rfl ?_
  refine jr_aload_n (pc' := 8) (i := 0) dX2_spread_7 rfl rfl rfl ?_
  refine jr_get (pc' := 11) jK2 (k := 3) (j := 0) (v := .int (h.1 3 0)) wfX2_9 dX2_spread_8 rfl (by decide) rfl (by decide) rfl ?_
  refine jr_lshl (pc' := 12)  dX2_spread_11 rfl  ?_
  refine jr_lor (pc' := 13)  dX2_spread_12 rfl  ?_
  refine jr_lload_n (pc' := 14) (i := 1) dX2_spread_13 rfl rfl rfl ?_
  refine jr_aload_n (pc' := 15) (i := 0) dX2_spread_14 rfl rfl rfl ?_
  refine jr_get (pc' := 18) jK2 (k := 3) (j := 8) (v := .long (h.2 3 8)) wfX2_37 dX2_spread_15 rfl (by decide) rfl (by decide) rfl ?_
  refine jr_land (pc' := 19)  dX2_spread_18 rfl  ?_
  refine jr_iconst (pc' := 20) (v := 1) dX2_spread_19 rfl (by decide) ?_
  refine jr_lshl (pc' := 21)  dX2_spread_20 rfl  ?_
  refine jr_lor (pc' := 22)  dX2_spread_21 rfl  ?_
  refine jr_lload_n (pc' := 23) (i := 1) dX2_spread_22 rfl rfl rfl ?_
  refine jr_aload_n (pc' := 24) (i := 0) dX2_spread_23 rfl rfl rfl ?_
  refine jr_get (pc' := 27) jK2 (k := 3) (j := 7) (v := .long (h.2 3 7)) wfX2_34 dX2_spread_24 rfl (by decide) rfl (by decide) rfl ?_
  refine jr_land (pc' := 28)  dX2_spread_27 rfl  ?_
  refine jr_iconst (pc' := 29) (v := 1) dX2_spread_28 rfl (by decide) ?_
  refine jr_lushr (pc' := 30)  dX2_spread_29 rfl  ?_
  refine jr_lor (pc' := 31)  dX2_spread_30 rfl  ?_
  refine jr_lstore (pc' := 33) (i := 5) (lv' := [some (.ref 3), some (.long x), none, some (.long y), none, some (.long ((((((Int64.toUInt64 x) >>> (((h.1 3 0) : Int32).toInt64.toUInt64 &&& Int64.toUInt64 63)).toInt64) ||| (x <<< ((h.1 3 0).toInt64 &&& 63))) ||| ((x &&& (h.2 3 8)) <<< ((1 : Int32).toInt64 &&& 63))) ||| (((Int64.toUInt64 (x &&& (h.2 3 7))) >>> ((1 : Int32).toInt64.toUInt64 &&& Int64.toUInt64 63)).toInt64))), none]) dX2_spread_31 rfl (by decide) rfl ?_
  refine jr_lload_n (pc' := 34) (i := 1) dX2_spread_33 rfl rfl rfl ?_
  refine jr_lload (pc' := 36) (i := 5) dX2_spread_34 rfl rfl ?_
  refine jr_lload_n (pc' := 37) (i := 3) dX2_spread_36 rfl rfl rfl ?_
  refine jr_land (pc' := 38)  dX2_spread_37 rfl  ?_
  refine jr_lor (pc' := 39)  dX2_spread_38 rfl  ?_
  exact jr_lret dX2_spread_39 rfl (k0)
def f_Ldspread (f3_0 : Int32) (g3_7 : Int64) (g3_8 : Int64) (x : Int64) (y : Int64) : Int64 := (x ||| (((((((Int64.toUInt64 x) >>> (((f3_0) : Int32).toInt64.toUInt64 &&& Int64.toUInt64 63)).toInt64) ||| (x <<< ((f3_0).toInt64 &&& 63))) ||| ((x &&& (g3_8)) <<< ((1 : Int32).toInt64 &&& 63))) ||| (((Int64.toUInt64 (x &&& (g3_7))) >>> ((1 : Int32).toInt64.toUInt64 &&& Int64.toUInt64 63)).toInt64)) &&& y))
theorem c_Ldspread {E : jEnv} {n : Nat} (x : Int64) (y : Int64) (h : HP)  : jC E mX2_spread n [.ref 3, .long x, .long y] h (fun v h2 => v = some (.long (f_Ldspread (h.1 3 0) (h.2 3 7) (h.2 3 8) x y)) ∧ h2 = h) :=
  jC.of (lv := [some (.ref 3), some (.long x), none, some (.long y), none, none, none]) (by decide) (Nat.le_of_ble_eq_true rfl) ⟨rfl, rfl, rfl, trivial⟩ (q_Ldspread_0 x y h (⟨(congrArg (fun z => some (Value.long z)) (Eq.symm rfl)), rfl⟩))

theorem q_LdisNews_0 {E : jEnv} {n : Nat} {X : State → Prop} {Post : Option Value → HP → Prop} (x : Int32) (h : HP)
    (k0 : (x < 0) → Post (some (.int 0)) h)
    (k1 : (¬ x < 0) → ((h.1 3 4) ≤ x) → Post (some (.int 0)) h)
    (k2 : (¬ x < 0) → (¬ (h.1 3 4) ≤ x) → Post (some (.int 1)) h)
    : jG E mX2_isNews n X Post 0 [some (.ref 3), some (.int x)] [] h := by
  refine jr_iload_n (pc' := 1) (i := 1) dX2_isNews_0 rfl rfl rfl ?_
  by_cases c1 : x < 0
  · refine jr_if_ltT (pc' := 16) dX2_isNews_1 rfl c1 ?_
    refine jr_iconst (pc' := 17) (v := 0) dX2_isNews_16 rfl (by decide) ?_
    exact jr_iret dX2_isNews_17 rfl rfl (k0 c1)
  · refine jr_if_ltF (pc' := 4) (tgt := 16) dX2_isNews_1 rfl rfl c1 ?_
    refine jr_iload_n (pc' := 5) (i := 1) dX2_isNews_4 rfl rfl rfl ?_
    refine jr_aload_n (pc' := 6) (i := 0) dX2_isNews_5 rfl rfl rfl ?_
    refine jr_get (pc' := 9) jK2 (k := 3) (j := 4) (v := .int (h.1 3 4)) wfX2_24 dX2_isNews_6 rfl (by decide) rfl (by decide) rfl ?_
    by_cases c2 : (h.1 3 4) ≤ x
    · refine jr_icmp_geT (pc' := 16) dX2_isNews_9 rfl c2 ?_
      refine jr_iconst (pc' := 17) (v := 0) dX2_isNews_16 rfl (by decide) ?_
      exact jr_iret dX2_isNews_17 rfl rfl (k1 c1 c2)
    · refine jr_icmp_geF (pc' := 12) (tgt := 16) dX2_isNews_9 rfl rfl c2 ?_
      refine jr_iconst (pc' := 13) (v := 1) dX2_isNews_12 rfl (by decide) ?_
      refine jr_goto (pc' := 17) dX2_isNews_13 rfl ?_
      exact jr_iret dX2_isNews_17 rfl rfl (k2 c1 c2)
def f_LdisNews (f3_4 : Int32) (x : Int32) : Int32 := (if x < 0 then 0 else (if (f3_4) ≤ x then 0 else 1))
theorem c_LdisNews {E : jEnv} {n : Nat} (x : Int32) (h : HP)  : jC E mX2_isNews n [.ref 3, .int x] h (fun v h2 => v = some (.int (f_LdisNews (h.1 3 4) x)) ∧ h2 = h) :=
  jC.of (lv := [some (.ref 3), some (.int x)]) (by decide) (Nat.le_of_ble_eq_true rfl) ⟨rfl, rfl, trivial⟩ (q_LdisNews_0 x h (fun c1 => ⟨(congrArg (fun z => some (Value.int z)) (Eq.symm (by first | (rw [f_LdisNews, if_pos c1]; done) | (simp [f_LdisNews, c1]; done)))), rfl⟩) (fun c1 c2 => ⟨(congrArg (fun z => some (Value.int z)) (Eq.symm (by first | (rw [f_LdisNews, if_neg c1, if_pos c2]; done) | (simp [f_LdisNews, c1, c2]; done)))), rfl⟩) (fun c1 c2 => ⟨(congrArg (fun z => some (Value.int z)) (Eq.symm (by first | (rw [f_LdisNews, if_neg c1, if_neg c2]; done) | (simp [f_LdisNews, c1, c2]; done)))), rfl⟩))

theorem q_OlcountNone_0 {E : jEnv} {n : Nat} {X : State → Prop} {Post : Option Value → HP → Prop} (x : Int32) (h : HP)
    (k0 : (x = (-1)) → Post (some (.int 41)) h)
    (k1 : (¬ x = (-1)) → Post (some (.int x)) h)
    : jG E mX4_countNone n X Post 0 [some (.int x)] [] h := by
  refine jr_iload_n (pc' := 1) (i := 0) dX4_countNone_0 rfl rfl rfl ?_
  refine jr_iconst (pc' := 2) (v := (-1)) dX4_countNone_1 rfl (by decide) ?_
  by_cases c1 : x = (-1)
  · refine jr_icmp_neF (pc' := 5) (tgt := 10) dX4_countNone_2 rfl rfl c1 ?_
    refine jr_bipush (pc' := 7) (v := 41) dX4_countNone_5 rfl (by decide) ?_
    refine jr_goto (pc' := 11) dX4_countNone_7 rfl ?_
    exact jr_iret dX4_countNone_11 rfl rfl (k0 c1)
  · refine jr_icmp_neT (pc' := 10) dX4_countNone_2 rfl c1 ?_
    refine jr_iload_n (pc' := 11) (i := 0) dX4_countNone_10 rfl rfl rfl ?_
    exact jr_iret dX4_countNone_11 rfl rfl (k1 c1)
def f_OlcountNone  (x : Int32) : Int32 := (if x = (-1) then 41 else x)
theorem c_OlcountNone {E : jEnv} {n : Nat} (x : Int32) (h : HP)  : jC E mX4_countNone n [.int x] h (fun v h2 => v = some (.int (f_OlcountNone x)) ∧ h2 = h) :=
  jC.of (lv := [some (.int x)]) (by decide) (Nat.le_of_ble_eq_true rfl) ⟨rfl, trivial⟩ (q_OlcountNone_0 x h (fun c1 => ⟨(congrArg (fun z => some (Value.int z)) (Eq.symm (by first | (rw [f_OlcountNone, if_pos c1]; done) | (simp [f_OlcountNone, c1]; done)))), rfl⟩) (fun c1 => ⟨(congrArg (fun z => some (Value.int z)) (Eq.symm (by first | (rw [f_OlcountNone, if_neg c1]; done) | (simp [f_OlcountNone, c1]; done)))), rfl⟩))

theorem q_bitCount_0 {E : jEnv} {n : Nat} {X : State → Prop} {Post : Option Value → HP → Prop} (x : Int64) (h : HP)
    (k0 : Post (some (.int ((((((((((x - ((((Int64.toUInt64 x) >>> ((1 : Int32).toInt64.toUInt64 &&& Int64.toUInt64 63)).toInt64) &&& 6148914691236517205)) &&& 3689348814741910323) + ((((Int64.toUInt64 (x - ((((Int64.toUInt64 x) >>> ((1 : Int32).toInt64.toUInt64 &&& Int64.toUInt64 63)).toInt64) &&& 6148914691236517205))) >>> ((2 : Int32).toInt64.toUInt64 &&& Int64.toUInt64 63)).toInt64) &&& 3689348814741910323)) + (((Int64.toUInt64 (((x - ((((Int64.toUInt64 x) >>> ((1 : Int32).toInt64.toUInt64 &&& Int64.toUInt64 63)).toInt64) &&& 6148914691236517205)) &&& 3689348814741910323) + ((((Int64.toUInt64 (x - ((((Int64.toUInt64 x) >>> ((1 : Int32).toInt64.toUInt64 &&& Int64.toUInt64 63)).toInt64) &&& 6148914691236517205))) >>> ((2 : Int32).toInt64.toUInt64 &&& Int64.toUInt64 63)).toInt64) &&& 3689348814741910323))) >>> ((4 : Int32).toInt64.toUInt64 &&& Int64.toUInt64 63)).toInt64)) &&& 1085102592571150095) + (((Int64.toUInt64 (((((x - ((((Int64.toUInt64 x) >>> ((1 : Int32).toInt64.toUInt64 &&& Int64.toUInt64 63)).toInt64) &&& 6148914691236517205)) &&& 3689348814741910323) + ((((Int64.toUInt64 (x - ((((Int64.toUInt64 x) >>> ((1 : Int32).toInt64.toUInt64 &&& Int64.toUInt64 63)).toInt64) &&& 6148914691236517205))) >>> ((2 : Int32).toInt64.toUInt64 &&& Int64.toUInt64 63)).toInt64) &&& 3689348814741910323)) + (((Int64.toUInt64 (((x - ((((Int64.toUInt64 x) >>> ((1 : Int32).toInt64.toUInt64 &&& Int64.toUInt64 63)).toInt64) &&& 6148914691236517205)) &&& 3689348814741910323) + ((((Int64.toUInt64 (x - ((((Int64.toUInt64 x) >>> ((1 : Int32).toInt64.toUInt64 &&& Int64.toUInt64 63)).toInt64) &&& 6148914691236517205))) >>> ((2 : Int32).toInt64.toUInt64 &&& Int64.toUInt64 63)).toInt64) &&& 3689348814741910323))) >>> ((4 : Int32).toInt64.toUInt64 &&& Int64.toUInt64 63)).toInt64)) &&& 1085102592571150095)) >>> ((8 : Int32).toInt64.toUInt64 &&& Int64.toUInt64 63)).toInt64)) + (((Int64.toUInt64 ((((((x - ((((Int64.toUInt64 x) >>> ((1 : Int32).toInt64.toUInt64 &&& Int64.toUInt64 63)).toInt64) &&& 6148914691236517205)) &&& 3689348814741910323) + ((((Int64.toUInt64 (x - ((((Int64.toUInt64 x) >>> ((1 : Int32).toInt64.toUInt64 &&& Int64.toUInt64 63)).toInt64) &&& 6148914691236517205))) >>> ((2 : Int32).toInt64.toUInt64 &&& Int64.toUInt64 63)).toInt64) &&& 3689348814741910323)) + (((Int64.toUInt64 (((x - ((((Int64.toUInt64 x) >>> ((1 : Int32).toInt64.toUInt64 &&& Int64.toUInt64 63)).toInt64) &&& 6148914691236517205)) &&& 3689348814741910323) + ((((Int64.toUInt64 (x - ((((Int64.toUInt64 x) >>> ((1 : Int32).toInt64.toUInt64 &&& Int64.toUInt64 63)).toInt64) &&& 6148914691236517205))) >>> ((2 : Int32).toInt64.toUInt64 &&& Int64.toUInt64 63)).toInt64) &&& 3689348814741910323))) >>> ((4 : Int32).toInt64.toUInt64 &&& Int64.toUInt64 63)).toInt64)) &&& 1085102592571150095) + (((Int64.toUInt64 (((((x - ((((Int64.toUInt64 x) >>> ((1 : Int32).toInt64.toUInt64 &&& Int64.toUInt64 63)).toInt64) &&& 6148914691236517205)) &&& 3689348814741910323) + ((((Int64.toUInt64 (x - ((((Int64.toUInt64 x) >>> ((1 : Int32).toInt64.toUInt64 &&& Int64.toUInt64 63)).toInt64) &&& 6148914691236517205))) >>> ((2 : Int32).toInt64.toUInt64 &&& Int64.toUInt64 63)).toInt64) &&& 3689348814741910323)) + (((Int64.toUInt64 (((x - ((((Int64.toUInt64 x) >>> ((1 : Int32).toInt64.toUInt64 &&& Int64.toUInt64 63)).toInt64) &&& 6148914691236517205)) &&& 3689348814741910323) + ((((Int64.toUInt64 (x - ((((Int64.toUInt64 x) >>> ((1 : Int32).toInt64.toUInt64 &&& Int64.toUInt64 63)).toInt64) &&& 6148914691236517205))) >>> ((2 : Int32).toInt64.toUInt64 &&& Int64.toUInt64 63)).toInt64) &&& 3689348814741910323))) >>> ((4 : Int32).toInt64.toUInt64 &&& Int64.toUInt64 63)).toInt64)) &&& 1085102592571150095)) >>> ((8 : Int32).toInt64.toUInt64 &&& Int64.toUInt64 63)).toInt64))) >>> ((16 : Int32).toInt64.toUInt64 &&& Int64.toUInt64 63)).toInt64)) + (((Int64.toUInt64 (((((((x - ((((Int64.toUInt64 x) >>> ((1 : Int32).toInt64.toUInt64 &&& Int64.toUInt64 63)).toInt64) &&& 6148914691236517205)) &&& 3689348814741910323) + ((((Int64.toUInt64 (x - ((((Int64.toUInt64 x) >>> ((1 : Int32).toInt64.toUInt64 &&& Int64.toUInt64 63)).toInt64) &&& 6148914691236517205))) >>> ((2 : Int32).toInt64.toUInt64 &&& Int64.toUInt64 63)).toInt64) &&& 3689348814741910323)) + (((Int64.toUInt64 (((x - ((((Int64.toUInt64 x) >>> ((1 : Int32).toInt64.toUInt64 &&& Int64.toUInt64 63)).toInt64) &&& 6148914691236517205)) &&& 3689348814741910323) + ((((Int64.toUInt64 (x - ((((Int64.toUInt64 x) >>> ((1 : Int32).toInt64.toUInt64 &&& Int64.toUInt64 63)).toInt64) &&& 6148914691236517205))) >>> ((2 : Int32).toInt64.toUInt64 &&& Int64.toUInt64 63)).toInt64) &&& 3689348814741910323))) >>> ((4 : Int32).toInt64.toUInt64 &&& Int64.toUInt64 63)).toInt64)) &&& 1085102592571150095) + (((Int64.toUInt64 (((((x - ((((Int64.toUInt64 x) >>> ((1 : Int32).toInt64.toUInt64 &&& Int64.toUInt64 63)).toInt64) &&& 6148914691236517205)) &&& 3689348814741910323) + ((((Int64.toUInt64 (x - ((((Int64.toUInt64 x) >>> ((1 : Int32).toInt64.toUInt64 &&& Int64.toUInt64 63)).toInt64) &&& 6148914691236517205))) >>> ((2 : Int32).toInt64.toUInt64 &&& Int64.toUInt64 63)).toInt64) &&& 3689348814741910323)) + (((Int64.toUInt64 (((x - ((((Int64.toUInt64 x) >>> ((1 : Int32).toInt64.toUInt64 &&& Int64.toUInt64 63)).toInt64) &&& 6148914691236517205)) &&& 3689348814741910323) + ((((Int64.toUInt64 (x - ((((Int64.toUInt64 x) >>> ((1 : Int32).toInt64.toUInt64 &&& Int64.toUInt64 63)).toInt64) &&& 6148914691236517205))) >>> ((2 : Int32).toInt64.toUInt64 &&& Int64.toUInt64 63)).toInt64) &&& 3689348814741910323))) >>> ((4 : Int32).toInt64.toUInt64 &&& Int64.toUInt64 63)).toInt64)) &&& 1085102592571150095)) >>> ((8 : Int32).toInt64.toUInt64 &&& Int64.toUInt64 63)).toInt64)) + (((Int64.toUInt64 ((((((x - ((((Int64.toUInt64 x) >>> ((1 : Int32).toInt64.toUInt64 &&& Int64.toUInt64 63)).toInt64) &&& 6148914691236517205)) &&& 3689348814741910323) + ((((Int64.toUInt64 (x - ((((Int64.toUInt64 x) >>> ((1 : Int32).toInt64.toUInt64 &&& Int64.toUInt64 63)).toInt64) &&& 6148914691236517205))) >>> ((2 : Int32).toInt64.toUInt64 &&& Int64.toUInt64 63)).toInt64) &&& 3689348814741910323)) + (((Int64.toUInt64 (((x - ((((Int64.toUInt64 x) >>> ((1 : Int32).toInt64.toUInt64 &&& Int64.toUInt64 63)).toInt64) &&& 6148914691236517205)) &&& 3689348814741910323) + ((((Int64.toUInt64 (x - ((((Int64.toUInt64 x) >>> ((1 : Int32).toInt64.toUInt64 &&& Int64.toUInt64 63)).toInt64) &&& 6148914691236517205))) >>> ((2 : Int32).toInt64.toUInt64 &&& Int64.toUInt64 63)).toInt64) &&& 3689348814741910323))) >>> ((4 : Int32).toInt64.toUInt64 &&& Int64.toUInt64 63)).toInt64)) &&& 1085102592571150095) + (((Int64.toUInt64 (((((x - ((((Int64.toUInt64 x) >>> ((1 : Int32).toInt64.toUInt64 &&& Int64.toUInt64 63)).toInt64) &&& 6148914691236517205)) &&& 3689348814741910323) + ((((Int64.toUInt64 (x - ((((Int64.toUInt64 x) >>> ((1 : Int32).toInt64.toUInt64 &&& Int64.toUInt64 63)).toInt64) &&& 6148914691236517205))) >>> ((2 : Int32).toInt64.toUInt64 &&& Int64.toUInt64 63)).toInt64) &&& 3689348814741910323)) + (((Int64.toUInt64 (((x - ((((Int64.toUInt64 x) >>> ((1 : Int32).toInt64.toUInt64 &&& Int64.toUInt64 63)).toInt64) &&& 6148914691236517205)) &&& 3689348814741910323) + ((((Int64.toUInt64 (x - ((((Int64.toUInt64 x) >>> ((1 : Int32).toInt64.toUInt64 &&& Int64.toUInt64 63)).toInt64) &&& 6148914691236517205))) >>> ((2 : Int32).toInt64.toUInt64 &&& Int64.toUInt64 63)).toInt64) &&& 3689348814741910323))) >>> ((4 : Int32).toInt64.toUInt64 &&& Int64.toUInt64 63)).toInt64)) &&& 1085102592571150095)) >>> ((8 : Int32).toInt64.toUInt64 &&& Int64.toUInt64 63)).toInt64))) >>> ((16 : Int32).toInt64.toUInt64 &&& Int64.toUInt64 63)).toInt64))) >>> ((32 : Int32).toInt64.toUInt64 &&& Int64.toUInt64 63)).toInt64)).toInt32) &&& 127))) h)
    : jG E mJ13_bitCount_95d88 n X Post 0 [some (.long x), none] [] h := by
  refine jr_lload_n (pc' := 1) (i := 0) dJ13_bitCount_95d88_0 rfl rfl rfl ?_
  refine jr_lload_n (pc' := 2) (i := 0) dJ13_bitCount_95d88_1 rfl rfl rfl ?_
  refine jr_iconst (pc' := 3) (v := 1) dJ13_bitCount_95d88_2 rfl (by decide) ?_
  refine jr_lushr (pc' := 4)  dJ13_bitCount_95d88_3 rfl  ?_
  refine jr_ldc2 (pc' := 7) (v := 6148914691236517205) dJ13_bitCount_95d88_4 rfl wcJ13_314 ?_
  refine jr_land (pc' := 8)  dJ13_bitCount_95d88_7 rfl  ?_
  refine jr_lsub (pc' := 9)  dJ13_bitCount_95d88_8 rfl  ?_
  refine jr_lstore_n (pc' := 10) (i := 0) (lv' := [some (.long (x - ((((Int64.toUInt64 x) >>> ((1 : Int32).toInt64.toUInt64 &&& Int64.toUInt64 63)).toInt64) &&& 6148914691236517205))), none]) dJ13_bitCount_95d88_9 rfl rfl (by decide) rfl ?_
  refine jr_lload_n (pc' := 11) (i := 0) dJ13_bitCount_95d88_10 rfl rfl rfl ?_
  refine jr_ldc2 (pc' := 14) (v := 3689348814741910323) dJ13_bitCount_95d88_11 rfl wcJ13_316 ?_
  refine jr_land (pc' := 15)  dJ13_bitCount_95d88_14 rfl  ?_
  refine jr_lload_n (pc' := 16) (i := 0) dJ13_bitCount_95d88_15 rfl rfl rfl ?_
  refine jr_iconst (pc' := 17) (v := 2) dJ13_bitCount_95d88_16 rfl (by decide) ?_
  refine jr_lushr (pc' := 18)  dJ13_bitCount_95d88_17 rfl  ?_
  refine jr_ldc2 (pc' := 21) (v := 3689348814741910323) dJ13_bitCount_95d88_18 rfl wcJ13_316 ?_
  refine jr_land (pc' := 22)  dJ13_bitCount_95d88_21 rfl  ?_
  refine jr_ladd (pc' := 23)  dJ13_bitCount_95d88_22 rfl  ?_
  refine jr_lstore_n (pc' := 24) (i := 0) (lv' := [some (.long (((x - ((((Int64.toUInt64 x) >>> ((1 : Int32).toInt64.toUInt64 &&& Int64.toUInt64 63)).toInt64) &&& 6148914691236517205)) &&& 3689348814741910323) + ((((Int64.toUInt64 (x - ((((Int64.toUInt64 x) >>> ((1 : Int32).toInt64.toUInt64 &&& Int64.toUInt64 63)).toInt64) &&& 6148914691236517205))) >>> ((2 : Int32).toInt64.toUInt64 &&& Int64.toUInt64 63)).toInt64) &&& 3689348814741910323))), none]) dJ13_bitCount_95d88_23 rfl rfl (by decide) rfl ?_
  refine jr_lload_n (pc' := 25) (i := 0) dJ13_bitCount_95d88_24 rfl rfl rfl ?_
  refine jr_lload_n (pc' := 26) (i := 0) dJ13_bitCount_95d88_25 rfl rfl rfl ?_
  refine jr_iconst (pc' := 27) (v := 4) dJ13_bitCount_95d88_26 rfl (by decide) ?_
  refine jr_lushr (pc' := 28)  dJ13_bitCount_95d88_27 rfl  ?_
  refine jr_ladd (pc' := 29)  dJ13_bitCount_95d88_28 rfl  ?_
  refine jr_ldc2 (pc' := 32) (v := 1085102592571150095) dJ13_bitCount_95d88_29 rfl wcJ13_318 ?_
  refine jr_land (pc' := 33)  dJ13_bitCount_95d88_32 rfl  ?_
  refine jr_lstore_n (pc' := 34) (i := 0) (lv' := [some (.long (((((x - ((((Int64.toUInt64 x) >>> ((1 : Int32).toInt64.toUInt64 &&& Int64.toUInt64 63)).toInt64) &&& 6148914691236517205)) &&& 3689348814741910323) + ((((Int64.toUInt64 (x - ((((Int64.toUInt64 x) >>> ((1 : Int32).toInt64.toUInt64 &&& Int64.toUInt64 63)).toInt64) &&& 6148914691236517205))) >>> ((2 : Int32).toInt64.toUInt64 &&& Int64.toUInt64 63)).toInt64) &&& 3689348814741910323)) + (((Int64.toUInt64 (((x - ((((Int64.toUInt64 x) >>> ((1 : Int32).toInt64.toUInt64 &&& Int64.toUInt64 63)).toInt64) &&& 6148914691236517205)) &&& 3689348814741910323) + ((((Int64.toUInt64 (x - ((((Int64.toUInt64 x) >>> ((1 : Int32).toInt64.toUInt64 &&& Int64.toUInt64 63)).toInt64) &&& 6148914691236517205))) >>> ((2 : Int32).toInt64.toUInt64 &&& Int64.toUInt64 63)).toInt64) &&& 3689348814741910323))) >>> ((4 : Int32).toInt64.toUInt64 &&& Int64.toUInt64 63)).toInt64)) &&& 1085102592571150095)), none]) dJ13_bitCount_95d88_33 rfl rfl (by decide) rfl ?_
  refine jr_lload_n (pc' := 35) (i := 0) dJ13_bitCount_95d88_34 rfl rfl rfl ?_
  refine jr_lload_n (pc' := 36) (i := 0) dJ13_bitCount_95d88_35 rfl rfl rfl ?_
  refine jr_bipush (pc' := 38) (v := 8) dJ13_bitCount_95d88_36 rfl (by decide) ?_
  refine jr_lushr (pc' := 39)  dJ13_bitCount_95d88_38 rfl  ?_
  refine jr_ladd (pc' := 40)  dJ13_bitCount_95d88_39 rfl  ?_
  refine jr_lstore_n (pc' := 41) (i := 0) (lv' := [some (.long ((((((x - ((((Int64.toUInt64 x) >>> ((1 : Int32).toInt64.toUInt64 &&& Int64.toUInt64 63)).toInt64) &&& 6148914691236517205)) &&& 3689348814741910323) + ((((Int64.toUInt64 (x - ((((Int64.toUInt64 x) >>> ((1 : Int32).toInt64.toUInt64 &&& Int64.toUInt64 63)).toInt64) &&& 6148914691236517205))) >>> ((2 : Int32).toInt64.toUInt64 &&& Int64.toUInt64 63)).toInt64) &&& 3689348814741910323)) + (((Int64.toUInt64 (((x - ((((Int64.toUInt64 x) >>> ((1 : Int32).toInt64.toUInt64 &&& Int64.toUInt64 63)).toInt64) &&& 6148914691236517205)) &&& 3689348814741910323) + ((((Int64.toUInt64 (x - ((((Int64.toUInt64 x) >>> ((1 : Int32).toInt64.toUInt64 &&& Int64.toUInt64 63)).toInt64) &&& 6148914691236517205))) >>> ((2 : Int32).toInt64.toUInt64 &&& Int64.toUInt64 63)).toInt64) &&& 3689348814741910323))) >>> ((4 : Int32).toInt64.toUInt64 &&& Int64.toUInt64 63)).toInt64)) &&& 1085102592571150095) + (((Int64.toUInt64 (((((x - ((((Int64.toUInt64 x) >>> ((1 : Int32).toInt64.toUInt64 &&& Int64.toUInt64 63)).toInt64) &&& 6148914691236517205)) &&& 3689348814741910323) + ((((Int64.toUInt64 (x - ((((Int64.toUInt64 x) >>> ((1 : Int32).toInt64.toUInt64 &&& Int64.toUInt64 63)).toInt64) &&& 6148914691236517205))) >>> ((2 : Int32).toInt64.toUInt64 &&& Int64.toUInt64 63)).toInt64) &&& 3689348814741910323)) + (((Int64.toUInt64 (((x - ((((Int64.toUInt64 x) >>> ((1 : Int32).toInt64.toUInt64 &&& Int64.toUInt64 63)).toInt64) &&& 6148914691236517205)) &&& 3689348814741910323) + ((((Int64.toUInt64 (x - ((((Int64.toUInt64 x) >>> ((1 : Int32).toInt64.toUInt64 &&& Int64.toUInt64 63)).toInt64) &&& 6148914691236517205))) >>> ((2 : Int32).toInt64.toUInt64 &&& Int64.toUInt64 63)).toInt64) &&& 3689348814741910323))) >>> ((4 : Int32).toInt64.toUInt64 &&& Int64.toUInt64 63)).toInt64)) &&& 1085102592571150095)) >>> ((8 : Int32).toInt64.toUInt64 &&& Int64.toUInt64 63)).toInt64))), none]) dJ13_bitCount_95d88_40 rfl rfl (by decide) rfl ?_
  refine jr_lload_n (pc' := 42) (i := 0) dJ13_bitCount_95d88_41 rfl rfl rfl ?_
  refine jr_lload_n (pc' := 43) (i := 0) dJ13_bitCount_95d88_42 rfl rfl rfl ?_
  refine jr_bipush (pc' := 45) (v := 16) dJ13_bitCount_95d88_43 rfl (by decide) ?_
  refine jr_lushr (pc' := 46)  dJ13_bitCount_95d88_45 rfl  ?_
  refine jr_ladd (pc' := 47)  dJ13_bitCount_95d88_46 rfl  ?_
  refine jr_lstore_n (pc' := 48) (i := 0) (lv' := [some (.long (((((((x - ((((Int64.toUInt64 x) >>> ((1 : Int32).toInt64.toUInt64 &&& Int64.toUInt64 63)).toInt64) &&& 6148914691236517205)) &&& 3689348814741910323) + ((((Int64.toUInt64 (x - ((((Int64.toUInt64 x) >>> ((1 : Int32).toInt64.toUInt64 &&& Int64.toUInt64 63)).toInt64) &&& 6148914691236517205))) >>> ((2 : Int32).toInt64.toUInt64 &&& Int64.toUInt64 63)).toInt64) &&& 3689348814741910323)) + (((Int64.toUInt64 (((x - ((((Int64.toUInt64 x) >>> ((1 : Int32).toInt64.toUInt64 &&& Int64.toUInt64 63)).toInt64) &&& 6148914691236517205)) &&& 3689348814741910323) + ((((Int64.toUInt64 (x - ((((Int64.toUInt64 x) >>> ((1 : Int32).toInt64.toUInt64 &&& Int64.toUInt64 63)).toInt64) &&& 6148914691236517205))) >>> ((2 : Int32).toInt64.toUInt64 &&& Int64.toUInt64 63)).toInt64) &&& 3689348814741910323))) >>> ((4 : Int32).toInt64.toUInt64 &&& Int64.toUInt64 63)).toInt64)) &&& 1085102592571150095) + (((Int64.toUInt64 (((((x - ((((Int64.toUInt64 x) >>> ((1 : Int32).toInt64.toUInt64 &&& Int64.toUInt64 63)).toInt64) &&& 6148914691236517205)) &&& 3689348814741910323) + ((((Int64.toUInt64 (x - ((((Int64.toUInt64 x) >>> ((1 : Int32).toInt64.toUInt64 &&& Int64.toUInt64 63)).toInt64) &&& 6148914691236517205))) >>> ((2 : Int32).toInt64.toUInt64 &&& Int64.toUInt64 63)).toInt64) &&& 3689348814741910323)) + (((Int64.toUInt64 (((x - ((((Int64.toUInt64 x) >>> ((1 : Int32).toInt64.toUInt64 &&& Int64.toUInt64 63)).toInt64) &&& 6148914691236517205)) &&& 3689348814741910323) + ((((Int64.toUInt64 (x - ((((Int64.toUInt64 x) >>> ((1 : Int32).toInt64.toUInt64 &&& Int64.toUInt64 63)).toInt64) &&& 6148914691236517205))) >>> ((2 : Int32).toInt64.toUInt64 &&& Int64.toUInt64 63)).toInt64) &&& 3689348814741910323))) >>> ((4 : Int32).toInt64.toUInt64 &&& Int64.toUInt64 63)).toInt64)) &&& 1085102592571150095)) >>> ((8 : Int32).toInt64.toUInt64 &&& Int64.toUInt64 63)).toInt64)) + (((Int64.toUInt64 ((((((x - ((((Int64.toUInt64 x) >>> ((1 : Int32).toInt64.toUInt64 &&& Int64.toUInt64 63)).toInt64) &&& 6148914691236517205)) &&& 3689348814741910323) + ((((Int64.toUInt64 (x - ((((Int64.toUInt64 x) >>> ((1 : Int32).toInt64.toUInt64 &&& Int64.toUInt64 63)).toInt64) &&& 6148914691236517205))) >>> ((2 : Int32).toInt64.toUInt64 &&& Int64.toUInt64 63)).toInt64) &&& 3689348814741910323)) + (((Int64.toUInt64 (((x - ((((Int64.toUInt64 x) >>> ((1 : Int32).toInt64.toUInt64 &&& Int64.toUInt64 63)).toInt64) &&& 6148914691236517205)) &&& 3689348814741910323) + ((((Int64.toUInt64 (x - ((((Int64.toUInt64 x) >>> ((1 : Int32).toInt64.toUInt64 &&& Int64.toUInt64 63)).toInt64) &&& 6148914691236517205))) >>> ((2 : Int32).toInt64.toUInt64 &&& Int64.toUInt64 63)).toInt64) &&& 3689348814741910323))) >>> ((4 : Int32).toInt64.toUInt64 &&& Int64.toUInt64 63)).toInt64)) &&& 1085102592571150095) + (((Int64.toUInt64 (((((x - ((((Int64.toUInt64 x) >>> ((1 : Int32).toInt64.toUInt64 &&& Int64.toUInt64 63)).toInt64) &&& 6148914691236517205)) &&& 3689348814741910323) + ((((Int64.toUInt64 (x - ((((Int64.toUInt64 x) >>> ((1 : Int32).toInt64.toUInt64 &&& Int64.toUInt64 63)).toInt64) &&& 6148914691236517205))) >>> ((2 : Int32).toInt64.toUInt64 &&& Int64.toUInt64 63)).toInt64) &&& 3689348814741910323)) + (((Int64.toUInt64 (((x - ((((Int64.toUInt64 x) >>> ((1 : Int32).toInt64.toUInt64 &&& Int64.toUInt64 63)).toInt64) &&& 6148914691236517205)) &&& 3689348814741910323) + ((((Int64.toUInt64 (x - ((((Int64.toUInt64 x) >>> ((1 : Int32).toInt64.toUInt64 &&& Int64.toUInt64 63)).toInt64) &&& 6148914691236517205))) >>> ((2 : Int32).toInt64.toUInt64 &&& Int64.toUInt64 63)).toInt64) &&& 3689348814741910323))) >>> ((4 : Int32).toInt64.toUInt64 &&& Int64.toUInt64 63)).toInt64)) &&& 1085102592571150095)) >>> ((8 : Int32).toInt64.toUInt64 &&& Int64.toUInt64 63)).toInt64))) >>> ((16 : Int32).toInt64.toUInt64 &&& Int64.toUInt64 63)).toInt64))), none]) dJ13_bitCount_95d88_47 rfl rfl (by decide) rfl ?_
  refine jr_lload_n (pc' := 49) (i := 0) dJ13_bitCount_95d88_48 rfl rfl rfl ?_
  refine jr_lload_n (pc' := 50) (i := 0) dJ13_bitCount_95d88_49 rfl rfl rfl ?_
  refine jr_bipush (pc' := 52) (v := 32) dJ13_bitCount_95d88_50 rfl (by decide) ?_
  refine jr_lushr (pc' := 53)  dJ13_bitCount_95d88_52 rfl  ?_
  refine jr_ladd (pc' := 54)  dJ13_bitCount_95d88_53 rfl  ?_
  refine jr_lstore_n (pc' := 55) (i := 0) (lv' := [some (.long ((((((((x - ((((Int64.toUInt64 x) >>> ((1 : Int32).toInt64.toUInt64 &&& Int64.toUInt64 63)).toInt64) &&& 6148914691236517205)) &&& 3689348814741910323) + ((((Int64.toUInt64 (x - ((((Int64.toUInt64 x) >>> ((1 : Int32).toInt64.toUInt64 &&& Int64.toUInt64 63)).toInt64) &&& 6148914691236517205))) >>> ((2 : Int32).toInt64.toUInt64 &&& Int64.toUInt64 63)).toInt64) &&& 3689348814741910323)) + (((Int64.toUInt64 (((x - ((((Int64.toUInt64 x) >>> ((1 : Int32).toInt64.toUInt64 &&& Int64.toUInt64 63)).toInt64) &&& 6148914691236517205)) &&& 3689348814741910323) + ((((Int64.toUInt64 (x - ((((Int64.toUInt64 x) >>> ((1 : Int32).toInt64.toUInt64 &&& Int64.toUInt64 63)).toInt64) &&& 6148914691236517205))) >>> ((2 : Int32).toInt64.toUInt64 &&& Int64.toUInt64 63)).toInt64) &&& 3689348814741910323))) >>> ((4 : Int32).toInt64.toUInt64 &&& Int64.toUInt64 63)).toInt64)) &&& 1085102592571150095) + (((Int64.toUInt64 (((((x - ((((Int64.toUInt64 x) >>> ((1 : Int32).toInt64.toUInt64 &&& Int64.toUInt64 63)).toInt64) &&& 6148914691236517205)) &&& 3689348814741910323) + ((((Int64.toUInt64 (x - ((((Int64.toUInt64 x) >>> ((1 : Int32).toInt64.toUInt64 &&& Int64.toUInt64 63)).toInt64) &&& 6148914691236517205))) >>> ((2 : Int32).toInt64.toUInt64 &&& Int64.toUInt64 63)).toInt64) &&& 3689348814741910323)) + (((Int64.toUInt64 (((x - ((((Int64.toUInt64 x) >>> ((1 : Int32).toInt64.toUInt64 &&& Int64.toUInt64 63)).toInt64) &&& 6148914691236517205)) &&& 3689348814741910323) + ((((Int64.toUInt64 (x - ((((Int64.toUInt64 x) >>> ((1 : Int32).toInt64.toUInt64 &&& Int64.toUInt64 63)).toInt64) &&& 6148914691236517205))) >>> ((2 : Int32).toInt64.toUInt64 &&& Int64.toUInt64 63)).toInt64) &&& 3689348814741910323))) >>> ((4 : Int32).toInt64.toUInt64 &&& Int64.toUInt64 63)).toInt64)) &&& 1085102592571150095)) >>> ((8 : Int32).toInt64.toUInt64 &&& Int64.toUInt64 63)).toInt64)) + (((Int64.toUInt64 ((((((x - ((((Int64.toUInt64 x) >>> ((1 : Int32).toInt64.toUInt64 &&& Int64.toUInt64 63)).toInt64) &&& 6148914691236517205)) &&& 3689348814741910323) + ((((Int64.toUInt64 (x - ((((Int64.toUInt64 x) >>> ((1 : Int32).toInt64.toUInt64 &&& Int64.toUInt64 63)).toInt64) &&& 6148914691236517205))) >>> ((2 : Int32).toInt64.toUInt64 &&& Int64.toUInt64 63)).toInt64) &&& 3689348814741910323)) + (((Int64.toUInt64 (((x - ((((Int64.toUInt64 x) >>> ((1 : Int32).toInt64.toUInt64 &&& Int64.toUInt64 63)).toInt64) &&& 6148914691236517205)) &&& 3689348814741910323) + ((((Int64.toUInt64 (x - ((((Int64.toUInt64 x) >>> ((1 : Int32).toInt64.toUInt64 &&& Int64.toUInt64 63)).toInt64) &&& 6148914691236517205))) >>> ((2 : Int32).toInt64.toUInt64 &&& Int64.toUInt64 63)).toInt64) &&& 3689348814741910323))) >>> ((4 : Int32).toInt64.toUInt64 &&& Int64.toUInt64 63)).toInt64)) &&& 1085102592571150095) + (((Int64.toUInt64 (((((x - ((((Int64.toUInt64 x) >>> ((1 : Int32).toInt64.toUInt64 &&& Int64.toUInt64 63)).toInt64) &&& 6148914691236517205)) &&& 3689348814741910323) + ((((Int64.toUInt64 (x - ((((Int64.toUInt64 x) >>> ((1 : Int32).toInt64.toUInt64 &&& Int64.toUInt64 63)).toInt64) &&& 6148914691236517205))) >>> ((2 : Int32).toInt64.toUInt64 &&& Int64.toUInt64 63)).toInt64) &&& 3689348814741910323)) + (((Int64.toUInt64 (((x - ((((Int64.toUInt64 x) >>> ((1 : Int32).toInt64.toUInt64 &&& Int64.toUInt64 63)).toInt64) &&& 6148914691236517205)) &&& 3689348814741910323) + ((((Int64.toUInt64 (x - ((((Int64.toUInt64 x) >>> ((1 : Int32).toInt64.toUInt64 &&& Int64.toUInt64 63)).toInt64) &&& 6148914691236517205))) >>> ((2 : Int32).toInt64.toUInt64 &&& Int64.toUInt64 63)).toInt64) &&& 3689348814741910323))) >>> ((4 : Int32).toInt64.toUInt64 &&& Int64.toUInt64 63)).toInt64)) &&& 1085102592571150095)) >>> ((8 : Int32).toInt64.toUInt64 &&& Int64.toUInt64 63)).toInt64))) >>> ((16 : Int32).toInt64.toUInt64 &&& Int64.toUInt64 63)).toInt64)) + (((Int64.toUInt64 (((((((x - ((((Int64.toUInt64 x) >>> ((1 : Int32).toInt64.toUInt64 &&& Int64.toUInt64 63)).toInt64) &&& 6148914691236517205)) &&& 3689348814741910323) + ((((Int64.toUInt64 (x - ((((Int64.toUInt64 x) >>> ((1 : Int32).toInt64.toUInt64 &&& Int64.toUInt64 63)).toInt64) &&& 6148914691236517205))) >>> ((2 : Int32).toInt64.toUInt64 &&& Int64.toUInt64 63)).toInt64) &&& 3689348814741910323)) + (((Int64.toUInt64 (((x - ((((Int64.toUInt64 x) >>> ((1 : Int32).toInt64.toUInt64 &&& Int64.toUInt64 63)).toInt64) &&& 6148914691236517205)) &&& 3689348814741910323) + ((((Int64.toUInt64 (x - ((((Int64.toUInt64 x) >>> ((1 : Int32).toInt64.toUInt64 &&& Int64.toUInt64 63)).toInt64) &&& 6148914691236517205))) >>> ((2 : Int32).toInt64.toUInt64 &&& Int64.toUInt64 63)).toInt64) &&& 3689348814741910323))) >>> ((4 : Int32).toInt64.toUInt64 &&& Int64.toUInt64 63)).toInt64)) &&& 1085102592571150095) + (((Int64.toUInt64 (((((x - ((((Int64.toUInt64 x) >>> ((1 : Int32).toInt64.toUInt64 &&& Int64.toUInt64 63)).toInt64) &&& 6148914691236517205)) &&& 3689348814741910323) + ((((Int64.toUInt64 (x - ((((Int64.toUInt64 x) >>> ((1 : Int32).toInt64.toUInt64 &&& Int64.toUInt64 63)).toInt64) &&& 6148914691236517205))) >>> ((2 : Int32).toInt64.toUInt64 &&& Int64.toUInt64 63)).toInt64) &&& 3689348814741910323)) + (((Int64.toUInt64 (((x - ((((Int64.toUInt64 x) >>> ((1 : Int32).toInt64.toUInt64 &&& Int64.toUInt64 63)).toInt64) &&& 6148914691236517205)) &&& 3689348814741910323) + ((((Int64.toUInt64 (x - ((((Int64.toUInt64 x) >>> ((1 : Int32).toInt64.toUInt64 &&& Int64.toUInt64 63)).toInt64) &&& 6148914691236517205))) >>> ((2 : Int32).toInt64.toUInt64 &&& Int64.toUInt64 63)).toInt64) &&& 3689348814741910323))) >>> ((4 : Int32).toInt64.toUInt64 &&& Int64.toUInt64 63)).toInt64)) &&& 1085102592571150095)) >>> ((8 : Int32).toInt64.toUInt64 &&& Int64.toUInt64 63)).toInt64)) + (((Int64.toUInt64 ((((((x - ((((Int64.toUInt64 x) >>> ((1 : Int32).toInt64.toUInt64 &&& Int64.toUInt64 63)).toInt64) &&& 6148914691236517205)) &&& 3689348814741910323) + ((((Int64.toUInt64 (x - ((((Int64.toUInt64 x) >>> ((1 : Int32).toInt64.toUInt64 &&& Int64.toUInt64 63)).toInt64) &&& 6148914691236517205))) >>> ((2 : Int32).toInt64.toUInt64 &&& Int64.toUInt64 63)).toInt64) &&& 3689348814741910323)) + (((Int64.toUInt64 (((x - ((((Int64.toUInt64 x) >>> ((1 : Int32).toInt64.toUInt64 &&& Int64.toUInt64 63)).toInt64) &&& 6148914691236517205)) &&& 3689348814741910323) + ((((Int64.toUInt64 (x - ((((Int64.toUInt64 x) >>> ((1 : Int32).toInt64.toUInt64 &&& Int64.toUInt64 63)).toInt64) &&& 6148914691236517205))) >>> ((2 : Int32).toInt64.toUInt64 &&& Int64.toUInt64 63)).toInt64) &&& 3689348814741910323))) >>> ((4 : Int32).toInt64.toUInt64 &&& Int64.toUInt64 63)).toInt64)) &&& 1085102592571150095) + (((Int64.toUInt64 (((((x - ((((Int64.toUInt64 x) >>> ((1 : Int32).toInt64.toUInt64 &&& Int64.toUInt64 63)).toInt64) &&& 6148914691236517205)) &&& 3689348814741910323) + ((((Int64.toUInt64 (x - ((((Int64.toUInt64 x) >>> ((1 : Int32).toInt64.toUInt64 &&& Int64.toUInt64 63)).toInt64) &&& 6148914691236517205))) >>> ((2 : Int32).toInt64.toUInt64 &&& Int64.toUInt64 63)).toInt64) &&& 3689348814741910323)) + (((Int64.toUInt64 (((x - ((((Int64.toUInt64 x) >>> ((1 : Int32).toInt64.toUInt64 &&& Int64.toUInt64 63)).toInt64) &&& 6148914691236517205)) &&& 3689348814741910323) + ((((Int64.toUInt64 (x - ((((Int64.toUInt64 x) >>> ((1 : Int32).toInt64.toUInt64 &&& Int64.toUInt64 63)).toInt64) &&& 6148914691236517205))) >>> ((2 : Int32).toInt64.toUInt64 &&& Int64.toUInt64 63)).toInt64) &&& 3689348814741910323))) >>> ((4 : Int32).toInt64.toUInt64 &&& Int64.toUInt64 63)).toInt64)) &&& 1085102592571150095)) >>> ((8 : Int32).toInt64.toUInt64 &&& Int64.toUInt64 63)).toInt64))) >>> ((16 : Int32).toInt64.toUInt64 &&& Int64.toUInt64 63)).toInt64))) >>> ((32 : Int32).toInt64.toUInt64 &&& Int64.toUInt64 63)).toInt64))), none]) dJ13_bitCount_95d88_54 rfl rfl (by decide) rfl ?_
  refine jr_lload_n (pc' := 56) (i := 0) dJ13_bitCount_95d88_55 rfl rfl rfl ?_
  refine jr_l2i (pc' := 57)  dJ13_bitCount_95d88_56 rfl  ?_
  refine jr_bipush (pc' := 59) (v := 127) dJ13_bitCount_95d88_57 rfl (by decide) ?_
  refine jr_iand (pc' := 60)  dJ13_bitCount_95d88_59 rfl  ?_
  exact jr_iret dJ13_bitCount_95d88_60 rfl rfl (k0)
def f_bitCount  (x : Int64) : Int32 := ((((((((((x - ((((Int64.toUInt64 x) >>> ((1 : Int32).toInt64.toUInt64 &&& Int64.toUInt64 63)).toInt64) &&& 6148914691236517205)) &&& 3689348814741910323) + ((((Int64.toUInt64 (x - ((((Int64.toUInt64 x) >>> ((1 : Int32).toInt64.toUInt64 &&& Int64.toUInt64 63)).toInt64) &&& 6148914691236517205))) >>> ((2 : Int32).toInt64.toUInt64 &&& Int64.toUInt64 63)).toInt64) &&& 3689348814741910323)) + (((Int64.toUInt64 (((x - ((((Int64.toUInt64 x) >>> ((1 : Int32).toInt64.toUInt64 &&& Int64.toUInt64 63)).toInt64) &&& 6148914691236517205)) &&& 3689348814741910323) + ((((Int64.toUInt64 (x - ((((Int64.toUInt64 x) >>> ((1 : Int32).toInt64.toUInt64 &&& Int64.toUInt64 63)).toInt64) &&& 6148914691236517205))) >>> ((2 : Int32).toInt64.toUInt64 &&& Int64.toUInt64 63)).toInt64) &&& 3689348814741910323))) >>> ((4 : Int32).toInt64.toUInt64 &&& Int64.toUInt64 63)).toInt64)) &&& 1085102592571150095) + (((Int64.toUInt64 (((((x - ((((Int64.toUInt64 x) >>> ((1 : Int32).toInt64.toUInt64 &&& Int64.toUInt64 63)).toInt64) &&& 6148914691236517205)) &&& 3689348814741910323) + ((((Int64.toUInt64 (x - ((((Int64.toUInt64 x) >>> ((1 : Int32).toInt64.toUInt64 &&& Int64.toUInt64 63)).toInt64) &&& 6148914691236517205))) >>> ((2 : Int32).toInt64.toUInt64 &&& Int64.toUInt64 63)).toInt64) &&& 3689348814741910323)) + (((Int64.toUInt64 (((x - ((((Int64.toUInt64 x) >>> ((1 : Int32).toInt64.toUInt64 &&& Int64.toUInt64 63)).toInt64) &&& 6148914691236517205)) &&& 3689348814741910323) + ((((Int64.toUInt64 (x - ((((Int64.toUInt64 x) >>> ((1 : Int32).toInt64.toUInt64 &&& Int64.toUInt64 63)).toInt64) &&& 6148914691236517205))) >>> ((2 : Int32).toInt64.toUInt64 &&& Int64.toUInt64 63)).toInt64) &&& 3689348814741910323))) >>> ((4 : Int32).toInt64.toUInt64 &&& Int64.toUInt64 63)).toInt64)) &&& 1085102592571150095)) >>> ((8 : Int32).toInt64.toUInt64 &&& Int64.toUInt64 63)).toInt64)) + (((Int64.toUInt64 ((((((x - ((((Int64.toUInt64 x) >>> ((1 : Int32).toInt64.toUInt64 &&& Int64.toUInt64 63)).toInt64) &&& 6148914691236517205)) &&& 3689348814741910323) + ((((Int64.toUInt64 (x - ((((Int64.toUInt64 x) >>> ((1 : Int32).toInt64.toUInt64 &&& Int64.toUInt64 63)).toInt64) &&& 6148914691236517205))) >>> ((2 : Int32).toInt64.toUInt64 &&& Int64.toUInt64 63)).toInt64) &&& 3689348814741910323)) + (((Int64.toUInt64 (((x - ((((Int64.toUInt64 x) >>> ((1 : Int32).toInt64.toUInt64 &&& Int64.toUInt64 63)).toInt64) &&& 6148914691236517205)) &&& 3689348814741910323) + ((((Int64.toUInt64 (x - ((((Int64.toUInt64 x) >>> ((1 : Int32).toInt64.toUInt64 &&& Int64.toUInt64 63)).toInt64) &&& 6148914691236517205))) >>> ((2 : Int32).toInt64.toUInt64 &&& Int64.toUInt64 63)).toInt64) &&& 3689348814741910323))) >>> ((4 : Int32).toInt64.toUInt64 &&& Int64.toUInt64 63)).toInt64)) &&& 1085102592571150095) + (((Int64.toUInt64 (((((x - ((((Int64.toUInt64 x) >>> ((1 : Int32).toInt64.toUInt64 &&& Int64.toUInt64 63)).toInt64) &&& 6148914691236517205)) &&& 3689348814741910323) + ((((Int64.toUInt64 (x - ((((Int64.toUInt64 x) >>> ((1 : Int32).toInt64.toUInt64 &&& Int64.toUInt64 63)).toInt64) &&& 6148914691236517205))) >>> ((2 : Int32).toInt64.toUInt64 &&& Int64.toUInt64 63)).toInt64) &&& 3689348814741910323)) + (((Int64.toUInt64 (((x - ((((Int64.toUInt64 x) >>> ((1 : Int32).toInt64.toUInt64 &&& Int64.toUInt64 63)).toInt64) &&& 6148914691236517205)) &&& 3689348814741910323) + ((((Int64.toUInt64 (x - ((((Int64.toUInt64 x) >>> ((1 : Int32).toInt64.toUInt64 &&& Int64.toUInt64 63)).toInt64) &&& 6148914691236517205))) >>> ((2 : Int32).toInt64.toUInt64 &&& Int64.toUInt64 63)).toInt64) &&& 3689348814741910323))) >>> ((4 : Int32).toInt64.toUInt64 &&& Int64.toUInt64 63)).toInt64)) &&& 1085102592571150095)) >>> ((8 : Int32).toInt64.toUInt64 &&& Int64.toUInt64 63)).toInt64))) >>> ((16 : Int32).toInt64.toUInt64 &&& Int64.toUInt64 63)).toInt64)) + (((Int64.toUInt64 (((((((x - ((((Int64.toUInt64 x) >>> ((1 : Int32).toInt64.toUInt64 &&& Int64.toUInt64 63)).toInt64) &&& 6148914691236517205)) &&& 3689348814741910323) + ((((Int64.toUInt64 (x - ((((Int64.toUInt64 x) >>> ((1 : Int32).toInt64.toUInt64 &&& Int64.toUInt64 63)).toInt64) &&& 6148914691236517205))) >>> ((2 : Int32).toInt64.toUInt64 &&& Int64.toUInt64 63)).toInt64) &&& 3689348814741910323)) + (((Int64.toUInt64 (((x - ((((Int64.toUInt64 x) >>> ((1 : Int32).toInt64.toUInt64 &&& Int64.toUInt64 63)).toInt64) &&& 6148914691236517205)) &&& 3689348814741910323) + ((((Int64.toUInt64 (x - ((((Int64.toUInt64 x) >>> ((1 : Int32).toInt64.toUInt64 &&& Int64.toUInt64 63)).toInt64) &&& 6148914691236517205))) >>> ((2 : Int32).toInt64.toUInt64 &&& Int64.toUInt64 63)).toInt64) &&& 3689348814741910323))) >>> ((4 : Int32).toInt64.toUInt64 &&& Int64.toUInt64 63)).toInt64)) &&& 1085102592571150095) + (((Int64.toUInt64 (((((x - ((((Int64.toUInt64 x) >>> ((1 : Int32).toInt64.toUInt64 &&& Int64.toUInt64 63)).toInt64) &&& 6148914691236517205)) &&& 3689348814741910323) + ((((Int64.toUInt64 (x - ((((Int64.toUInt64 x) >>> ((1 : Int32).toInt64.toUInt64 &&& Int64.toUInt64 63)).toInt64) &&& 6148914691236517205))) >>> ((2 : Int32).toInt64.toUInt64 &&& Int64.toUInt64 63)).toInt64) &&& 3689348814741910323)) + (((Int64.toUInt64 (((x - ((((Int64.toUInt64 x) >>> ((1 : Int32).toInt64.toUInt64 &&& Int64.toUInt64 63)).toInt64) &&& 6148914691236517205)) &&& 3689348814741910323) + ((((Int64.toUInt64 (x - ((((Int64.toUInt64 x) >>> ((1 : Int32).toInt64.toUInt64 &&& Int64.toUInt64 63)).toInt64) &&& 6148914691236517205))) >>> ((2 : Int32).toInt64.toUInt64 &&& Int64.toUInt64 63)).toInt64) &&& 3689348814741910323))) >>> ((4 : Int32).toInt64.toUInt64 &&& Int64.toUInt64 63)).toInt64)) &&& 1085102592571150095)) >>> ((8 : Int32).toInt64.toUInt64 &&& Int64.toUInt64 63)).toInt64)) + (((Int64.toUInt64 ((((((x - ((((Int64.toUInt64 x) >>> ((1 : Int32).toInt64.toUInt64 &&& Int64.toUInt64 63)).toInt64) &&& 6148914691236517205)) &&& 3689348814741910323) + ((((Int64.toUInt64 (x - ((((Int64.toUInt64 x) >>> ((1 : Int32).toInt64.toUInt64 &&& Int64.toUInt64 63)).toInt64) &&& 6148914691236517205))) >>> ((2 : Int32).toInt64.toUInt64 &&& Int64.toUInt64 63)).toInt64) &&& 3689348814741910323)) + (((Int64.toUInt64 (((x - ((((Int64.toUInt64 x) >>> ((1 : Int32).toInt64.toUInt64 &&& Int64.toUInt64 63)).toInt64) &&& 6148914691236517205)) &&& 3689348814741910323) + ((((Int64.toUInt64 (x - ((((Int64.toUInt64 x) >>> ((1 : Int32).toInt64.toUInt64 &&& Int64.toUInt64 63)).toInt64) &&& 6148914691236517205))) >>> ((2 : Int32).toInt64.toUInt64 &&& Int64.toUInt64 63)).toInt64) &&& 3689348814741910323))) >>> ((4 : Int32).toInt64.toUInt64 &&& Int64.toUInt64 63)).toInt64)) &&& 1085102592571150095) + (((Int64.toUInt64 (((((x - ((((Int64.toUInt64 x) >>> ((1 : Int32).toInt64.toUInt64 &&& Int64.toUInt64 63)).toInt64) &&& 6148914691236517205)) &&& 3689348814741910323) + ((((Int64.toUInt64 (x - ((((Int64.toUInt64 x) >>> ((1 : Int32).toInt64.toUInt64 &&& Int64.toUInt64 63)).toInt64) &&& 6148914691236517205))) >>> ((2 : Int32).toInt64.toUInt64 &&& Int64.toUInt64 63)).toInt64) &&& 3689348814741910323)) + (((Int64.toUInt64 (((x - ((((Int64.toUInt64 x) >>> ((1 : Int32).toInt64.toUInt64 &&& Int64.toUInt64 63)).toInt64) &&& 6148914691236517205)) &&& 3689348814741910323) + ((((Int64.toUInt64 (x - ((((Int64.toUInt64 x) >>> ((1 : Int32).toInt64.toUInt64 &&& Int64.toUInt64 63)).toInt64) &&& 6148914691236517205))) >>> ((2 : Int32).toInt64.toUInt64 &&& Int64.toUInt64 63)).toInt64) &&& 3689348814741910323))) >>> ((4 : Int32).toInt64.toUInt64 &&& Int64.toUInt64 63)).toInt64)) &&& 1085102592571150095)) >>> ((8 : Int32).toInt64.toUInt64 &&& Int64.toUInt64 63)).toInt64))) >>> ((16 : Int32).toInt64.toUInt64 &&& Int64.toUInt64 63)).toInt64))) >>> ((32 : Int32).toInt64.toUInt64 &&& Int64.toUInt64 63)).toInt64)).toInt32) &&& 127)
theorem c_bitCount {E : jEnv} {n : Nat} (x : Int64) (h : HP)  : jC E mJ13_bitCount_95d88 n [.long x] h (fun v h2 => v = some (.int (f_bitCount x)) ∧ h2 = h) :=
  jC.of (lv := [some (.long x), none]) (by decide) (Nat.le_of_ble_eq_true rfl) ⟨rfl, trivial⟩ (q_bitCount_0 x h (⟨(congrArg (fun z => some (Value.int z)) (Eq.symm rfl)), rfl⟩))

theorem q_FsbeginAt_0 {E : jEnv} {n : Nat} {X : State → Prop} {Post : Option Value → HP → Prop} (x : Int32) (h : HP)
    (k0 : Post none (jPI (jPI h 30 2 x) 30 3 0))
    : jG E mX1_beginAt n X Post 0 [some (.ref 30), some (.int x)] [] h := by
  refine jr_aload_n (pc' := 1) (i := 0) dX1_beginAt_0 rfl rfl rfl ?_
  refine jr_iload_n (pc' := 2) (i := 1) dX1_beginAt_1 rfl rfl rfl ?_
  refine jr_putI (pc' := 5) jK1 (k := 30) (j := 2) wfX1_9 dX1_beginAt_2 rfl (by decide) rfl (by decide) (by decide) rfl rfl rfl ?_
  refine jr_aload_n (pc' := 6) (i := 0) dX1_beginAt_5 rfl rfl rfl ?_
  refine jr_iconst (pc' := 7) (v := 0) dX1_beginAt_6 rfl (by decide) ?_
  refine jr_putI (pc' := 10) jK1 (k := 30) (j := 3) wfX1_15 dX1_beginAt_7 rfl (by decide) rfl (by decide) (by decide) rfl rfl rfl ?_
  exact jr_vret dX1_beginAt_10 rfl (k0)
theorem c_FsbeginAt {E : jEnv} {n : Nat} (x : Int32) (h : HP)  : jC E mX1_beginAt n [.ref 30, .int x] h (fun v h2 => v = none ∧ h2 = (jPI (jPI h 30 2 x) 30 3 0)) :=
  jC.of (lv := [some (.ref 30), some (.int x)]) (by decide) (Nat.le_of_ble_eq_true rfl) ⟨rfl, rfl, trivial⟩ (q_FsbeginAt_0 x h (⟨rfl, rfl⟩))

theorem q_Fsappend_0 {E : jEnv} {n : Nat} {X : State → Prop} {Post : Option Value → HP → Prop} (x : Int32) (y : Int32) (h : HP)
    (k0 : ((20 : Int32) ≤ (h.1 30 3)) → Post none h)
    (b0 : (¬ (20 : Int32) ≤ (h.1 30 3)) → vp_in (h.1 30 3) 20)
    (b1 : (¬ (20 : Int32) ≤ (h.1 30 3)) → vp_in (h.1 30 3) 20)
    (k1 : (¬ (20 : Int32) ≤ (h.1 30 3)) → Post none (jPI (jPI (jPI h 31 ((h.1 30 3).toNatClampNeg) x) 32 ((h.1 30 3).toNatClampNeg) y) 30 3 ((h.1 30 3) + 1)))
    : jG E mX1_append n X Post 0 [some (.ref 30), some (.int x), some (.int y)] [] h := by
  refine jr_aload_n (pc' := 1) (i := 0) dX1_append_0 rfl rfl rfl ?_
  refine jr_get (pc' := 4) jK1 (k := 30) (j := 3) (v := .int (h.1 30 3)) wfX1_15 dX1_append_1 rfl (by decide) rfl (by decide) rfl ?_
  refine jr_bipush (pc' := 6) (v := 20) dX1_append_4 rfl (by decide) ?_
  by_cases c1 : (20 : Int32) ≤ (h.1 30 3)
  · refine jr_icmp_geT (pc' := 39) dX1_append_6 rfl c1 ?_
    exact jr_vret dX1_append_39 rfl (k0 c1)
  · refine jr_icmp_geF (pc' := 9) (tgt := 39) dX1_append_6 rfl rfl c1 ?_
    refine jr_aload_n (pc' := 10) (i := 0) dX1_append_9 rfl rfl rfl ?_
    refine jr_get (pc' := 13) jK1 (k := 30) (j := 4) (v := .ref 31) wfX1_18 dX1_append_10 rfl (by decide) rfl (by decide) rfl ?_
    refine jr_aload_n (pc' := 14) (i := 0) dX1_append_13 rfl rfl rfl ?_
    refine jr_get (pc' := 17) jK1 (k := 30) (j := 3) (v := .int (h.1 30 3)) wfX1_15 dX1_append_14 rfl (by decide) rfl (by decide) rfl ?_
    refine jr_iload_n (pc' := 18) (i := 1) dX1_append_17 rfl rfl rfl ?_
    refine jr_iast (pc' := 19) (j := (h.1 30 3).toNatClampNeg) dX1_append_18 rfl (by decide) rfl (b0 c1) rfl ?_
    refine jr_aload_n (pc' := 20) (i := 0) dX1_append_19 rfl rfl rfl ?_
    refine jr_get (pc' := 23) jK1 (k := 30) (j := 5) (v := .ref 32) wfX1_22 dX1_append_20 rfl (by decide) rfl (by decide) rfl ?_
    refine jr_aload_n (pc' := 24) (i := 0) dX1_append_23 rfl rfl rfl ?_
    refine jr_get (pc' := 27) jK1 (k := 30) (j := 3) (v := .int (h.1 30 3)) wfX1_15 dX1_append_24 rfl (by decide) rfl (by decide) rfl ?_
    refine jr_iload_n (pc' := 28) (i := 2) dX1_append_27 rfl rfl rfl ?_
    refine jr_iast (pc' := 29) (j := (h.1 30 3).toNatClampNeg) dX1_append_28 rfl (by decide) rfl (b1 c1) rfl ?_
    refine jr_aload_n (pc' := 30) (i := 0) dX1_append_29 rfl rfl rfl ?_
    refine jr_dup (pc' := 31)  dX1_append_30 rfl rfl ?_
    refine jr_get (pc' := 34) jK1 (k := 30) (j := 3) (v := .int (h.1 30 3)) wfX1_15 dX1_append_31 rfl (by decide) rfl (by decide) rfl ?_
    refine jr_iconst (pc' := 35) (v := 1) dX1_append_34 rfl (by decide) ?_
    refine jr_iadd (pc' := 36)  dX1_append_35 rfl  ?_
    refine jr_putI (pc' := 39) jK1 (k := 30) (j := 3) wfX1_15 dX1_append_36 rfl (by decide) rfl (by decide) (by decide) rfl rfl rfl ?_
    exact jr_vret dX1_append_39 rfl (k1 c1)
def H_Fsappend (h : HP) (x : Int32) (y : Int32) : HP := (if (20 : Int32) ≤ (h.1 30 3) then h else (jPI (jPI (jPI h 31 ((h.1 30 3).toNatClampNeg) x) 32 ((h.1 30 3).toNatClampNeg) y) 30 3 ((h.1 30 3) + 1)))
theorem c_Fsappend {E : jEnv} {n : Nat} (x : Int32) (y : Int32) (h : HP) (b0 : (¬ (20 : Int32) ≤ (h.1 30 3)) → vp_in (h.1 30 3) 20) (b1 : (¬ (20 : Int32) ≤ (h.1 30 3)) → vp_in (h.1 30 3) 20) : jC E mX1_append n [.ref 30, .int x, .int y] h (fun v h2 => v = none ∧ h2 = (H_Fsappend h x y)) :=
  jC.of (lv := [some (.ref 30), some (.int x), some (.int y)]) (by decide) (Nat.le_of_ble_eq_true rfl) ⟨rfl, rfl, rfl, trivial⟩ (q_Fsappend_0 x y h (fun c1 => ⟨rfl, (Eq.symm (by first | (rw [H_Fsappend, if_pos c1]; done) | (simp [H_Fsappend, c1]; done)))⟩) b0 b1 (fun c1 => ⟨rfl, (Eq.symm (by first | (rw [H_Fsappend, if_neg c1]; done) | (simp [H_Fsappend, c1]; done)))⟩))

theorem q_Bkappend_0 {E : jEnv} {n : Nat} {X : State → Prop} {Post : Option Value → HP → Prop} (x : Int32) (y : Int32) (h : HP)
    (k0 : ((40 : Int32) ≤ (h.1 33 1)) → Post none h)
    (b0 : (¬ (40 : Int32) ≤ (h.1 33 1)) → vp_in (h.1 33 1) 40)
    (b1 : (¬ (40 : Int32) ≤ (h.1 33 1)) → vp_in (h.1 33 1) 40)
    (k1 : (¬ (40 : Int32) ≤ (h.1 33 1)) → Post none (jPI (jPI (jPI h 34 ((h.1 33 1).toNatClampNeg) x) 35 ((h.1 33 1).toNatClampNeg) y) 33 1 ((h.1 33 1) + 1)))
    : jG E mX0_append n X Post 0 [some (.ref 33), some (.int x), some (.int y)] [] h := by
  refine jr_aload_n (pc' := 1) (i := 0) dX0_append_0 rfl rfl rfl ?_
  refine jr_get (pc' := 4) jK0 (k := 33) (j := 1) (v := .int (h.1 33 1)) wfX0_9 dX0_append_1 rfl (by decide) rfl (by decide) rfl ?_
  refine jr_bipush (pc' := 6) (v := 40) dX0_append_4 rfl (by decide) ?_
  by_cases c1 : (40 : Int32) ≤ (h.1 33 1)
  · refine jr_icmp_geT (pc' := 39) dX0_append_6 rfl c1 ?_
    exact jr_vret dX0_append_39 rfl (k0 c1)
  · refine jr_icmp_geF (pc' := 9) (tgt := 39) dX0_append_6 rfl rfl c1 ?_
    refine jr_aload_n (pc' := 10) (i := 0) dX0_append_9 rfl rfl rfl ?_
    refine jr_get (pc' := 13) jK0 (k := 33) (j := 2) (v := .ref 34) wfX0_15 dX0_append_10 rfl (by decide) rfl (by decide) rfl ?_
    refine jr_aload_n (pc' := 14) (i := 0) dX0_append_13 rfl rfl rfl ?_
    refine jr_get (pc' := 17) jK0 (k := 33) (j := 1) (v := .int (h.1 33 1)) wfX0_9 dX0_append_14 rfl (by decide) rfl (by decide) rfl ?_
    refine jr_iload_n (pc' := 18) (i := 1) dX0_append_17 rfl rfl rfl ?_
    refine jr_iast (pc' := 19) (j := (h.1 33 1).toNatClampNeg) dX0_append_18 rfl (by decide) rfl (b0 c1) rfl ?_
    refine jr_aload_n (pc' := 20) (i := 0) dX0_append_19 rfl rfl rfl ?_
    refine jr_get (pc' := 23) jK0 (k := 33) (j := 3) (v := .ref 35) wfX0_19 dX0_append_20 rfl (by decide) rfl (by decide) rfl ?_
    refine jr_aload_n (pc' := 24) (i := 0) dX0_append_23 rfl rfl rfl ?_
    refine jr_get (pc' := 27) jK0 (k := 33) (j := 1) (v := .int (h.1 33 1)) wfX0_9 dX0_append_24 rfl (by decide) rfl (by decide) rfl ?_
    refine jr_iload_n (pc' := 28) (i := 2) dX0_append_27 rfl rfl rfl ?_
    refine jr_iast (pc' := 29) (j := (h.1 33 1).toNatClampNeg) dX0_append_28 rfl (by decide) rfl (b1 c1) rfl ?_
    refine jr_aload_n (pc' := 30) (i := 0) dX0_append_29 rfl rfl rfl ?_
    refine jr_dup (pc' := 31)  dX0_append_30 rfl rfl ?_
    refine jr_get (pc' := 34) jK0 (k := 33) (j := 1) (v := .int (h.1 33 1)) wfX0_9 dX0_append_31 rfl (by decide) rfl (by decide) rfl ?_
    refine jr_iconst (pc' := 35) (v := 1) dX0_append_34 rfl (by decide) ?_
    refine jr_iadd (pc' := 36)  dX0_append_35 rfl  ?_
    refine jr_putI (pc' := 39) jK0 (k := 33) (j := 1) wfX0_9 dX0_append_36 rfl (by decide) rfl (by decide) (by decide) rfl rfl rfl ?_
    exact jr_vret dX0_append_39 rfl (k1 c1)
def H_Bkappend (h : HP) (x : Int32) (y : Int32) : HP := (if (40 : Int32) ≤ (h.1 33 1) then h else (jPI (jPI (jPI h 34 ((h.1 33 1).toNatClampNeg) x) 35 ((h.1 33 1).toNatClampNeg) y) 33 1 ((h.1 33 1) + 1)))
theorem c_Bkappend {E : jEnv} {n : Nat} (x : Int32) (y : Int32) (h : HP) (b0 : (¬ (40 : Int32) ≤ (h.1 33 1)) → vp_in (h.1 33 1) 40) (b1 : (¬ (40 : Int32) ≤ (h.1 33 1)) → vp_in (h.1 33 1) 40) : jC E mX0_append n [.ref 33, .int x, .int y] h (fun v h2 => v = none ∧ h2 = (H_Bkappend h x y)) :=
  jC.of (lv := [some (.ref 33), some (.int x), some (.int y)]) (by decide) (Nat.le_of_ble_eq_true rfl) ⟨rfl, rfl, rfl, trivial⟩ (q_Bkappend_0 x y h (fun c1 => ⟨rfl, (Eq.symm (by first | (rw [H_Bkappend, if_pos c1]; done) | (simp [H_Bkappend, c1]; done)))⟩) b0 b1 (fun c1 => ⟨rfl, (Eq.symm (by first | (rw [H_Bkappend, if_neg c1]; done) | (simp [H_Bkappend, c1]; done)))⟩))

theorem q_Shtear_0 {E : jEnv} {n : Nat} {X : State → Prop} {Post : Option Value → HP → Prop}  (h : HP)
    (k0 : Post (some (.int (h.1 33 1))) (jPI h 33 1 0))
    : jG E mX7_tear n X Post 0 [some (.ref 0), none] [] h := by
  refine jr_aload_n (pc' := 1) (i := 0) dX7_tear_0 rfl rfl rfl ?_
  refine jr_get (pc' := 4) jK7 (k := 0) (j := 6) (v := .ref 33) wfX7_62 dX7_tear_1 rfl (by decide) rfl (by decide) rfl ?_
  refine jr_get (pc' := 7) jK0 (k := 33) (j := 1) (v := .int (h.1 33 1)) wfX7_103 dX7_tear_4 rfl (by decide) rfl (by decide) rfl ?_
  refine jr_istore_n (pc' := 8) (i := 1) (lv' := [some (.ref 0), some (.int (h.1 33 1))]) dX7_tear_7 rfl rfl (by decide) rfl ?_
  refine jr_aload_n (pc' := 9) (i := 0) dX7_tear_8 rfl rfl rfl ?_
  refine jr_get (pc' := 12) jK7 (k := 0) (j := 6) (v := .ref 33) wfX7_62 dX7_tear_9 rfl (by decide) rfl (by decide) rfl ?_
  refine jr_iconst (pc' := 13) (v := 0) dX7_tear_12 rfl (by decide) ?_
  refine jr_putI (pc' := 16) jK0 (k := 33) (j := 1) wfX7_103 dX7_tear_13 rfl (by decide) rfl (by decide) (by decide) rfl rfl rfl ?_
  refine jr_iload_n (pc' := 17) (i := 1) dX7_tear_16 rfl rfl rfl ?_
  exact jr_iret dX7_tear_17 rfl rfl (k0)
def f_Shtear (f33_1 : Int32)  : Int32 := f33_1
theorem c_Shtear {E : jEnv} {n : Nat}  (h : HP)  : jC E mX7_tear n [.ref 0] h (fun v h2 => v = some (.int (f_Shtear (h.1 33 1))) ∧ h2 = (jPI h 33 1 0)) :=
  jC.of (lv := [some (.ref 0), none]) (by decide) (Nat.le_of_ble_eq_true rfl) ⟨rfl, trivial⟩ (q_Shtear_0  h (⟨(congrArg (fun z => some (Value.int z)) (Eq.symm rfl)), rfl⟩))

theorem q_Shseed_0 {E : jEnv} {n : Nat} {X : State → Prop} {Post : Option Value → HP → Prop} (x : Int32) (h : HP)
    (k0 : ((0 : Int32) ≤ x) → Post (some (.int (h.1 18 2))) (jPI h 18 2 x))
    (k1 : (¬ (0 : Int32) ≤ x) → Post (some (.int (-1000000002))) h)
    : jG E mX7_seed n X Post 0 [some (.ref 0), some (.int x), none] [] h := by
  refine jr_iload_n (pc' := 1) (i := 1) dX7_seed_0 rfl rfl rfl ?_
  by_cases c1 : (0 : Int32) ≤ x
  · refine jr_if_geT (pc' := 7) dX7_seed_1 rfl c1 ?_
    refine jr_aload_n (pc' := 8) (i := 0) dX7_seed_7 rfl rfl rfl ?_
    refine jr_get (pc' := 11) jK7 (k := 0) (j := 3) (v := .ref 18) wfX7_37 dX7_seed_8 rfl (by decide) rfl (by decide) rfl ?_
    refine jr_get (pc' := 14) jK5 (k := 18) (j := 2) (v := .int (h.1 18 2)) wfX7_273 dX7_seed_11 rfl (by decide) rfl (by decide) rfl ?_
    refine jr_istore_n (pc' := 15) (i := 2) (lv' := [some (.ref 0), some (.int x), some (.int (h.1 18 2))]) dX7_seed_14 rfl rfl (by decide) rfl ?_
    refine jr_aload_n (pc' := 16) (i := 0) dX7_seed_15 rfl rfl rfl ?_
    refine jr_get (pc' := 19) jK7 (k := 0) (j := 3) (v := .ref 18) wfX7_37 dX7_seed_16 rfl (by decide) rfl (by decide) rfl ?_
    refine jr_iload_n (pc' := 20) (i := 1) dX7_seed_19 rfl rfl rfl ?_
    refine jr_putI (pc' := 23) jK5 (k := 18) (j := 2) wfX7_273 dX7_seed_20 rfl (by decide) rfl (by decide) (by decide) rfl rfl rfl ?_
    refine jr_iload_n (pc' := 24) (i := 2) dX7_seed_23 rfl rfl rfl ?_
    exact jr_iret dX7_seed_24 rfl rfl (k0 c1)
  · refine jr_if_geF (pc' := 4) (tgt := 7) dX7_seed_1 rfl rfl c1 ?_
    refine jr_ldc (pc' := 6) (v := (-1000000002)) dX7_seed_4 rfl wcX7_74 ?_
    exact jr_iret dX7_seed_6 rfl rfl (k1 c1)
def f_Shseed (f18_2 : Int32) (x : Int32) : Int32 := (if (0 : Int32) ≤ x then f18_2 else (-1000000002))
def H_Shseed (h : HP) (x : Int32) : HP := (if (0 : Int32) ≤ x then (jPI h 18 2 x) else h)
theorem c_Shseed {E : jEnv} {n : Nat} (x : Int32) (h : HP)  : jC E mX7_seed n [.ref 0, .int x] h (fun v h2 => v = some (.int (f_Shseed (h.1 18 2) x)) ∧ h2 = (H_Shseed h x)) :=
  jC.of (lv := [some (.ref 0), some (.int x), none]) (by decide) (Nat.le_of_ble_eq_true rfl) ⟨rfl, rfl, trivial⟩ (q_Shseed_0 x h (fun c1 => ⟨(congrArg (fun z => some (Value.int z)) (Eq.symm (by first | (rw [f_Shseed, if_pos c1]; done) | (simp [f_Shseed, c1]; done)))), (Eq.symm (by first | (rw [H_Shseed, if_pos c1]; done) | (simp [H_Shseed, c1]; done)))⟩) (fun c1 => ⟨(congrArg (fun z => some (Value.int z)) (Eq.symm (by first | (rw [f_Shseed, if_neg c1]; done) | (simp [f_Shseed, c1]; done)))), (Eq.symm (by first | (rw [H_Shseed, if_neg c1]; done) | (simp [H_Shseed, c1]; done)))⟩))

theorem q_ShisImage_0 {E : jEnv} {n : Nat} {X : State → Prop} {Post : Option Value → HP → Prop} (x : Int32) (h : HP)
    (k0 : (x < 0) → Post (some (.int 0)) h)
    (k1 : (¬ x < 0) → ((2 : Int32) ≤ x) → Post (some (.int 0)) h)
    (k2 : (¬ x < 0) → (¬ (2 : Int32) ≤ x) → Post (some (.int 1)) h)
    : jG E mX7_isImage n X Post 0 [some (.int x)] [] h := by
  refine jr_iload_n (pc' := 1) (i := 0) dX7_isImage_0 rfl rfl rfl ?_
  by_cases c1 : x < 0
  · refine jr_if_ltT (pc' := 13) dX7_isImage_1 rfl c1 ?_
    refine jr_iconst (pc' := 14) (v := 0) dX7_isImage_13 rfl (by decide) ?_
    exact jr_iret dX7_isImage_14 rfl rfl (k0 c1)
  · refine jr_if_ltF (pc' := 4) (tgt := 13) dX7_isImage_1 rfl rfl c1 ?_
    refine jr_iload_n (pc' := 5) (i := 0) dX7_isImage_4 rfl rfl rfl ?_
    refine jr_iconst (pc' := 6) (v := 2) dX7_isImage_5 rfl (by decide) ?_
    by_cases c2 : (2 : Int32) ≤ x
    · refine jr_icmp_geT (pc' := 13) dX7_isImage_6 rfl c2 ?_
      refine jr_iconst (pc' := 14) (v := 0) dX7_isImage_13 rfl (by decide) ?_
      exact jr_iret dX7_isImage_14 rfl rfl (k1 c1 c2)
    · refine jr_icmp_geF (pc' := 9) (tgt := 13) dX7_isImage_6 rfl rfl c2 ?_
      refine jr_iconst (pc' := 10) (v := 1) dX7_isImage_9 rfl (by decide) ?_
      refine jr_goto (pc' := 14) dX7_isImage_10 rfl ?_
      exact jr_iret dX7_isImage_14 rfl rfl (k2 c1 c2)
def f_ShisImage  (x : Int32) : Int32 := (if x < 0 then 0 else (if (2 : Int32) ≤ x then 0 else 1))
theorem c_ShisImage {E : jEnv} {n : Nat} (x : Int32) (h : HP)  : jC E mX7_isImage n [.int x] h (fun v h2 => v = some (.int (f_ShisImage x)) ∧ h2 = h) :=
  jC.of (lv := [some (.int x)]) (by decide) (Nat.le_of_ble_eq_true rfl) ⟨rfl, trivial⟩ (q_ShisImage_0 x h (fun c1 => ⟨(congrArg (fun z => some (Value.int z)) (Eq.symm (by first | (rw [f_ShisImage, if_pos c1]; done) | (simp [f_ShisImage, c1]; done)))), rfl⟩) (fun c1 c2 => ⟨(congrArg (fun z => some (Value.int z)) (Eq.symm (by first | (rw [f_ShisImage, if_neg c1, if_pos c2]; done) | (simp [f_ShisImage, c1, c2]; done)))), rfl⟩) (fun c1 c2 => ⟨(congrArg (fun z => some (Value.int z)) (Eq.symm (by first | (rw [f_ShisImage, if_neg c1, if_neg c2]; done) | (simp [f_ShisImage, c1, c2]; done)))), rfl⟩))

theorem q_Stbecome18_40_0 {E : jEnv} {n : Nat} {X : State → Prop} {Post : Option Value → HP → Prop}  (h : HP)
    (k0 : Post none (jPA (jPA (jPA (jPA (jPA (jPL (jPI (jPI h 18 1 (h.1 40 1)) 18 2 (h.1 40 2)) 18 3 (h.2 40 3)) 19 (va_cpy (h.1 41) (h.1 19) (0 : Int32).toNatClampNeg (0 : Int32).toNatClampNeg (4 : Int32).toNatClampNeg)) 20 (va_cpy (h.1 42) (h.1 20) (0 : Int32).toNatClampNeg (0 : Int32).toNatClampNeg (4 : Int32).toNatClampNeg)) 21 (va_cpy (h.1 43) (h.1 21) (0 : Int32).toNatClampNeg (0 : Int32).toNatClampNeg (4 : Int32).toNatClampNeg)) 22 (va_cpy (h.1 44) (h.1 22) (0 : Int32).toNatClampNeg (0 : Int32).toNatClampNeg (4 : Int32).toNatClampNeg)) 23 (va_cpy (h.1 45) (h.1 23) (0 : Int32).toNatClampNeg (0 : Int32).toNatClampNeg (4 : Int32).toNatClampNeg)))
    : jG E mX5_become (n + 1) X Post 0 [some (.ref 18), some (.ref 40)] [] h := by
  refine jr_aload_n (pc' := 1) (i := 0) dX5_become_0 rfl rfl rfl ?_
  refine jr_aload_n (pc' := 2) (i := 1) dX5_become_1 rfl rfl rfl ?_
  refine jr_get (pc' := 5) jK5 (k := 40) (j := 1) (v := .int (h.1 40 1)) wfX5_9 dX5_become_2 rfl (by decide) rfl (by decide) rfl ?_
  refine jr_putI (pc' := 8) jK5 (k := 18) (j := 1) wfX5_9 dX5_become_5 rfl (by decide) rfl (by decide) (by decide) rfl rfl rfl ?_
  refine jr_aload_n (pc' := 9) (i := 0) dX5_become_8 rfl rfl rfl ?_
  refine jr_aload_n (pc' := 10) (i := 1) dX5_become_9 rfl rfl rfl ?_
  refine jr_get (pc' := 13) jK5 (k := 40) (j := 2) (v := .int (h.1 40 2)) wfX5_15 dX5_become_10 rfl (by decide) rfl (by decide) rfl ?_
  refine jr_putI (pc' := 16) jK5 (k := 18) (j := 2) wfX5_15 dX5_become_13 rfl (by decide) rfl (by decide) (by decide) rfl rfl rfl ?_
  refine jr_aload_n (pc' := 17) (i := 0) dX5_become_16 rfl rfl rfl ?_
  refine jr_aload_n (pc' := 18) (i := 1) dX5_become_17 rfl rfl rfl ?_
  refine jr_get (pc' := 21) jK5 (k := 40) (j := 3) (v := .long (h.2 40 3)) wfX5_18 dX5_become_18 rfl (by decide) rfl (by decide) rfl ?_
  refine jr_putL (pc' := 24) jK5 (k := 18) (j := 3) wfX5_18 dX5_become_21 rfl (by decide) rfl (by decide) rfl rfl rfl rfl ?_
  refine jr_aload_n (pc' := 25) (i := 1) dX5_become_24 rfl rfl rfl ?_
  refine jr_get (pc' := 28) jK5 (k := 40) (j := 4) (v := .ref 41) wfX5_22 dX5_become_25 rfl (by decide) rfl (by decide) rfl ?_
  refine jr_iconst (pc' := 29) (v := 0) dX5_become_28 rfl (by decide) ?_
  refine jr_aload_n (pc' := 30) (i := 0) dX5_become_29 rfl rfl rfl ?_
  refine jr_get (pc' := 33) jK5 (k := 18) (j := 4) (v := .ref 19) wfX5_22 dX5_become_30 rfl (by decide) rfl (by decide) rfl ?_
  refine jr_iconst (pc' := 34) (v := 0) dX5_become_33 rfl (by decide) ?_
  refine jr_iconst (pc' := 35) (v := 4) dX5_become_34 rfl (by decide) ?_
  refine jr_copy (pc' := 38) wmX5_47 wAcN wAcS wAcI dX5_become_35 rfl (by omega) (by decide) rfl (by decide) rfl (by decide) (by decide) (by decide) (by decide) (by decide) (Nat.le_of_ble_eq_true rfl) ?_
  refine jr_aload_n (pc' := 39) (i := 1) dX5_become_38 rfl rfl rfl ?_
  refine jr_get (pc' := 42) jK5 (k := 40) (j := 5) (v := .ref 42) wfX5_26 dX5_become_39 rfl (by decide) rfl (by decide) rfl ?_
  refine jr_iconst (pc' := 43) (v := 0) dX5_become_42 rfl (by decide) ?_
  refine jr_aload_n (pc' := 44) (i := 0) dX5_become_43 rfl rfl rfl ?_
  refine jr_get (pc' := 47) jK5 (k := 18) (j := 5) (v := .ref 20) wfX5_26 dX5_become_44 rfl (by decide) rfl (by decide) rfl ?_
  refine jr_iconst (pc' := 48) (v := 0) dX5_become_47 rfl (by decide) ?_
  refine jr_iconst (pc' := 49) (v := 4) dX5_become_48 rfl (by decide) ?_
  refine jr_copy (pc' := 52) wmX5_47 wAcN wAcS wAcI dX5_become_49 rfl (by omega) (by decide) rfl (by decide) rfl (by decide) (by decide) (by decide) (by decide) (by decide) (Nat.le_of_ble_eq_true rfl) ?_
  refine jr_aload_n (pc' := 53) (i := 1) dX5_become_52 rfl rfl rfl ?_
  refine jr_get (pc' := 56) jK5 (k := 40) (j := 6) (v := .ref 43) wfX5_29 dX5_become_53 rfl (by decide) rfl (by decide) rfl ?_
  refine jr_iconst (pc' := 57) (v := 0) dX5_become_56 rfl (by decide) ?_
  refine jr_aload_n (pc' := 58) (i := 0) dX5_become_57 rfl rfl rfl ?_
  refine jr_get (pc' := 61) jK5 (k := 18) (j := 6) (v := .ref 21) wfX5_29 dX5_become_58 rfl (by decide) rfl (by decide) rfl ?_
  refine jr_iconst (pc' := 62) (v := 0) dX5_become_61 rfl (by decide) ?_
  refine jr_iconst (pc' := 63) (v := 4) dX5_become_62 rfl (by decide) ?_
  refine jr_copy (pc' := 66) wmX5_47 wAcN wAcS wAcI dX5_become_63 rfl (by omega) (by decide) rfl (by decide) rfl (by decide) (by decide) (by decide) (by decide) (by decide) (Nat.le_of_ble_eq_true rfl) ?_
  refine jr_aload_n (pc' := 67) (i := 1) dX5_become_66 rfl rfl rfl ?_
  refine jr_get (pc' := 70) jK5 (k := 40) (j := 7) (v := .ref 44) wfX5_32 dX5_become_67 rfl (by decide) rfl (by decide) rfl ?_
  refine jr_iconst (pc' := 71) (v := 0) dX5_become_70 rfl (by decide) ?_
  refine jr_aload_n (pc' := 72) (i := 0) dX5_become_71 rfl rfl rfl ?_
  refine jr_get (pc' := 75) jK5 (k := 18) (j := 7) (v := .ref 22) wfX5_32 dX5_become_72 rfl (by decide) rfl (by decide) rfl ?_
  refine jr_iconst (pc' := 76) (v := 0) dX5_become_75 rfl (by decide) ?_
  refine jr_iconst (pc' := 77) (v := 4) dX5_become_76 rfl (by decide) ?_
  refine jr_copy (pc' := 80) wmX5_47 wAcN wAcS wAcI dX5_become_77 rfl (by omega) (by decide) rfl (by decide) rfl (by decide) (by decide) (by decide) (by decide) (by decide) (Nat.le_of_ble_eq_true rfl) ?_
  refine jr_aload_n (pc' := 81) (i := 1) dX5_become_80 rfl rfl rfl ?_
  refine jr_get (pc' := 84) jK5 (k := 40) (j := 8) (v := .ref 45) wfX5_35 dX5_become_81 rfl (by decide) rfl (by decide) rfl ?_
  refine jr_iconst (pc' := 85) (v := 0) dX5_become_84 rfl (by decide) ?_
  refine jr_aload_n (pc' := 86) (i := 0) dX5_become_85 rfl rfl rfl ?_
  refine jr_get (pc' := 89) jK5 (k := 18) (j := 8) (v := .ref 23) wfX5_35 dX5_become_86 rfl (by decide) rfl (by decide) rfl ?_
  refine jr_iconst (pc' := 90) (v := 0) dX5_become_89 rfl (by decide) ?_
  refine jr_iconst (pc' := 91) (v := 4) dX5_become_90 rfl (by decide) ?_
  refine jr_copy (pc' := 94) wmX5_47 wAcN wAcS wAcI dX5_become_91 rfl (by omega) (by decide) rfl (by decide) rfl (by decide) (by decide) (by decide) (by decide) (by decide) (Nat.le_of_ble_eq_true rfl) ?_
  exact jr_vret dX5_become_94 rfl (k0)
theorem c_Stbecome18_40 {E : jEnv} {n : Nat}  (h : HP)  : jC E mX5_become (n + 1) [.ref 18, .ref 40] h (fun v h2 => v = none ∧ h2 = (jPA (jPA (jPA (jPA (jPA (jPL (jPI (jPI h 18 1 (h.1 40 1)) 18 2 (h.1 40 2)) 18 3 (h.2 40 3)) 19 (va_cpy (h.1 41) (h.1 19) (0 : Int32).toNatClampNeg (0 : Int32).toNatClampNeg (4 : Int32).toNatClampNeg)) 20 (va_cpy (h.1 42) (h.1 20) (0 : Int32).toNatClampNeg (0 : Int32).toNatClampNeg (4 : Int32).toNatClampNeg)) 21 (va_cpy (h.1 43) (h.1 21) (0 : Int32).toNatClampNeg (0 : Int32).toNatClampNeg (4 : Int32).toNatClampNeg)) 22 (va_cpy (h.1 44) (h.1 22) (0 : Int32).toNatClampNeg (0 : Int32).toNatClampNeg (4 : Int32).toNatClampNeg)) 23 (va_cpy (h.1 45) (h.1 23) (0 : Int32).toNatClampNeg (0 : Int32).toNatClampNeg (4 : Int32).toNatClampNeg))) :=
  jC.of (lv := [some (.ref 18), some (.ref 40)]) (by decide) (Nat.le_of_ble_eq_true rfl) ⟨rfl, rfl, trivial⟩ (q_Stbecome18_40_0  h (⟨rfl, rfl⟩))

theorem q_Stbecome18_46_0 {E : jEnv} {n : Nat} {X : State → Prop} {Post : Option Value → HP → Prop}  (h : HP)
    (k0 : Post none (jPA (jPA (jPA (jPA (jPA (jPL (jPI (jPI h 18 1 (h.1 46 1)) 18 2 (h.1 46 2)) 18 3 (h.2 46 3)) 19 (va_cpy (h.1 47) (h.1 19) (0 : Int32).toNatClampNeg (0 : Int32).toNatClampNeg (4 : Int32).toNatClampNeg)) 20 (va_cpy (h.1 48) (h.1 20) (0 : Int32).toNatClampNeg (0 : Int32).toNatClampNeg (4 : Int32).toNatClampNeg)) 21 (va_cpy (h.1 49) (h.1 21) (0 : Int32).toNatClampNeg (0 : Int32).toNatClampNeg (4 : Int32).toNatClampNeg)) 22 (va_cpy (h.1 50) (h.1 22) (0 : Int32).toNatClampNeg (0 : Int32).toNatClampNeg (4 : Int32).toNatClampNeg)) 23 (va_cpy (h.1 51) (h.1 23) (0 : Int32).toNatClampNeg (0 : Int32).toNatClampNeg (4 : Int32).toNatClampNeg)))
    : jG E mX5_become (n + 1) X Post 0 [some (.ref 18), some (.ref 46)] [] h := by
  refine jr_aload_n (pc' := 1) (i := 0) dX5_become_0 rfl rfl rfl ?_
  refine jr_aload_n (pc' := 2) (i := 1) dX5_become_1 rfl rfl rfl ?_
  refine jr_get (pc' := 5) jK5 (k := 46) (j := 1) (v := .int (h.1 46 1)) wfX5_9 dX5_become_2 rfl (by decide) rfl (by decide) rfl ?_
  refine jr_putI (pc' := 8) jK5 (k := 18) (j := 1) wfX5_9 dX5_become_5 rfl (by decide) rfl (by decide) (by decide) rfl rfl rfl ?_
  refine jr_aload_n (pc' := 9) (i := 0) dX5_become_8 rfl rfl rfl ?_
  refine jr_aload_n (pc' := 10) (i := 1) dX5_become_9 rfl rfl rfl ?_
  refine jr_get (pc' := 13) jK5 (k := 46) (j := 2) (v := .int (h.1 46 2)) wfX5_15 dX5_become_10 rfl (by decide) rfl (by decide) rfl ?_
  refine jr_putI (pc' := 16) jK5 (k := 18) (j := 2) wfX5_15 dX5_become_13 rfl (by decide) rfl (by decide) (by decide) rfl rfl rfl ?_
  refine jr_aload_n (pc' := 17) (i := 0) dX5_become_16 rfl rfl rfl ?_
  refine jr_aload_n (pc' := 18) (i := 1) dX5_become_17 rfl rfl rfl ?_
  refine jr_get (pc' := 21) jK5 (k := 46) (j := 3) (v := .long (h.2 46 3)) wfX5_18 dX5_become_18 rfl (by decide) rfl (by decide) rfl ?_
  refine jr_putL (pc' := 24) jK5 (k := 18) (j := 3) wfX5_18 dX5_become_21 rfl (by decide) rfl (by decide) rfl rfl rfl rfl ?_
  refine jr_aload_n (pc' := 25) (i := 1) dX5_become_24 rfl rfl rfl ?_
  refine jr_get (pc' := 28) jK5 (k := 46) (j := 4) (v := .ref 47) wfX5_22 dX5_become_25 rfl (by decide) rfl (by decide) rfl ?_
  refine jr_iconst (pc' := 29) (v := 0) dX5_become_28 rfl (by decide) ?_
  refine jr_aload_n (pc' := 30) (i := 0) dX5_become_29 rfl rfl rfl ?_
  refine jr_get (pc' := 33) jK5 (k := 18) (j := 4) (v := .ref 19) wfX5_22 dX5_become_30 rfl (by decide) rfl (by decide) rfl ?_
  refine jr_iconst (pc' := 34) (v := 0) dX5_become_33 rfl (by decide) ?_
  refine jr_iconst (pc' := 35) (v := 4) dX5_become_34 rfl (by decide) ?_
  refine jr_copy (pc' := 38) wmX5_47 wAcN wAcS wAcI dX5_become_35 rfl (by omega) (by decide) rfl (by decide) rfl (by decide) (by decide) (by decide) (by decide) (by decide) (Nat.le_of_ble_eq_true rfl) ?_
  refine jr_aload_n (pc' := 39) (i := 1) dX5_become_38 rfl rfl rfl ?_
  refine jr_get (pc' := 42) jK5 (k := 46) (j := 5) (v := .ref 48) wfX5_26 dX5_become_39 rfl (by decide) rfl (by decide) rfl ?_
  refine jr_iconst (pc' := 43) (v := 0) dX5_become_42 rfl (by decide) ?_
  refine jr_aload_n (pc' := 44) (i := 0) dX5_become_43 rfl rfl rfl ?_
  refine jr_get (pc' := 47) jK5 (k := 18) (j := 5) (v := .ref 20) wfX5_26 dX5_become_44 rfl (by decide) rfl (by decide) rfl ?_
  refine jr_iconst (pc' := 48) (v := 0) dX5_become_47 rfl (by decide) ?_
  refine jr_iconst (pc' := 49) (v := 4) dX5_become_48 rfl (by decide) ?_
  refine jr_copy (pc' := 52) wmX5_47 wAcN wAcS wAcI dX5_become_49 rfl (by omega) (by decide) rfl (by decide) rfl (by decide) (by decide) (by decide) (by decide) (by decide) (Nat.le_of_ble_eq_true rfl) ?_
  refine jr_aload_n (pc' := 53) (i := 1) dX5_become_52 rfl rfl rfl ?_
  refine jr_get (pc' := 56) jK5 (k := 46) (j := 6) (v := .ref 49) wfX5_29 dX5_become_53 rfl (by decide) rfl (by decide) rfl ?_
  refine jr_iconst (pc' := 57) (v := 0) dX5_become_56 rfl (by decide) ?_
  refine jr_aload_n (pc' := 58) (i := 0) dX5_become_57 rfl rfl rfl ?_
  refine jr_get (pc' := 61) jK5 (k := 18) (j := 6) (v := .ref 21) wfX5_29 dX5_become_58 rfl (by decide) rfl (by decide) rfl ?_
  refine jr_iconst (pc' := 62) (v := 0) dX5_become_61 rfl (by decide) ?_
  refine jr_iconst (pc' := 63) (v := 4) dX5_become_62 rfl (by decide) ?_
  refine jr_copy (pc' := 66) wmX5_47 wAcN wAcS wAcI dX5_become_63 rfl (by omega) (by decide) rfl (by decide) rfl (by decide) (by decide) (by decide) (by decide) (by decide) (Nat.le_of_ble_eq_true rfl) ?_
  refine jr_aload_n (pc' := 67) (i := 1) dX5_become_66 rfl rfl rfl ?_
  refine jr_get (pc' := 70) jK5 (k := 46) (j := 7) (v := .ref 50) wfX5_32 dX5_become_67 rfl (by decide) rfl (by decide) rfl ?_
  refine jr_iconst (pc' := 71) (v := 0) dX5_become_70 rfl (by decide) ?_
  refine jr_aload_n (pc' := 72) (i := 0) dX5_become_71 rfl rfl rfl ?_
  refine jr_get (pc' := 75) jK5 (k := 18) (j := 7) (v := .ref 22) wfX5_32 dX5_become_72 rfl (by decide) rfl (by decide) rfl ?_
  refine jr_iconst (pc' := 76) (v := 0) dX5_become_75 rfl (by decide) ?_
  refine jr_iconst (pc' := 77) (v := 4) dX5_become_76 rfl (by decide) ?_
  refine jr_copy (pc' := 80) wmX5_47 wAcN wAcS wAcI dX5_become_77 rfl (by omega) (by decide) rfl (by decide) rfl (by decide) (by decide) (by decide) (by decide) (by decide) (Nat.le_of_ble_eq_true rfl) ?_
  refine jr_aload_n (pc' := 81) (i := 1) dX5_become_80 rfl rfl rfl ?_
  refine jr_get (pc' := 84) jK5 (k := 46) (j := 8) (v := .ref 51) wfX5_35 dX5_become_81 rfl (by decide) rfl (by decide) rfl ?_
  refine jr_iconst (pc' := 85) (v := 0) dX5_become_84 rfl (by decide) ?_
  refine jr_aload_n (pc' := 86) (i := 0) dX5_become_85 rfl rfl rfl ?_
  refine jr_get (pc' := 89) jK5 (k := 18) (j := 8) (v := .ref 23) wfX5_35 dX5_become_86 rfl (by decide) rfl (by decide) rfl ?_
  refine jr_iconst (pc' := 90) (v := 0) dX5_become_89 rfl (by decide) ?_
  refine jr_iconst (pc' := 91) (v := 4) dX5_become_90 rfl (by decide) ?_
  refine jr_copy (pc' := 94) wmX5_47 wAcN wAcS wAcI dX5_become_91 rfl (by omega) (by decide) rfl (by decide) rfl (by decide) (by decide) (by decide) (by decide) (by decide) (Nat.le_of_ble_eq_true rfl) ?_
  exact jr_vret dX5_become_94 rfl (k0)
theorem c_Stbecome18_46 {E : jEnv} {n : Nat}  (h : HP)  : jC E mX5_become (n + 1) [.ref 18, .ref 46] h (fun v h2 => v = none ∧ h2 = (jPA (jPA (jPA (jPA (jPA (jPL (jPI (jPI h 18 1 (h.1 46 1)) 18 2 (h.1 46 2)) 18 3 (h.2 46 3)) 19 (va_cpy (h.1 47) (h.1 19) (0 : Int32).toNatClampNeg (0 : Int32).toNatClampNeg (4 : Int32).toNatClampNeg)) 20 (va_cpy (h.1 48) (h.1 20) (0 : Int32).toNatClampNeg (0 : Int32).toNatClampNeg (4 : Int32).toNatClampNeg)) 21 (va_cpy (h.1 49) (h.1 21) (0 : Int32).toNatClampNeg (0 : Int32).toNatClampNeg (4 : Int32).toNatClampNeg)) 22 (va_cpy (h.1 50) (h.1 22) (0 : Int32).toNatClampNeg (0 : Int32).toNatClampNeg (4 : Int32).toNatClampNeg)) 23 (va_cpy (h.1 51) (h.1 23) (0 : Int32).toNatClampNeg (0 : Int32).toNatClampNeg (4 : Int32).toNatClampNeg))) :=
  jC.of (lv := [some (.ref 18), some (.ref 46)]) (by decide) (Nat.le_of_ble_eq_true rfl) ⟨rfl, rfl, trivial⟩ (q_Stbecome18_46_0  h (⟨rfl, rfl⟩))

theorem q_Stbecome40_18_0 {E : jEnv} {n : Nat} {X : State → Prop} {Post : Option Value → HP → Prop}  (h : HP)
    (k0 : Post none (jPA (jPA (jPA (jPA (jPA (jPL (jPI (jPI h 40 1 (h.1 18 1)) 40 2 (h.1 18 2)) 40 3 (h.2 18 3)) 41 (va_cpy (h.1 19) (h.1 41) (0 : Int32).toNatClampNeg (0 : Int32).toNatClampNeg (4 : Int32).toNatClampNeg)) 42 (va_cpy (h.1 20) (h.1 42) (0 : Int32).toNatClampNeg (0 : Int32).toNatClampNeg (4 : Int32).toNatClampNeg)) 43 (va_cpy (h.1 21) (h.1 43) (0 : Int32).toNatClampNeg (0 : Int32).toNatClampNeg (4 : Int32).toNatClampNeg)) 44 (va_cpy (h.1 22) (h.1 44) (0 : Int32).toNatClampNeg (0 : Int32).toNatClampNeg (4 : Int32).toNatClampNeg)) 45 (va_cpy (h.1 23) (h.1 45) (0 : Int32).toNatClampNeg (0 : Int32).toNatClampNeg (4 : Int32).toNatClampNeg)))
    : jG E mX5_become (n + 1) X Post 0 [some (.ref 40), some (.ref 18)] [] h := by
  refine jr_aload_n (pc' := 1) (i := 0) dX5_become_0 rfl rfl rfl ?_
  refine jr_aload_n (pc' := 2) (i := 1) dX5_become_1 rfl rfl rfl ?_
  refine jr_get (pc' := 5) jK5 (k := 18) (j := 1) (v := .int (h.1 18 1)) wfX5_9 dX5_become_2 rfl (by decide) rfl (by decide) rfl ?_
  refine jr_putI (pc' := 8) jK5 (k := 40) (j := 1) wfX5_9 dX5_become_5 rfl (by decide) rfl (by decide) (by decide) rfl rfl rfl ?_
  refine jr_aload_n (pc' := 9) (i := 0) dX5_become_8 rfl rfl rfl ?_
  refine jr_aload_n (pc' := 10) (i := 1) dX5_become_9 rfl rfl rfl ?_
  refine jr_get (pc' := 13) jK5 (k := 18) (j := 2) (v := .int (h.1 18 2)) wfX5_15 dX5_become_10 rfl (by decide) rfl (by decide) rfl ?_
  refine jr_putI (pc' := 16) jK5 (k := 40) (j := 2) wfX5_15 dX5_become_13 rfl (by decide) rfl (by decide) (by decide) rfl rfl rfl ?_
  refine jr_aload_n (pc' := 17) (i := 0) dX5_become_16 rfl rfl rfl ?_
  refine jr_aload_n (pc' := 18) (i := 1) dX5_become_17 rfl rfl rfl ?_
  refine jr_get (pc' := 21) jK5 (k := 18) (j := 3) (v := .long (h.2 18 3)) wfX5_18 dX5_become_18 rfl (by decide) rfl (by decide) rfl ?_
  refine jr_putL (pc' := 24) jK5 (k := 40) (j := 3) wfX5_18 dX5_become_21 rfl (by decide) rfl (by decide) rfl rfl rfl rfl ?_
  refine jr_aload_n (pc' := 25) (i := 1) dX5_become_24 rfl rfl rfl ?_
  refine jr_get (pc' := 28) jK5 (k := 18) (j := 4) (v := .ref 19) wfX5_22 dX5_become_25 rfl (by decide) rfl (by decide) rfl ?_
  refine jr_iconst (pc' := 29) (v := 0) dX5_become_28 rfl (by decide) ?_
  refine jr_aload_n (pc' := 30) (i := 0) dX5_become_29 rfl rfl rfl ?_
  refine jr_get (pc' := 33) jK5 (k := 40) (j := 4) (v := .ref 41) wfX5_22 dX5_become_30 rfl (by decide) rfl (by decide) rfl ?_
  refine jr_iconst (pc' := 34) (v := 0) dX5_become_33 rfl (by decide) ?_
  refine jr_iconst (pc' := 35) (v := 4) dX5_become_34 rfl (by decide) ?_
  refine jr_copy (pc' := 38) wmX5_47 wAcN wAcS wAcI dX5_become_35 rfl (by omega) (by decide) rfl (by decide) rfl (by decide) (by decide) (by decide) (by decide) (by decide) (Nat.le_of_ble_eq_true rfl) ?_
  refine jr_aload_n (pc' := 39) (i := 1) dX5_become_38 rfl rfl rfl ?_
  refine jr_get (pc' := 42) jK5 (k := 18) (j := 5) (v := .ref 20) wfX5_26 dX5_become_39 rfl (by decide) rfl (by decide) rfl ?_
  refine jr_iconst (pc' := 43) (v := 0) dX5_become_42 rfl (by decide) ?_
  refine jr_aload_n (pc' := 44) (i := 0) dX5_become_43 rfl rfl rfl ?_
  refine jr_get (pc' := 47) jK5 (k := 40) (j := 5) (v := .ref 42) wfX5_26 dX5_become_44 rfl (by decide) rfl (by decide) rfl ?_
  refine jr_iconst (pc' := 48) (v := 0) dX5_become_47 rfl (by decide) ?_
  refine jr_iconst (pc' := 49) (v := 4) dX5_become_48 rfl (by decide) ?_
  refine jr_copy (pc' := 52) wmX5_47 wAcN wAcS wAcI dX5_become_49 rfl (by omega) (by decide) rfl (by decide) rfl (by decide) (by decide) (by decide) (by decide) (by decide) (Nat.le_of_ble_eq_true rfl) ?_
  refine jr_aload_n (pc' := 53) (i := 1) dX5_become_52 rfl rfl rfl ?_
  refine jr_get (pc' := 56) jK5 (k := 18) (j := 6) (v := .ref 21) wfX5_29 dX5_become_53 rfl (by decide) rfl (by decide) rfl ?_
  refine jr_iconst (pc' := 57) (v := 0) dX5_become_56 rfl (by decide) ?_
  refine jr_aload_n (pc' := 58) (i := 0) dX5_become_57 rfl rfl rfl ?_
  refine jr_get (pc' := 61) jK5 (k := 40) (j := 6) (v := .ref 43) wfX5_29 dX5_become_58 rfl (by decide) rfl (by decide) rfl ?_
  refine jr_iconst (pc' := 62) (v := 0) dX5_become_61 rfl (by decide) ?_
  refine jr_iconst (pc' := 63) (v := 4) dX5_become_62 rfl (by decide) ?_
  refine jr_copy (pc' := 66) wmX5_47 wAcN wAcS wAcI dX5_become_63 rfl (by omega) (by decide) rfl (by decide) rfl (by decide) (by decide) (by decide) (by decide) (by decide) (Nat.le_of_ble_eq_true rfl) ?_
  refine jr_aload_n (pc' := 67) (i := 1) dX5_become_66 rfl rfl rfl ?_
  refine jr_get (pc' := 70) jK5 (k := 18) (j := 7) (v := .ref 22) wfX5_32 dX5_become_67 rfl (by decide) rfl (by decide) rfl ?_
  refine jr_iconst (pc' := 71) (v := 0) dX5_become_70 rfl (by decide) ?_
  refine jr_aload_n (pc' := 72) (i := 0) dX5_become_71 rfl rfl rfl ?_
  refine jr_get (pc' := 75) jK5 (k := 40) (j := 7) (v := .ref 44) wfX5_32 dX5_become_72 rfl (by decide) rfl (by decide) rfl ?_
  refine jr_iconst (pc' := 76) (v := 0) dX5_become_75 rfl (by decide) ?_
  refine jr_iconst (pc' := 77) (v := 4) dX5_become_76 rfl (by decide) ?_
  refine jr_copy (pc' := 80) wmX5_47 wAcN wAcS wAcI dX5_become_77 rfl (by omega) (by decide) rfl (by decide) rfl (by decide) (by decide) (by decide) (by decide) (by decide) (Nat.le_of_ble_eq_true rfl) ?_
  refine jr_aload_n (pc' := 81) (i := 1) dX5_become_80 rfl rfl rfl ?_
  refine jr_get (pc' := 84) jK5 (k := 18) (j := 8) (v := .ref 23) wfX5_35 dX5_become_81 rfl (by decide) rfl (by decide) rfl ?_
  refine jr_iconst (pc' := 85) (v := 0) dX5_become_84 rfl (by decide) ?_
  refine jr_aload_n (pc' := 86) (i := 0) dX5_become_85 rfl rfl rfl ?_
  refine jr_get (pc' := 89) jK5 (k := 40) (j := 8) (v := .ref 45) wfX5_35 dX5_become_86 rfl (by decide) rfl (by decide) rfl ?_
  refine jr_iconst (pc' := 90) (v := 0) dX5_become_89 rfl (by decide) ?_
  refine jr_iconst (pc' := 91) (v := 4) dX5_become_90 rfl (by decide) ?_
  refine jr_copy (pc' := 94) wmX5_47 wAcN wAcS wAcI dX5_become_91 rfl (by omega) (by decide) rfl (by decide) rfl (by decide) (by decide) (by decide) (by decide) (by decide) (Nat.le_of_ble_eq_true rfl) ?_
  exact jr_vret dX5_become_94 rfl (k0)
theorem c_Stbecome40_18 {E : jEnv} {n : Nat}  (h : HP)  : jC E mX5_become (n + 1) [.ref 40, .ref 18] h (fun v h2 => v = none ∧ h2 = (jPA (jPA (jPA (jPA (jPA (jPL (jPI (jPI h 40 1 (h.1 18 1)) 40 2 (h.1 18 2)) 40 3 (h.2 18 3)) 41 (va_cpy (h.1 19) (h.1 41) (0 : Int32).toNatClampNeg (0 : Int32).toNatClampNeg (4 : Int32).toNatClampNeg)) 42 (va_cpy (h.1 20) (h.1 42) (0 : Int32).toNatClampNeg (0 : Int32).toNatClampNeg (4 : Int32).toNatClampNeg)) 43 (va_cpy (h.1 21) (h.1 43) (0 : Int32).toNatClampNeg (0 : Int32).toNatClampNeg (4 : Int32).toNatClampNeg)) 44 (va_cpy (h.1 22) (h.1 44) (0 : Int32).toNatClampNeg (0 : Int32).toNatClampNeg (4 : Int32).toNatClampNeg)) 45 (va_cpy (h.1 23) (h.1 45) (0 : Int32).toNatClampNeg (0 : Int32).toNatClampNeg (4 : Int32).toNatClampNeg))) :=
  jC.of (lv := [some (.ref 40), some (.ref 18)]) (by decide) (Nat.le_of_ble_eq_true rfl) ⟨rfl, rfl, trivial⟩ (q_Stbecome40_18_0  h (⟨rfl, rfl⟩))

theorem q_Stbecome46_18_0 {E : jEnv} {n : Nat} {X : State → Prop} {Post : Option Value → HP → Prop}  (h : HP)
    (k0 : Post none (jPA (jPA (jPA (jPA (jPA (jPL (jPI (jPI h 46 1 (h.1 18 1)) 46 2 (h.1 18 2)) 46 3 (h.2 18 3)) 47 (va_cpy (h.1 19) (h.1 47) (0 : Int32).toNatClampNeg (0 : Int32).toNatClampNeg (4 : Int32).toNatClampNeg)) 48 (va_cpy (h.1 20) (h.1 48) (0 : Int32).toNatClampNeg (0 : Int32).toNatClampNeg (4 : Int32).toNatClampNeg)) 49 (va_cpy (h.1 21) (h.1 49) (0 : Int32).toNatClampNeg (0 : Int32).toNatClampNeg (4 : Int32).toNatClampNeg)) 50 (va_cpy (h.1 22) (h.1 50) (0 : Int32).toNatClampNeg (0 : Int32).toNatClampNeg (4 : Int32).toNatClampNeg)) 51 (va_cpy (h.1 23) (h.1 51) (0 : Int32).toNatClampNeg (0 : Int32).toNatClampNeg (4 : Int32).toNatClampNeg)))
    : jG E mX5_become (n + 1) X Post 0 [some (.ref 46), some (.ref 18)] [] h := by
  refine jr_aload_n (pc' := 1) (i := 0) dX5_become_0 rfl rfl rfl ?_
  refine jr_aload_n (pc' := 2) (i := 1) dX5_become_1 rfl rfl rfl ?_
  refine jr_get (pc' := 5) jK5 (k := 18) (j := 1) (v := .int (h.1 18 1)) wfX5_9 dX5_become_2 rfl (by decide) rfl (by decide) rfl ?_
  refine jr_putI (pc' := 8) jK5 (k := 46) (j := 1) wfX5_9 dX5_become_5 rfl (by decide) rfl (by decide) (by decide) rfl rfl rfl ?_
  refine jr_aload_n (pc' := 9) (i := 0) dX5_become_8 rfl rfl rfl ?_
  refine jr_aload_n (pc' := 10) (i := 1) dX5_become_9 rfl rfl rfl ?_
  refine jr_get (pc' := 13) jK5 (k := 18) (j := 2) (v := .int (h.1 18 2)) wfX5_15 dX5_become_10 rfl (by decide) rfl (by decide) rfl ?_
  refine jr_putI (pc' := 16) jK5 (k := 46) (j := 2) wfX5_15 dX5_become_13 rfl (by decide) rfl (by decide) (by decide) rfl rfl rfl ?_
  refine jr_aload_n (pc' := 17) (i := 0) dX5_become_16 rfl rfl rfl ?_
  refine jr_aload_n (pc' := 18) (i := 1) dX5_become_17 rfl rfl rfl ?_
  refine jr_get (pc' := 21) jK5 (k := 18) (j := 3) (v := .long (h.2 18 3)) wfX5_18 dX5_become_18 rfl (by decide) rfl (by decide) rfl ?_
  refine jr_putL (pc' := 24) jK5 (k := 46) (j := 3) wfX5_18 dX5_become_21 rfl (by decide) rfl (by decide) rfl rfl rfl rfl ?_
  refine jr_aload_n (pc' := 25) (i := 1) dX5_become_24 rfl rfl rfl ?_
  refine jr_get (pc' := 28) jK5 (k := 18) (j := 4) (v := .ref 19) wfX5_22 dX5_become_25 rfl (by decide) rfl (by decide) rfl ?_
  refine jr_iconst (pc' := 29) (v := 0) dX5_become_28 rfl (by decide) ?_
  refine jr_aload_n (pc' := 30) (i := 0) dX5_become_29 rfl rfl rfl ?_
  refine jr_get (pc' := 33) jK5 (k := 46) (j := 4) (v := .ref 47) wfX5_22 dX5_become_30 rfl (by decide) rfl (by decide) rfl ?_
  refine jr_iconst (pc' := 34) (v := 0) dX5_become_33 rfl (by decide) ?_
  refine jr_iconst (pc' := 35) (v := 4) dX5_become_34 rfl (by decide) ?_
  refine jr_copy (pc' := 38) wmX5_47 wAcN wAcS wAcI dX5_become_35 rfl (by omega) (by decide) rfl (by decide) rfl (by decide) (by decide) (by decide) (by decide) (by decide) (Nat.le_of_ble_eq_true rfl) ?_
  refine jr_aload_n (pc' := 39) (i := 1) dX5_become_38 rfl rfl rfl ?_
  refine jr_get (pc' := 42) jK5 (k := 18) (j := 5) (v := .ref 20) wfX5_26 dX5_become_39 rfl (by decide) rfl (by decide) rfl ?_
  refine jr_iconst (pc' := 43) (v := 0) dX5_become_42 rfl (by decide) ?_
  refine jr_aload_n (pc' := 44) (i := 0) dX5_become_43 rfl rfl rfl ?_
  refine jr_get (pc' := 47) jK5 (k := 46) (j := 5) (v := .ref 48) wfX5_26 dX5_become_44 rfl (by decide) rfl (by decide) rfl ?_
  refine jr_iconst (pc' := 48) (v := 0) dX5_become_47 rfl (by decide) ?_
  refine jr_iconst (pc' := 49) (v := 4) dX5_become_48 rfl (by decide) ?_
  refine jr_copy (pc' := 52) wmX5_47 wAcN wAcS wAcI dX5_become_49 rfl (by omega) (by decide) rfl (by decide) rfl (by decide) (by decide) (by decide) (by decide) (by decide) (Nat.le_of_ble_eq_true rfl) ?_
  refine jr_aload_n (pc' := 53) (i := 1) dX5_become_52 rfl rfl rfl ?_
  refine jr_get (pc' := 56) jK5 (k := 18) (j := 6) (v := .ref 21) wfX5_29 dX5_become_53 rfl (by decide) rfl (by decide) rfl ?_
  refine jr_iconst (pc' := 57) (v := 0) dX5_become_56 rfl (by decide) ?_
  refine jr_aload_n (pc' := 58) (i := 0) dX5_become_57 rfl rfl rfl ?_
  refine jr_get (pc' := 61) jK5 (k := 46) (j := 6) (v := .ref 49) wfX5_29 dX5_become_58 rfl (by decide) rfl (by decide) rfl ?_
  refine jr_iconst (pc' := 62) (v := 0) dX5_become_61 rfl (by decide) ?_
  refine jr_iconst (pc' := 63) (v := 4) dX5_become_62 rfl (by decide) ?_
  refine jr_copy (pc' := 66) wmX5_47 wAcN wAcS wAcI dX5_become_63 rfl (by omega) (by decide) rfl (by decide) rfl (by decide) (by decide) (by decide) (by decide) (by decide) (Nat.le_of_ble_eq_true rfl) ?_
  refine jr_aload_n (pc' := 67) (i := 1) dX5_become_66 rfl rfl rfl ?_
  refine jr_get (pc' := 70) jK5 (k := 18) (j := 7) (v := .ref 22) wfX5_32 dX5_become_67 rfl (by decide) rfl (by decide) rfl ?_
  refine jr_iconst (pc' := 71) (v := 0) dX5_become_70 rfl (by decide) ?_
  refine jr_aload_n (pc' := 72) (i := 0) dX5_become_71 rfl rfl rfl ?_
  refine jr_get (pc' := 75) jK5 (k := 46) (j := 7) (v := .ref 50) wfX5_32 dX5_become_72 rfl (by decide) rfl (by decide) rfl ?_
  refine jr_iconst (pc' := 76) (v := 0) dX5_become_75 rfl (by decide) ?_
  refine jr_iconst (pc' := 77) (v := 4) dX5_become_76 rfl (by decide) ?_
  refine jr_copy (pc' := 80) wmX5_47 wAcN wAcS wAcI dX5_become_77 rfl (by omega) (by decide) rfl (by decide) rfl (by decide) (by decide) (by decide) (by decide) (by decide) (Nat.le_of_ble_eq_true rfl) ?_
  refine jr_aload_n (pc' := 81) (i := 1) dX5_become_80 rfl rfl rfl ?_
  refine jr_get (pc' := 84) jK5 (k := 18) (j := 8) (v := .ref 23) wfX5_35 dX5_become_81 rfl (by decide) rfl (by decide) rfl ?_
  refine jr_iconst (pc' := 85) (v := 0) dX5_become_84 rfl (by decide) ?_
  refine jr_aload_n (pc' := 86) (i := 0) dX5_become_85 rfl rfl rfl ?_
  refine jr_get (pc' := 89) jK5 (k := 46) (j := 8) (v := .ref 51) wfX5_35 dX5_become_86 rfl (by decide) rfl (by decide) rfl ?_
  refine jr_iconst (pc' := 90) (v := 0) dX5_become_89 rfl (by decide) ?_
  refine jr_iconst (pc' := 91) (v := 4) dX5_become_90 rfl (by decide) ?_
  refine jr_copy (pc' := 94) wmX5_47 wAcN wAcS wAcI dX5_become_91 rfl (by omega) (by decide) rfl (by decide) rfl (by decide) (by decide) (by decide) (by decide) (by decide) (Nat.le_of_ble_eq_true rfl) ?_
  exact jr_vret dX5_become_94 rfl (k0)
theorem c_Stbecome46_18 {E : jEnv} {n : Nat}  (h : HP)  : jC E mX5_become (n + 1) [.ref 46, .ref 18] h (fun v h2 => v = none ∧ h2 = (jPA (jPA (jPA (jPA (jPA (jPL (jPI (jPI h 46 1 (h.1 18 1)) 46 2 (h.1 18 2)) 46 3 (h.2 18 3)) 47 (va_cpy (h.1 19) (h.1 47) (0 : Int32).toNatClampNeg (0 : Int32).toNatClampNeg (4 : Int32).toNatClampNeg)) 48 (va_cpy (h.1 20) (h.1 48) (0 : Int32).toNatClampNeg (0 : Int32).toNatClampNeg (4 : Int32).toNatClampNeg)) 49 (va_cpy (h.1 21) (h.1 49) (0 : Int32).toNatClampNeg (0 : Int32).toNatClampNeg (4 : Int32).toNatClampNeg)) 50 (va_cpy (h.1 22) (h.1 50) (0 : Int32).toNatClampNeg (0 : Int32).toNatClampNeg (4 : Int32).toNatClampNeg)) 51 (va_cpy (h.1 23) (h.1 51) (0 : Int32).toNatClampNeg (0 : Int32).toNatClampNeg (4 : Int32).toNatClampNeg))) :=
  jC.of (lv := [some (.ref 46), some (.ref 18)]) (by decide) (Nat.le_of_ble_eq_true rfl) ⟨rfl, rfl, trivial⟩ (q_Stbecome46_18_0  h (⟨rfl, rfl⟩))

theorem q_ShgoBack0_0 {E : jEnv} {n : Nat} {X : State → Prop} {Post : Option Value → HP → Prop}  (h : HP)
    (k0 : ((f_ShisImage 0) = 0) → Post (some (.int (-1000000001))) h)
    (k1 : (¬ (f_ShisImage 0) = 0) → ((h.1 39 0) = 0) → Post (some (.int (-1000000003))) h)
    (k2 : (¬ (f_ShisImage 0) = 0) → (¬ (h.1 39 0) = 0) → Post (some (.int 1)) (jPA (jPA (jPA (jPA (jPA (jPL (jPI (jPI h 18 1 (h.1 40 1)) 18 2 (h.1 40 2)) 18 3 (h.2 40 3)) 19 (va_cpy ((h.1 41)) ((h.1 19)) (0 : Int32).toNatClampNeg (0 : Int32).toNatClampNeg (4 : Int32).toNatClampNeg)) 20 (va_cpy ((h.1 42)) ((h.1 20)) (0 : Int32).toNatClampNeg (0 : Int32).toNatClampNeg (4 : Int32).toNatClampNeg)) 21 (va_cpy ((h.1 43)) ((h.1 21)) (0 : Int32).toNatClampNeg (0 : Int32).toNatClampNeg (4 : Int32).toNatClampNeg)) 22 (va_cpy ((h.1 44)) ((h.1 22)) (0 : Int32).toNatClampNeg (0 : Int32).toNatClampNeg (4 : Int32).toNatClampNeg)) 23 (va_cpy ((h.1 45)) ((h.1 23)) (0 : Int32).toNatClampNeg (0 : Int32).toNatClampNeg (4 : Int32).toNatClampNeg)))
    : jG E mX7_goBack (n + 2) X Post 0 [some (.ref 0), some (.int 0)] [] h := by
  refine jr_iload_n (pc' := 1) (i := 1) dX7_goBack_0 rfl rfl rfl ?_
  refine jr_callS (pc' := 4) (av := [.int 0]) (st := []) sX7_isImage wmX7_276 dX7_goBack_1 rfl rfl (Nat.le_of_ble_eq_true rfl) rfl (c_ShisImage (n := n + 1) 0 h ) (fun v h2 hp => ?_)
  rw [hp.1, hp.2]
  show jG E mX7_goBack (n + 2) X Post 4 [some (.ref 0), some (.int 0)] [.int (f_ShisImage 0)] h
  by_cases c1 : (f_ShisImage 0) = 0
  · refine jr_if_neF (pc' := 7) (tgt := 10) dX7_goBack_4 rfl rfl c1 ?_
    refine jr_ldc (pc' := 9) (v := (-1000000001)) dX7_goBack_7 rfl wcX7_146 ?_
    exact jr_iret dX7_goBack_9 rfl rfl (k0 c1)
  · refine jr_if_neT (pc' := 10) dX7_goBack_4 rfl c1 ?_
    refine jr_aload_n (pc' := 11) (i := 0) dX7_goBack_10 rfl rfl rfl ?_
    refine jr_get (pc' := 14) jK7 (k := 0) (j := 8) (v := .ref 39) wfX7_70 dX7_goBack_11 rfl (by decide) rfl (by decide) rfl ?_
    refine jr_iload_n (pc' := 15) (i := 1) dX7_goBack_14 rfl rfl rfl ?_
    refine jr_zald (pc' := 16) (v := h.1 39 0) dX7_goBack_15 rfl (by decide) rfl (jvin (by decide)) ((congrArg (h.1 39) (by decide : (0 : Int32).toNatClampNeg = 0)).trans rfl) ?_
    by_cases c2 : (h.1 39 0) = 0
    · refine jr_if_neF (pc' := 19) (tgt := 22) dX7_goBack_16 rfl rfl c2 ?_
      refine jr_ldc (pc' := 21) (v := (-1000000003)) dX7_goBack_19 rfl wcX7_224 ?_
      exact jr_iret dX7_goBack_21 rfl rfl (k1 c1 c2)
    · refine jr_if_neT (pc' := 22) dX7_goBack_16 rfl c2 ?_
      refine jr_aload_n (pc' := 23) (i := 0) dX7_goBack_22 rfl rfl rfl ?_
      refine jr_get (pc' := 26) jK7 (k := 0) (j := 3) (v := .ref 18) wfX7_37 dX7_goBack_23 rfl (by decide) rfl (by decide) rfl ?_
      refine jr_aload_n (pc' := 27) (i := 0) dX7_goBack_26 rfl rfl rfl ?_
      refine jr_get (pc' := 30) jK7 (k := 0) (j := 7) (v := .ref 38) wfX7_66 dX7_goBack_27 rfl (by decide) rfl (by decide) rfl ?_
      refine jr_iload_n (pc' := 31) (i := 1) dX7_goBack_30 rfl rfl rfl ?_
      refine jr_aald (pc' := 32) (v := 40) dX7_goBack_31 rfl (by decide) rfl (jvin (by decide)) ((congrArg (jRef 38) (by decide : (0 : Int32).toNatClampNeg = 0)).trans rfl) ?_
      refine jr_callV (pc' := 35) (k := 18) (av := [.ref 40]) (st := []) sX5_become wmX7_279 dX7_goBack_32 rfl (by decide) rfl (by decide) rfl rfl rfl (Nat.le_of_ble_eq_true rfl) rfl (c_Stbecome18_40 (n := n)  h ) (fun v h2 hp => ?_)
      rw [hp.1, hp.2]
      show jG E mX7_goBack (n + 2) X Post 35 [some (.ref 0), some (.int 0)] [] (jPA (jPA (jPA (jPA (jPA (jPL (jPI (jPI h 18 1 (h.1 40 1)) 18 2 (h.1 40 2)) 18 3 (h.2 40 3)) 19 (va_cpy ((h.1 41)) ((h.1 19)) (0 : Int32).toNatClampNeg (0 : Int32).toNatClampNeg (4 : Int32).toNatClampNeg)) 20 (va_cpy ((h.1 42)) ((h.1 20)) (0 : Int32).toNatClampNeg (0 : Int32).toNatClampNeg (4 : Int32).toNatClampNeg)) 21 (va_cpy ((h.1 43)) ((h.1 21)) (0 : Int32).toNatClampNeg (0 : Int32).toNatClampNeg (4 : Int32).toNatClampNeg)) 22 (va_cpy ((h.1 44)) ((h.1 22)) (0 : Int32).toNatClampNeg (0 : Int32).toNatClampNeg (4 : Int32).toNatClampNeg)) 23 (va_cpy ((h.1 45)) ((h.1 23)) (0 : Int32).toNatClampNeg (0 : Int32).toNatClampNeg (4 : Int32).toNatClampNeg))
      refine jr_iconst (pc' := 36) (v := 1) dX7_goBack_35 rfl (by decide) ?_
      exact jr_iret dX7_goBack_36 rfl rfl (k2 c1 c2)
def f_ShgoBack0 (r39 : Nat → Int32)  : Int32 := (if (f_ShisImage 0) = 0 then (-1000000001) else (if (r39 0) = 0 then (-1000000003) else 1))
def H_ShgoBack0 (h : HP)  : HP := (if (f_ShisImage 0) = 0 then h else (if (h.1 39 0) = 0 then h else (jPA (jPA (jPA (jPA (jPA (jPL (jPI (jPI h 18 1 (h.1 40 1)) 18 2 (h.1 40 2)) 18 3 (h.2 40 3)) 19 (va_cpy ((h.1 41)) ((h.1 19)) (0 : Int32).toNatClampNeg (0 : Int32).toNatClampNeg (4 : Int32).toNatClampNeg)) 20 (va_cpy ((h.1 42)) ((h.1 20)) (0 : Int32).toNatClampNeg (0 : Int32).toNatClampNeg (4 : Int32).toNatClampNeg)) 21 (va_cpy ((h.1 43)) ((h.1 21)) (0 : Int32).toNatClampNeg (0 : Int32).toNatClampNeg (4 : Int32).toNatClampNeg)) 22 (va_cpy ((h.1 44)) ((h.1 22)) (0 : Int32).toNatClampNeg (0 : Int32).toNatClampNeg (4 : Int32).toNatClampNeg)) 23 (va_cpy ((h.1 45)) ((h.1 23)) (0 : Int32).toNatClampNeg (0 : Int32).toNatClampNeg (4 : Int32).toNatClampNeg))))
theorem c_ShgoBack0 {E : jEnv} {n : Nat}  (h : HP)  : jC E mX7_goBack (n + 2) [.ref 0, .int 0] h (fun v h2 => v = some (.int (f_ShgoBack0 (h.1 39))) ∧ h2 = (H_ShgoBack0 h )) :=
  jC.of (lv := [some (.ref 0), some (.int 0)]) (by decide) (Nat.le_of_ble_eq_true rfl) ⟨rfl, rfl, trivial⟩ (q_ShgoBack0_0  h (fun c1 => ⟨(congrArg (fun z => some (Value.int z)) (Eq.symm (by first | (rw [f_ShgoBack0, if_pos c1]; done) | (simp [f_ShgoBack0, c1]; done)))), (Eq.symm (by first | (rw [H_ShgoBack0, if_pos c1]; done) | (simp [H_ShgoBack0, c1]; done)))⟩) (fun c1 c2 => ⟨(congrArg (fun z => some (Value.int z)) (Eq.symm (by first | (rw [f_ShgoBack0, if_neg c1, if_pos c2]; done) | (simp [f_ShgoBack0, c1, c2]; done)))), (Eq.symm (by first | (rw [H_ShgoBack0, if_neg c1, if_pos c2]; done) | (simp [H_ShgoBack0, c1, c2]; done)))⟩) (fun c1 c2 => ⟨(congrArg (fun z => some (Value.int z)) (Eq.symm (by first | (rw [f_ShgoBack0, if_neg c1, if_neg c2]; done) | (simp [f_ShgoBack0, c1, c2]; done)))), (Eq.symm (by first | (rw [H_ShgoBack0, if_neg c1, if_neg c2]; done) | (simp [H_ShgoBack0, c1, c2]; done)))⟩))

theorem q_ShgoBack1_0 {E : jEnv} {n : Nat} {X : State → Prop} {Post : Option Value → HP → Prop}  (h : HP)
    (k0 : ((f_ShisImage 1) = 0) → Post (some (.int (-1000000001))) h)
    (k1 : (¬ (f_ShisImage 1) = 0) → ((h.1 39 1) = 0) → Post (some (.int (-1000000003))) h)
    (k2 : (¬ (f_ShisImage 1) = 0) → (¬ (h.1 39 1) = 0) → Post (some (.int 1)) (jPA (jPA (jPA (jPA (jPA (jPL (jPI (jPI h 18 1 (h.1 46 1)) 18 2 (h.1 46 2)) 18 3 (h.2 46 3)) 19 (va_cpy ((h.1 47)) ((h.1 19)) (0 : Int32).toNatClampNeg (0 : Int32).toNatClampNeg (4 : Int32).toNatClampNeg)) 20 (va_cpy ((h.1 48)) ((h.1 20)) (0 : Int32).toNatClampNeg (0 : Int32).toNatClampNeg (4 : Int32).toNatClampNeg)) 21 (va_cpy ((h.1 49)) ((h.1 21)) (0 : Int32).toNatClampNeg (0 : Int32).toNatClampNeg (4 : Int32).toNatClampNeg)) 22 (va_cpy ((h.1 50)) ((h.1 22)) (0 : Int32).toNatClampNeg (0 : Int32).toNatClampNeg (4 : Int32).toNatClampNeg)) 23 (va_cpy ((h.1 51)) ((h.1 23)) (0 : Int32).toNatClampNeg (0 : Int32).toNatClampNeg (4 : Int32).toNatClampNeg)))
    : jG E mX7_goBack (n + 2) X Post 0 [some (.ref 0), some (.int 1)] [] h := by
  refine jr_iload_n (pc' := 1) (i := 1) dX7_goBack_0 rfl rfl rfl ?_
  refine jr_callS (pc' := 4) (av := [.int 1]) (st := []) sX7_isImage wmX7_276 dX7_goBack_1 rfl rfl (Nat.le_of_ble_eq_true rfl) rfl (c_ShisImage (n := n + 1) 1 h ) (fun v h2 hp => ?_)
  rw [hp.1, hp.2]
  show jG E mX7_goBack (n + 2) X Post 4 [some (.ref 0), some (.int 1)] [.int (f_ShisImage 1)] h
  by_cases c1 : (f_ShisImage 1) = 0
  · refine jr_if_neF (pc' := 7) (tgt := 10) dX7_goBack_4 rfl rfl c1 ?_
    refine jr_ldc (pc' := 9) (v := (-1000000001)) dX7_goBack_7 rfl wcX7_146 ?_
    exact jr_iret dX7_goBack_9 rfl rfl (k0 c1)
  · refine jr_if_neT (pc' := 10) dX7_goBack_4 rfl c1 ?_
    refine jr_aload_n (pc' := 11) (i := 0) dX7_goBack_10 rfl rfl rfl ?_
    refine jr_get (pc' := 14) jK7 (k := 0) (j := 8) (v := .ref 39) wfX7_70 dX7_goBack_11 rfl (by decide) rfl (by decide) rfl ?_
    refine jr_iload_n (pc' := 15) (i := 1) dX7_goBack_14 rfl rfl rfl ?_
    refine jr_zald (pc' := 16) (v := h.1 39 1) dX7_goBack_15 rfl (by decide) rfl (jvin (by decide)) ((congrArg (h.1 39) (by decide : (1 : Int32).toNatClampNeg = 1)).trans rfl) ?_
    by_cases c2 : (h.1 39 1) = 0
    · refine jr_if_neF (pc' := 19) (tgt := 22) dX7_goBack_16 rfl rfl c2 ?_
      refine jr_ldc (pc' := 21) (v := (-1000000003)) dX7_goBack_19 rfl wcX7_224 ?_
      exact jr_iret dX7_goBack_21 rfl rfl (k1 c1 c2)
    · refine jr_if_neT (pc' := 22) dX7_goBack_16 rfl c2 ?_
      refine jr_aload_n (pc' := 23) (i := 0) dX7_goBack_22 rfl rfl rfl ?_
      refine jr_get (pc' := 26) jK7 (k := 0) (j := 3) (v := .ref 18) wfX7_37 dX7_goBack_23 rfl (by decide) rfl (by decide) rfl ?_
      refine jr_aload_n (pc' := 27) (i := 0) dX7_goBack_26 rfl rfl rfl ?_
      refine jr_get (pc' := 30) jK7 (k := 0) (j := 7) (v := .ref 38) wfX7_66 dX7_goBack_27 rfl (by decide) rfl (by decide) rfl ?_
      refine jr_iload_n (pc' := 31) (i := 1) dX7_goBack_30 rfl rfl rfl ?_
      refine jr_aald (pc' := 32) (v := 46) dX7_goBack_31 rfl (by decide) rfl (jvin (by decide)) ((congrArg (jRef 38) (by decide : (1 : Int32).toNatClampNeg = 1)).trans rfl) ?_
      refine jr_callV (pc' := 35) (k := 18) (av := [.ref 46]) (st := []) sX5_become wmX7_279 dX7_goBack_32 rfl (by decide) rfl (by decide) rfl rfl rfl (Nat.le_of_ble_eq_true rfl) rfl (c_Stbecome18_46 (n := n)  h ) (fun v h2 hp => ?_)
      rw [hp.1, hp.2]
      show jG E mX7_goBack (n + 2) X Post 35 [some (.ref 0), some (.int 1)] [] (jPA (jPA (jPA (jPA (jPA (jPL (jPI (jPI h 18 1 (h.1 46 1)) 18 2 (h.1 46 2)) 18 3 (h.2 46 3)) 19 (va_cpy ((h.1 47)) ((h.1 19)) (0 : Int32).toNatClampNeg (0 : Int32).toNatClampNeg (4 : Int32).toNatClampNeg)) 20 (va_cpy ((h.1 48)) ((h.1 20)) (0 : Int32).toNatClampNeg (0 : Int32).toNatClampNeg (4 : Int32).toNatClampNeg)) 21 (va_cpy ((h.1 49)) ((h.1 21)) (0 : Int32).toNatClampNeg (0 : Int32).toNatClampNeg (4 : Int32).toNatClampNeg)) 22 (va_cpy ((h.1 50)) ((h.1 22)) (0 : Int32).toNatClampNeg (0 : Int32).toNatClampNeg (4 : Int32).toNatClampNeg)) 23 (va_cpy ((h.1 51)) ((h.1 23)) (0 : Int32).toNatClampNeg (0 : Int32).toNatClampNeg (4 : Int32).toNatClampNeg))
      refine jr_iconst (pc' := 36) (v := 1) dX7_goBack_35 rfl (by decide) ?_
      exact jr_iret dX7_goBack_36 rfl rfl (k2 c1 c2)
def f_ShgoBack1 (r39 : Nat → Int32)  : Int32 := (if (f_ShisImage 1) = 0 then (-1000000001) else (if (r39 1) = 0 then (-1000000003) else 1))
def H_ShgoBack1 (h : HP)  : HP := (if (f_ShisImage 1) = 0 then h else (if (h.1 39 1) = 0 then h else (jPA (jPA (jPA (jPA (jPA (jPL (jPI (jPI h 18 1 (h.1 46 1)) 18 2 (h.1 46 2)) 18 3 (h.2 46 3)) 19 (va_cpy ((h.1 47)) ((h.1 19)) (0 : Int32).toNatClampNeg (0 : Int32).toNatClampNeg (4 : Int32).toNatClampNeg)) 20 (va_cpy ((h.1 48)) ((h.1 20)) (0 : Int32).toNatClampNeg (0 : Int32).toNatClampNeg (4 : Int32).toNatClampNeg)) 21 (va_cpy ((h.1 49)) ((h.1 21)) (0 : Int32).toNatClampNeg (0 : Int32).toNatClampNeg (4 : Int32).toNatClampNeg)) 22 (va_cpy ((h.1 50)) ((h.1 22)) (0 : Int32).toNatClampNeg (0 : Int32).toNatClampNeg (4 : Int32).toNatClampNeg)) 23 (va_cpy ((h.1 51)) ((h.1 23)) (0 : Int32).toNatClampNeg (0 : Int32).toNatClampNeg (4 : Int32).toNatClampNeg))))
theorem c_ShgoBack1 {E : jEnv} {n : Nat}  (h : HP)  : jC E mX7_goBack (n + 2) [.ref 0, .int 1] h (fun v h2 => v = some (.int (f_ShgoBack1 (h.1 39))) ∧ h2 = (H_ShgoBack1 h )) :=
  jC.of (lv := [some (.ref 0), some (.int 1)]) (by decide) (Nat.le_of_ble_eq_true rfl) ⟨rfl, rfl, trivial⟩ (q_ShgoBack1_0  h (fun c1 => ⟨(congrArg (fun z => some (Value.int z)) (Eq.symm (by first | (rw [f_ShgoBack1, if_pos c1]; done) | (simp [f_ShgoBack1, c1]; done)))), (Eq.symm (by first | (rw [H_ShgoBack1, if_pos c1]; done) | (simp [H_ShgoBack1, c1]; done)))⟩) (fun c1 c2 => ⟨(congrArg (fun z => some (Value.int z)) (Eq.symm (by first | (rw [f_ShgoBack1, if_neg c1, if_pos c2]; done) | (simp [f_ShgoBack1, c1, c2]; done)))), (Eq.symm (by first | (rw [H_ShgoBack1, if_neg c1, if_pos c2]; done) | (simp [H_ShgoBack1, c1, c2]; done)))⟩) (fun c1 c2 => ⟨(congrArg (fun z => some (Value.int z)) (Eq.symm (by first | (rw [f_ShgoBack1, if_neg c1, if_neg c2]; done) | (simp [f_ShgoBack1, c1, c2]; done)))), (Eq.symm (by first | (rw [H_ShgoBack1, if_neg c1, if_neg c2]; done) | (simp [H_ShgoBack1, c1, c2]; done)))⟩))

theorem q_Moin_0 {E : jEnv} {n : Nat} {X : State → Prop} {Post : Option Value → HP → Prop} (x : Int64) (y : Int64) (z : Int64) (h : HP)
    (k0 : ((lg_cmp x y) < 0) → Post (some (.int 0)) h)
    (k1 : (¬ (lg_cmp x y) < 0) → ((0 : Int32) < (lg_cmp x z)) → Post (some (.int 0)) h)
    (k2 : (¬ (lg_cmp x y) < 0) → (¬ (0 : Int32) < (lg_cmp x z)) → Post (some (.int 1)) h)
    : jG E mX8_in n X Post 0 [some (.long x), none, some (.long y), none, some (.long z), none] [] h := by
  refine jr_lload_n (pc' := 1) (i := 0) dX8_in_0 rfl rfl rfl ?_
  refine jr_lload_n (pc' := 2) (i := 2) dX8_in_1 rfl rfl rfl ?_
  refine jr_lcmp (pc' := 3)  dX8_in_2 rfl  ?_
  by_cases c1 : (lg_cmp x y) < 0
  · refine jr_if_ltT (pc' := 17) dX8_in_3 rfl c1 ?_
    refine jr_iconst (pc' := 18) (v := 0) dX8_in_17 rfl (by decide) ?_
    exact jr_iret dX8_in_18 rfl rfl (k0 c1)
  · refine jr_if_ltF (pc' := 6) (tgt := 17) dX8_in_3 rfl rfl c1 ?_
    refine jr_lload_n (pc' := 7) (i := 0) dX8_in_6 rfl rfl rfl ?_
    refine jr_lload (pc' := 9) (i := 4) dX8_in_7 rfl rfl ?_
    refine jr_lcmp (pc' := 10)  dX8_in_9 rfl  ?_
    by_cases c2 : (0 : Int32) < (lg_cmp x z)
    · refine jr_if_gtT (pc' := 17) dX8_in_10 rfl c2 ?_
      refine jr_iconst (pc' := 18) (v := 0) dX8_in_17 rfl (by decide) ?_
      exact jr_iret dX8_in_18 rfl rfl (k1 c1 c2)
    · refine jr_if_gtF (pc' := 13) (tgt := 17) dX8_in_10 rfl rfl c2 ?_
      refine jr_iconst (pc' := 14) (v := 1) dX8_in_13 rfl (by decide) ?_
      refine jr_goto (pc' := 18) dX8_in_14 rfl ?_
      exact jr_iret dX8_in_18 rfl rfl (k2 c1 c2)
def f_Moin  (x : Int64) (y : Int64) (z : Int64) : Int32 := (if (lg_cmp x y) < 0 then 0 else (if (0 : Int32) < (lg_cmp x z) then 0 else 1))
theorem c_Moin {E : jEnv} {n : Nat} (x : Int64) (y : Int64) (z : Int64) (h : HP)  : jC E mX8_in n [.long x, .long y, .long z] h (fun v h2 => v = some (.int (f_Moin x y z)) ∧ h2 = h) :=
  jC.of (lv := [some (.long x), none, some (.long y), none, some (.long z), none]) (by decide) (Nat.le_of_ble_eq_true rfl) ⟨rfl, rfl, rfl, trivial⟩ (q_Moin_0 x y z h (fun c1 => ⟨(congrArg (fun z => some (Value.int z)) (Eq.symm (by first | (rw [f_Moin, if_pos c1]; done) | (simp [f_Moin, c1]; done)))), rfl⟩) (fun c1 c2 => ⟨(congrArg (fun z => some (Value.int z)) (Eq.symm (by first | (rw [f_Moin, if_neg c1, if_pos c2]; done) | (simp [f_Moin, c1, c2]; done)))), rfl⟩) (fun c1 c2 => ⟨(congrArg (fun z => some (Value.int z)) (Eq.symm (by first | (rw [f_Moin, if_neg c1, if_neg c2]; done) | (simp [f_Moin, c1, c2]; done)))), rfl⟩))
theorem nb_Moin (x y z : Int64) : narrow .boolean (.int (f_Moin x y z)) = .int (f_Moin x y z) := by
  unfold f_Moin
  (repeat' split) <;> rfl

theorem q_MoisAt_0 {E : jEnv} {n : Nat} {X : State → Prop} {Post : Option Value → HP → Prop} (x : Int32) (y : Int32) (h : HP)
    (k0 : ((h.1 52 18) ≤ (h.1 52 19)) → Post (some (.int 0)) h)
    (b0 : (¬ (h.1 52 18) ≤ (h.1 52 19)) → vp_in (h.1 52 19) 500)
    (k1 : (¬ (h.1 52 18) ≤ (h.1 52 19)) → ((f_Moin ((h.1 61 ((h.1 52 19).toNatClampNeg)).toInt64) x.toInt64 y.toInt64) = 0) → Post (some (.int 0)) h)
    (k2 : (¬ (h.1 52 18) ≤ (h.1 52 19)) → (¬ (f_Moin ((h.1 61 ((h.1 52 19).toNatClampNeg)).toInt64) x.toInt64 y.toInt64) = 0) → Post (some (.int 1)) h)
    : jG E mX8_isAt (n + 1) X Post 0 [some (.ref 52), some (.int x), some (.int y)] [] h := by
  refine jr_aload_n (pc' := 1) (i := 0) dX8_isAt_0 rfl rfl rfl ?_
  refine jr_get (pc' := 4) jK8 (k := 52) (j := 19) (v := .int (h.1 52 19)) wfX8_101 dX8_isAt_1 rfl (by decide) rfl (by decide) rfl ?_
  refine jr_aload_n (pc' := 5) (i := 0) dX8_isAt_4 rfl rfl rfl ?_
  refine jr_get (pc' := 8) jK8 (k := 52) (j := 18) (v := .int (h.1 52 18)) wfX8_95 dX8_isAt_5 rfl (by decide) rfl (by decide) rfl ?_
  by_cases c1 : (h.1 52 18) ≤ (h.1 52 19)
  · refine jr_icmp_geT (pc' := 35) dX8_isAt_8 rfl c1 ?_
    refine jr_iconst (pc' := 36) (v := 0) dX8_isAt_35 rfl (by decide) ?_
    exact jr_iret dX8_isAt_36 rfl rfl (k0 c1)
  · refine jr_icmp_geF (pc' := 11) (tgt := 35) dX8_isAt_8 rfl rfl c1 ?_
    refine jr_aload_n (pc' := 12) (i := 0) dX8_isAt_11 rfl rfl rfl ?_
    refine jr_get (pc' := 15) jK8 (k := 52) (j := 17) (v := .ref 61) wfX8_35 dX8_isAt_12 rfl (by decide) rfl (by decide) rfl ?_
    refine jr_aload_n (pc' := 16) (i := 0) dX8_isAt_15 rfl rfl rfl ?_
    refine jr_get (pc' := 19) jK8 (k := 52) (j := 19) (v := .int (h.1 52 19)) wfX8_101 dX8_isAt_16 rfl (by decide) rfl (by decide) rfl ?_
    refine jr_iald (pc' := 20) (v := h.1 61 ((h.1 52 19).toNatClampNeg)) dX8_isAt_19 rfl (by decide) rfl (b0 c1) rfl ?_
    refine jr_i2l (pc' := 21)  dX8_isAt_20 rfl  ?_
    refine jr_iload_n (pc' := 22) (i := 1) dX8_isAt_21 rfl rfl rfl ?_
    refine jr_i2l (pc' := 23)  dX8_isAt_22 rfl  ?_
    refine jr_iload_n (pc' := 24) (i := 2) dX8_isAt_23 rfl rfl rfl ?_
    refine jr_i2l (pc' := 25)  dX8_isAt_24 rfl  ?_
    refine jr_callS (pc' := 28) (av := [.long ((h.1 61 ((h.1 52 19).toNatClampNeg)).toInt64), .long x.toInt64, .long y.toInt64]) (st := []) sX8_in wmX8_79 dX8_isAt_25 rfl rfl (Nat.le_of_ble_eq_true rfl) rfl (c_Moin (n := n) ((h.1 61 ((h.1 52 19).toNatClampNeg)).toInt64) x.toInt64 y.toInt64 h ) (fun v h2 hp => ?_)
    rw [hp.1, hp.2]
    show jG E mX8_isAt (n + 1) X Post 28 [some (.ref 52), some (.int x), some (.int y)] [.int (f_Moin ((h.1 61 ((h.1 52 19).toNatClampNeg)).toInt64) x.toInt64 y.toInt64)] h
    by_cases c2 : (f_Moin ((h.1 61 ((h.1 52 19).toNatClampNeg)).toInt64) x.toInt64 y.toInt64) = 0
    · refine jr_if_eqT (pc' := 35) dX8_isAt_28 rfl c2 ?_
      refine jr_iconst (pc' := 36) (v := 0) dX8_isAt_35 rfl (by decide) ?_
      exact jr_iret dX8_isAt_36 rfl rfl (k1 c1 c2)
    · refine jr_if_eqF (pc' := 31) (tgt := 35) dX8_isAt_28 rfl rfl c2 ?_
      refine jr_iconst (pc' := 32) (v := 1) dX8_isAt_31 rfl (by decide) ?_
      refine jr_goto (pc' := 36) dX8_isAt_32 rfl ?_
      exact jr_iret dX8_isAt_36 rfl rfl (k2 c1 c2)
def f_MoisAt (f52_18 : Int32) (f52_19 : Int32) (r61 : Nat → Int32) (x : Int32) (y : Int32) : Int32 := (if (f52_18) ≤ (f52_19) then 0 else (if (f_Moin ((r61 ((f52_19).toNatClampNeg)).toInt64) x.toInt64 y.toInt64) = 0 then 0 else 1))
theorem c_MoisAt {E : jEnv} {n : Nat} (x : Int32) (y : Int32) (h : HP) (b0 : (¬ (h.1 52 18) ≤ (h.1 52 19)) → vp_in (h.1 52 19) 500) : jC E mX8_isAt (n + 1) [.ref 52, .int x, .int y] h (fun v h2 => v = some (.int (f_MoisAt (h.1 52 18) (h.1 52 19) (h.1 61) x y)) ∧ h2 = h) :=
  jC.of (lv := [some (.ref 52), some (.int x), some (.int y)]) (by decide) (Nat.le_of_ble_eq_true rfl) ⟨rfl, rfl, rfl, trivial⟩ (q_MoisAt_0 x y h (fun c1 => ⟨(congrArg (fun z => some (Value.int z)) (Eq.symm (by first | (rw [f_MoisAt, if_pos c1]; done) | (simp [f_MoisAt, c1]; done)))), rfl⟩) b0 (fun c1 c2 => ⟨(congrArg (fun z => some (Value.int z)) (Eq.symm (by first | (rw [f_MoisAt, if_neg c1, if_pos c2]; done) | (simp [f_MoisAt, c1, c2]; done)))), rfl⟩) (fun c1 c2 => ⟨(congrArg (fun z => some (Value.int z)) (Eq.symm (by first | (rw [f_MoisAt, if_neg c1, if_neg c2]; done) | (simp [f_MoisAt, c1, c2]; done)))), rfl⟩))

set_option maxRecDepth 4000 in
theorem q_MoverbOf_0 {E : jEnv} {n : Nat} {X : State → Prop} {Post : Option Value → HP → Prop} (x : Int64) (h : HP)
    (k0 : ((lg_cmp x 394692) = 0) → ((lg_cmp x 13358) = 0) → Post (some (.int 0)) h)
    (k1 : ((lg_cmp x 394692) = 0) → (¬ (lg_cmp x 13358) = 0) → ((lg_cmp x 464627) = 0) → Post (some (.int 0)) h)
    (k2 : ((lg_cmp x 394692) = 0) → (¬ (lg_cmp x 13358) = 0) → (¬ (lg_cmp x 464627) = 0) → ((lg_cmp x 102355333) = 0) → Post (some (.int 0)) h)
    (k3 : ((lg_cmp x 394692) = 0) → (¬ (lg_cmp x 13358) = 0) → (¬ (lg_cmp x 464627) = 0) → (¬ (lg_cmp x 102355333) = 0) → Post (some (.int 0)) h)
    (k4 : (¬ (lg_cmp x 394692) = 0) → ((lg_cmp x 18935) = 0) → ((lg_cmp x 13358) = 0) → Post (some (.int 1)) h)
    (k5 : (¬ (lg_cmp x 394692) = 0) → ((lg_cmp x 18935) = 0) → (¬ (lg_cmp x 13358) = 0) → ((lg_cmp x 464627) = 0) → Post (some (.int 1)) h)
    (k6 : (¬ (lg_cmp x 394692) = 0) → ((lg_cmp x 18935) = 0) → (¬ (lg_cmp x 13358) = 0) → (¬ (lg_cmp x 464627) = 0) → ((lg_cmp x 102355333) = 0) → Post (some (.int 1)) h)
    (k7 : (¬ (lg_cmp x 394692) = 0) → ((lg_cmp x 18935) = 0) → (¬ (lg_cmp x 13358) = 0) → (¬ (lg_cmp x 464627) = 0) → (¬ (lg_cmp x 102355333) = 0) → Post (some (.int 1)) h)
    (k8 : (¬ (lg_cmp x 394692) = 0) → (¬ (lg_cmp x 18935) = 0) → ((lg_cmp x 664709) = 0) → ((lg_cmp x 13358) = 0) → Post (some (.int 2)) h)
    (k9 : (¬ (lg_cmp x 394692) = 0) → (¬ (lg_cmp x 18935) = 0) → ((lg_cmp x 664709) = 0) → (¬ (lg_cmp x 13358) = 0) → ((lg_cmp x 464627) = 0) → Post (some (.int 2)) h)
    (k10 : (¬ (lg_cmp x 394692) = 0) → (¬ (lg_cmp x 18935) = 0) → ((lg_cmp x 664709) = 0) → (¬ (lg_cmp x 13358) = 0) → (¬ (lg_cmp x 464627) = 0) → ((lg_cmp x 102355333) = 0) → Post (some (.int 2)) h)
    (k11 : (¬ (lg_cmp x 394692) = 0) → (¬ (lg_cmp x 18935) = 0) → ((lg_cmp x 664709) = 0) → (¬ (lg_cmp x 13358) = 0) → (¬ (lg_cmp x 464627) = 0) → (¬ (lg_cmp x 102355333) = 0) → Post (some (.int 2)) h)
    (k12 : (¬ (lg_cmp x 394692) = 0) → (¬ (lg_cmp x 18935) = 0) → (¬ (lg_cmp x 664709) = 0) → ((lg_cmp x 13358) = 0) → Post (some (.int 3)) h)
    (k13 : (¬ (lg_cmp x 394692) = 0) → (¬ (lg_cmp x 18935) = 0) → (¬ (lg_cmp x 664709) = 0) → (¬ (lg_cmp x 13358) = 0) → ((lg_cmp x 464627) = 0) → Post (some (.int 4)) h)
    (k14 : (¬ (lg_cmp x 394692) = 0) → (¬ (lg_cmp x 18935) = 0) → (¬ (lg_cmp x 664709) = 0) → (¬ (lg_cmp x 13358) = 0) → (¬ (lg_cmp x 464627) = 0) → ((lg_cmp x 102355333) = 0) → Post (some (.int 5)) h)
    (k15 : (¬ (lg_cmp x 394692) = 0) → (¬ (lg_cmp x 18935) = 0) → (¬ (lg_cmp x 664709) = 0) → (¬ (lg_cmp x 13358) = 0) → (¬ (lg_cmp x 464627) = 0) → (¬ (lg_cmp x 102355333) = 0) → Post (some (.int (-1))) h)
    : jG E mX8_verbOf n X Post 0 [some (.long x), none, none, none] [] h := by
  refine jr_lload_n (pc' := 1) (i := 0) dX8_verbOf_0 rfl rfl rfl ?_
  refine jr_ldc2 (pc' := 4) (v := 394692) dX8_verbOf_1 rfl wcX8_104 ?_
  refine jr_lcmp (pc' := 5)  dX8_verbOf_4 rfl  ?_
  by_cases c1 : (lg_cmp x 394692) = 0
  · refine jr_if_neF (pc' := 8) (tgt := 12) dX8_verbOf_5 rfl rfl c1 ?_
    refine jr_iconst (pc' := 9) (v := 0) dX8_verbOf_8 rfl (by decide) ?_
    refine jr_goto (pc' := 37) dX8_verbOf_9 rfl ?_
    refine jr_istore_n (pc' := 38) (i := 2) (lv' := [some (.long x), none, some (.int 0), none]) dX8_verbOf_37 rfl rfl (by decide) rfl ?_
    refine jr_lload_n (pc' := 39) (i := 0) dX8_verbOf_38 rfl rfl rfl ?_
    refine jr_ldc2 (pc' := 42) (v := 13358) dX8_verbOf_39 rfl wcX8_110 ?_
    refine jr_lcmp (pc' := 43)  dX8_verbOf_42 rfl  ?_
    by_cases c2 : (lg_cmp x 13358) = 0
    · refine jr_if_neF (pc' := 46) (tgt := 50) dX8_verbOf_43 rfl rfl c2 ?_
      refine jr_iconst (pc' := 47) (v := 3) dX8_verbOf_46 rfl (by decide) ?_
      refine jr_goto (pc' := 75) dX8_verbOf_47 rfl ?_
      refine jr_istore_n (pc' := 76) (i := 3) (lv' := [some (.long x), none, some (.int 0), some (.int 3)]) dX8_verbOf_75 rfl rfl (by decide) rfl ?_
      refine jr_iload_n (pc' := 77) (i := 2) dX8_verbOf_76 rfl rfl rfl ?_
      refine jr_iconst (pc' := 78) (v := (-1)) dX8_verbOf_77 rfl (by decide) ?_
      refine jr_icmp_eqF (pc' := 81) (tgt := 85) dX8_verbOf_78 rfl rfl (by decide) ?_
      refine jr_iload_n (pc' := 82) (i := 2) dX8_verbOf_81 rfl rfl rfl ?_
      refine jr_goto (pc' := 86) dX8_verbOf_82 rfl ?_
      exact jr_iret dX8_verbOf_86 rfl rfl (k0 c1 c2)
    · refine jr_if_neT (pc' := 50) dX8_verbOf_43 rfl c2 ?_
      refine jr_lload_n (pc' := 51) (i := 0) dX8_verbOf_50 rfl rfl rfl ?_
      refine jr_ldc2 (pc' := 54) (v := 464627) dX8_verbOf_51 rfl wcX8_112 ?_
      refine jr_lcmp (pc' := 55)  dX8_verbOf_54 rfl  ?_
      by_cases c3 : (lg_cmp x 464627) = 0
      · refine jr_if_neF (pc' := 58) (tgt := 62) dX8_verbOf_55 rfl rfl c3 ?_
        refine jr_iconst (pc' := 59) (v := 4) dX8_verbOf_58 rfl (by decide) ?_
        refine jr_goto (pc' := 75) dX8_verbOf_59 rfl ?_
        refine jr_istore_n (pc' := 76) (i := 3) (lv' := [some (.long x), none, some (.int 0), some (.int 4)]) dX8_verbOf_75 rfl rfl (by decide) rfl ?_
        refine jr_iload_n (pc' := 77) (i := 2) dX8_verbOf_76 rfl rfl rfl ?_
        refine jr_iconst (pc' := 78) (v := (-1)) dX8_verbOf_77 rfl (by decide) ?_
        refine jr_icmp_eqF (pc' := 81) (tgt := 85) dX8_verbOf_78 rfl rfl (by decide) ?_
        refine jr_iload_n (pc' := 82) (i := 2) dX8_verbOf_81 rfl rfl rfl ?_
        refine jr_goto (pc' := 86) dX8_verbOf_82 rfl ?_
        exact jr_iret dX8_verbOf_86 rfl rfl (k1 c1 c2 c3)
      · refine jr_if_neT (pc' := 62) dX8_verbOf_55 rfl c3 ?_
        refine jr_lload_n (pc' := 63) (i := 0) dX8_verbOf_62 rfl rfl rfl ?_
        refine jr_ldc2 (pc' := 66) (v := 102355333) dX8_verbOf_63 rfl wcX8_114 ?_
        refine jr_lcmp (pc' := 67)  dX8_verbOf_66 rfl  ?_
        by_cases c4 : (lg_cmp x 102355333) = 0
        · refine jr_if_neF (pc' := 70) (tgt := 74) dX8_verbOf_67 rfl rfl c4 ?_
          refine jr_iconst (pc' := 71) (v := 5) dX8_verbOf_70 rfl (by decide) ?_
          refine jr_goto (pc' := 75) dX8_verbOf_71 rfl ?_
          refine jr_istore_n (pc' := 76) (i := 3) (lv' := [some (.long x), none, some (.int 0), some (.int 5)]) dX8_verbOf_75 rfl rfl (by decide) rfl ?_
          refine jr_iload_n (pc' := 77) (i := 2) dX8_verbOf_76 rfl rfl rfl ?_
          refine jr_iconst (pc' := 78) (v := (-1)) dX8_verbOf_77 rfl (by decide) ?_
          refine jr_icmp_eqF (pc' := 81) (tgt := 85) dX8_verbOf_78 rfl rfl (by decide) ?_
          refine jr_iload_n (pc' := 82) (i := 2) dX8_verbOf_81 rfl rfl rfl ?_
          refine jr_goto (pc' := 86) dX8_verbOf_82 rfl ?_
          exact jr_iret dX8_verbOf_86 rfl rfl (k2 c1 c2 c3 c4)
        · refine jr_if_neT (pc' := 74) dX8_verbOf_67 rfl c4 ?_
          refine jr_iconst (pc' := 75) (v := (-1)) dX8_verbOf_74 rfl (by decide) ?_
          refine jr_istore_n (pc' := 76) (i := 3) (lv' := [some (.long x), none, some (.int 0), some (.int (-1))]) dX8_verbOf_75 rfl rfl (by decide) rfl ?_
          refine jr_iload_n (pc' := 77) (i := 2) dX8_verbOf_76 rfl rfl rfl ?_
          refine jr_iconst (pc' := 78) (v := (-1)) dX8_verbOf_77 rfl (by decide) ?_
          refine jr_icmp_eqF (pc' := 81) (tgt := 85) dX8_verbOf_78 rfl rfl (by decide) ?_
          refine jr_iload_n (pc' := 82) (i := 2) dX8_verbOf_81 rfl rfl rfl ?_
          refine jr_goto (pc' := 86) dX8_verbOf_82 rfl ?_
          exact jr_iret dX8_verbOf_86 rfl rfl (k3 c1 c2 c3 c4)
  · refine jr_if_neT (pc' := 12) dX8_verbOf_5 rfl c1 ?_
    refine jr_lload_n (pc' := 13) (i := 0) dX8_verbOf_12 rfl rfl rfl ?_
    refine jr_ldc2 (pc' := 16) (v := 18935) dX8_verbOf_13 rfl wcX8_106 ?_
    refine jr_lcmp (pc' := 17)  dX8_verbOf_16 rfl  ?_
    by_cases c5 : (lg_cmp x 18935) = 0
    · refine jr_if_neF (pc' := 20) (tgt := 24) dX8_verbOf_17 rfl rfl c5 ?_
      refine jr_iconst (pc' := 21) (v := 1) dX8_verbOf_20 rfl (by decide) ?_
      refine jr_goto (pc' := 37) dX8_verbOf_21 rfl ?_
      refine jr_istore_n (pc' := 38) (i := 2) (lv' := [some (.long x), none, some (.int 1), none]) dX8_verbOf_37 rfl rfl (by decide) rfl ?_
      refine jr_lload_n (pc' := 39) (i := 0) dX8_verbOf_38 rfl rfl rfl ?_
      refine jr_ldc2 (pc' := 42) (v := 13358) dX8_verbOf_39 rfl wcX8_110 ?_
      refine jr_lcmp (pc' := 43)  dX8_verbOf_42 rfl  ?_
      by_cases c6 : (lg_cmp x 13358) = 0
      · refine jr_if_neF (pc' := 46) (tgt := 50) dX8_verbOf_43 rfl rfl c6 ?_
        refine jr_iconst (pc' := 47) (v := 3) dX8_verbOf_46 rfl (by decide) ?_
        refine jr_goto (pc' := 75) dX8_verbOf_47 rfl ?_
        refine jr_istore_n (pc' := 76) (i := 3) (lv' := [some (.long x), none, some (.int 1), some (.int 3)]) dX8_verbOf_75 rfl rfl (by decide) rfl ?_
        refine jr_iload_n (pc' := 77) (i := 2) dX8_verbOf_76 rfl rfl rfl ?_
        refine jr_iconst (pc' := 78) (v := (-1)) dX8_verbOf_77 rfl (by decide) ?_
        refine jr_icmp_eqF (pc' := 81) (tgt := 85) dX8_verbOf_78 rfl rfl (by decide) ?_
        refine jr_iload_n (pc' := 82) (i := 2) dX8_verbOf_81 rfl rfl rfl ?_
        refine jr_goto (pc' := 86) dX8_verbOf_82 rfl ?_
        exact jr_iret dX8_verbOf_86 rfl rfl (k4 c1 c5 c6)
      · refine jr_if_neT (pc' := 50) dX8_verbOf_43 rfl c6 ?_
        refine jr_lload_n (pc' := 51) (i := 0) dX8_verbOf_50 rfl rfl rfl ?_
        refine jr_ldc2 (pc' := 54) (v := 464627) dX8_verbOf_51 rfl wcX8_112 ?_
        refine jr_lcmp (pc' := 55)  dX8_verbOf_54 rfl  ?_
        by_cases c7 : (lg_cmp x 464627) = 0
        · refine jr_if_neF (pc' := 58) (tgt := 62) dX8_verbOf_55 rfl rfl c7 ?_
          refine jr_iconst (pc' := 59) (v := 4) dX8_verbOf_58 rfl (by decide) ?_
          refine jr_goto (pc' := 75) dX8_verbOf_59 rfl ?_
          refine jr_istore_n (pc' := 76) (i := 3) (lv' := [some (.long x), none, some (.int 1), some (.int 4)]) dX8_verbOf_75 rfl rfl (by decide) rfl ?_
          refine jr_iload_n (pc' := 77) (i := 2) dX8_verbOf_76 rfl rfl rfl ?_
          refine jr_iconst (pc' := 78) (v := (-1)) dX8_verbOf_77 rfl (by decide) ?_
          refine jr_icmp_eqF (pc' := 81) (tgt := 85) dX8_verbOf_78 rfl rfl (by decide) ?_
          refine jr_iload_n (pc' := 82) (i := 2) dX8_verbOf_81 rfl rfl rfl ?_
          refine jr_goto (pc' := 86) dX8_verbOf_82 rfl ?_
          exact jr_iret dX8_verbOf_86 rfl rfl (k5 c1 c5 c6 c7)
        · refine jr_if_neT (pc' := 62) dX8_verbOf_55 rfl c7 ?_
          refine jr_lload_n (pc' := 63) (i := 0) dX8_verbOf_62 rfl rfl rfl ?_
          refine jr_ldc2 (pc' := 66) (v := 102355333) dX8_verbOf_63 rfl wcX8_114 ?_
          refine jr_lcmp (pc' := 67)  dX8_verbOf_66 rfl  ?_
          by_cases c8 : (lg_cmp x 102355333) = 0
          · refine jr_if_neF (pc' := 70) (tgt := 74) dX8_verbOf_67 rfl rfl c8 ?_
            refine jr_iconst (pc' := 71) (v := 5) dX8_verbOf_70 rfl (by decide) ?_
            refine jr_goto (pc' := 75) dX8_verbOf_71 rfl ?_
            refine jr_istore_n (pc' := 76) (i := 3) (lv' := [some (.long x), none, some (.int 1), some (.int 5)]) dX8_verbOf_75 rfl rfl (by decide) rfl ?_
            refine jr_iload_n (pc' := 77) (i := 2) dX8_verbOf_76 rfl rfl rfl ?_
            refine jr_iconst (pc' := 78) (v := (-1)) dX8_verbOf_77 rfl (by decide) ?_
            refine jr_icmp_eqF (pc' := 81) (tgt := 85) dX8_verbOf_78 rfl rfl (by decide) ?_
            refine jr_iload_n (pc' := 82) (i := 2) dX8_verbOf_81 rfl rfl rfl ?_
            refine jr_goto (pc' := 86) dX8_verbOf_82 rfl ?_
            exact jr_iret dX8_verbOf_86 rfl rfl (k6 c1 c5 c6 c7 c8)
          · refine jr_if_neT (pc' := 74) dX8_verbOf_67 rfl c8 ?_
            refine jr_iconst (pc' := 75) (v := (-1)) dX8_verbOf_74 rfl (by decide) ?_
            refine jr_istore_n (pc' := 76) (i := 3) (lv' := [some (.long x), none, some (.int 1), some (.int (-1))]) dX8_verbOf_75 rfl rfl (by decide) rfl ?_
            refine jr_iload_n (pc' := 77) (i := 2) dX8_verbOf_76 rfl rfl rfl ?_
            refine jr_iconst (pc' := 78) (v := (-1)) dX8_verbOf_77 rfl (by decide) ?_
            refine jr_icmp_eqF (pc' := 81) (tgt := 85) dX8_verbOf_78 rfl rfl (by decide) ?_
            refine jr_iload_n (pc' := 82) (i := 2) dX8_verbOf_81 rfl rfl rfl ?_
            refine jr_goto (pc' := 86) dX8_verbOf_82 rfl ?_
            exact jr_iret dX8_verbOf_86 rfl rfl (k7 c1 c5 c6 c7 c8)
    · refine jr_if_neT (pc' := 24) dX8_verbOf_17 rfl c5 ?_
      refine jr_lload_n (pc' := 25) (i := 0) dX8_verbOf_24 rfl rfl rfl ?_
      refine jr_ldc2 (pc' := 28) (v := 664709) dX8_verbOf_25 rfl wcX8_108 ?_
      refine jr_lcmp (pc' := 29)  dX8_verbOf_28 rfl  ?_
      by_cases c9 : (lg_cmp x 664709) = 0
      · refine jr_if_neF (pc' := 32) (tgt := 36) dX8_verbOf_29 rfl rfl c9 ?_
        refine jr_iconst (pc' := 33) (v := 2) dX8_verbOf_32 rfl (by decide) ?_
        refine jr_goto (pc' := 37) dX8_verbOf_33 rfl ?_
        refine jr_istore_n (pc' := 38) (i := 2) (lv' := [some (.long x), none, some (.int 2), none]) dX8_verbOf_37 rfl rfl (by decide) rfl ?_
        refine jr_lload_n (pc' := 39) (i := 0) dX8_verbOf_38 rfl rfl rfl ?_
        refine jr_ldc2 (pc' := 42) (v := 13358) dX8_verbOf_39 rfl wcX8_110 ?_
        refine jr_lcmp (pc' := 43)  dX8_verbOf_42 rfl  ?_
        by_cases c10 : (lg_cmp x 13358) = 0
        · refine jr_if_neF (pc' := 46) (tgt := 50) dX8_verbOf_43 rfl rfl c10 ?_
          refine jr_iconst (pc' := 47) (v := 3) dX8_verbOf_46 rfl (by decide) ?_
          refine jr_goto (pc' := 75) dX8_verbOf_47 rfl ?_
          refine jr_istore_n (pc' := 76) (i := 3) (lv' := [some (.long x), none, some (.int 2), some (.int 3)]) dX8_verbOf_75 rfl rfl (by decide) rfl ?_
          refine jr_iload_n (pc' := 77) (i := 2) dX8_verbOf_76 rfl rfl rfl ?_
          refine jr_iconst (pc' := 78) (v := (-1)) dX8_verbOf_77 rfl (by decide) ?_
          refine jr_icmp_eqF (pc' := 81) (tgt := 85) dX8_verbOf_78 rfl rfl (by decide) ?_
          refine jr_iload_n (pc' := 82) (i := 2) dX8_verbOf_81 rfl rfl rfl ?_
          refine jr_goto (pc' := 86) dX8_verbOf_82 rfl ?_
          exact jr_iret dX8_verbOf_86 rfl rfl (k8 c1 c5 c9 c10)
        · refine jr_if_neT (pc' := 50) dX8_verbOf_43 rfl c10 ?_
          refine jr_lload_n (pc' := 51) (i := 0) dX8_verbOf_50 rfl rfl rfl ?_
          refine jr_ldc2 (pc' := 54) (v := 464627) dX8_verbOf_51 rfl wcX8_112 ?_
          refine jr_lcmp (pc' := 55)  dX8_verbOf_54 rfl  ?_
          by_cases c11 : (lg_cmp x 464627) = 0
          · refine jr_if_neF (pc' := 58) (tgt := 62) dX8_verbOf_55 rfl rfl c11 ?_
            refine jr_iconst (pc' := 59) (v := 4) dX8_verbOf_58 rfl (by decide) ?_
            refine jr_goto (pc' := 75) dX8_verbOf_59 rfl ?_
            refine jr_istore_n (pc' := 76) (i := 3) (lv' := [some (.long x), none, some (.int 2), some (.int 4)]) dX8_verbOf_75 rfl rfl (by decide) rfl ?_
            refine jr_iload_n (pc' := 77) (i := 2) dX8_verbOf_76 rfl rfl rfl ?_
            refine jr_iconst (pc' := 78) (v := (-1)) dX8_verbOf_77 rfl (by decide) ?_
            refine jr_icmp_eqF (pc' := 81) (tgt := 85) dX8_verbOf_78 rfl rfl (by decide) ?_
            refine jr_iload_n (pc' := 82) (i := 2) dX8_verbOf_81 rfl rfl rfl ?_
            refine jr_goto (pc' := 86) dX8_verbOf_82 rfl ?_
            exact jr_iret dX8_verbOf_86 rfl rfl (k9 c1 c5 c9 c10 c11)
          · refine jr_if_neT (pc' := 62) dX8_verbOf_55 rfl c11 ?_
            refine jr_lload_n (pc' := 63) (i := 0) dX8_verbOf_62 rfl rfl rfl ?_
            refine jr_ldc2 (pc' := 66) (v := 102355333) dX8_verbOf_63 rfl wcX8_114 ?_
            refine jr_lcmp (pc' := 67)  dX8_verbOf_66 rfl  ?_
            by_cases c12 : (lg_cmp x 102355333) = 0
            · refine jr_if_neF (pc' := 70) (tgt := 74) dX8_verbOf_67 rfl rfl c12 ?_
              refine jr_iconst (pc' := 71) (v := 5) dX8_verbOf_70 rfl (by decide) ?_
              refine jr_goto (pc' := 75) dX8_verbOf_71 rfl ?_
              refine jr_istore_n (pc' := 76) (i := 3) (lv' := [some (.long x), none, some (.int 2), some (.int 5)]) dX8_verbOf_75 rfl rfl (by decide) rfl ?_
              refine jr_iload_n (pc' := 77) (i := 2) dX8_verbOf_76 rfl rfl rfl ?_
              refine jr_iconst (pc' := 78) (v := (-1)) dX8_verbOf_77 rfl (by decide) ?_
              refine jr_icmp_eqF (pc' := 81) (tgt := 85) dX8_verbOf_78 rfl rfl (by decide) ?_
              refine jr_iload_n (pc' := 82) (i := 2) dX8_verbOf_81 rfl rfl rfl ?_
              refine jr_goto (pc' := 86) dX8_verbOf_82 rfl ?_
              exact jr_iret dX8_verbOf_86 rfl rfl (k10 c1 c5 c9 c10 c11 c12)
            · refine jr_if_neT (pc' := 74) dX8_verbOf_67 rfl c12 ?_
              refine jr_iconst (pc' := 75) (v := (-1)) dX8_verbOf_74 rfl (by decide) ?_
              refine jr_istore_n (pc' := 76) (i := 3) (lv' := [some (.long x), none, some (.int 2), some (.int (-1))]) dX8_verbOf_75 rfl rfl (by decide) rfl ?_
              refine jr_iload_n (pc' := 77) (i := 2) dX8_verbOf_76 rfl rfl rfl ?_
              refine jr_iconst (pc' := 78) (v := (-1)) dX8_verbOf_77 rfl (by decide) ?_
              refine jr_icmp_eqF (pc' := 81) (tgt := 85) dX8_verbOf_78 rfl rfl (by decide) ?_
              refine jr_iload_n (pc' := 82) (i := 2) dX8_verbOf_81 rfl rfl rfl ?_
              refine jr_goto (pc' := 86) dX8_verbOf_82 rfl ?_
              exact jr_iret dX8_verbOf_86 rfl rfl (k11 c1 c5 c9 c10 c11 c12)
      · refine jr_if_neT (pc' := 36) dX8_verbOf_29 rfl c9 ?_
        refine jr_iconst (pc' := 37) (v := (-1)) dX8_verbOf_36 rfl (by decide) ?_
        refine jr_istore_n (pc' := 38) (i := 2) (lv' := [some (.long x), none, some (.int (-1)), none]) dX8_verbOf_37 rfl rfl (by decide) rfl ?_
        refine jr_lload_n (pc' := 39) (i := 0) dX8_verbOf_38 rfl rfl rfl ?_
        refine jr_ldc2 (pc' := 42) (v := 13358) dX8_verbOf_39 rfl wcX8_110 ?_
        refine jr_lcmp (pc' := 43)  dX8_verbOf_42 rfl  ?_
        by_cases c13 : (lg_cmp x 13358) = 0
        · refine jr_if_neF (pc' := 46) (tgt := 50) dX8_verbOf_43 rfl rfl c13 ?_
          refine jr_iconst (pc' := 47) (v := 3) dX8_verbOf_46 rfl (by decide) ?_
          refine jr_goto (pc' := 75) dX8_verbOf_47 rfl ?_
          refine jr_istore_n (pc' := 76) (i := 3) (lv' := [some (.long x), none, some (.int (-1)), some (.int 3)]) dX8_verbOf_75 rfl rfl (by decide) rfl ?_
          refine jr_iload_n (pc' := 77) (i := 2) dX8_verbOf_76 rfl rfl rfl ?_
          refine jr_iconst (pc' := 78) (v := (-1)) dX8_verbOf_77 rfl (by decide) ?_
          refine jr_icmp_eqT (pc' := 85) dX8_verbOf_78 rfl (by decide) ?_
          refine jr_iload_n (pc' := 86) (i := 3) dX8_verbOf_85 rfl rfl rfl ?_
          exact jr_iret dX8_verbOf_86 rfl rfl (k12 c1 c5 c9 c13)
        · refine jr_if_neT (pc' := 50) dX8_verbOf_43 rfl c13 ?_
          refine jr_lload_n (pc' := 51) (i := 0) dX8_verbOf_50 rfl rfl rfl ?_
          refine jr_ldc2 (pc' := 54) (v := 464627) dX8_verbOf_51 rfl wcX8_112 ?_
          refine jr_lcmp (pc' := 55)  dX8_verbOf_54 rfl  ?_
          by_cases c14 : (lg_cmp x 464627) = 0
          · refine jr_if_neF (pc' := 58) (tgt := 62) dX8_verbOf_55 rfl rfl c14 ?_
            refine jr_iconst (pc' := 59) (v := 4) dX8_verbOf_58 rfl (by decide) ?_
            refine jr_goto (pc' := 75) dX8_verbOf_59 rfl ?_
            refine jr_istore_n (pc' := 76) (i := 3) (lv' := [some (.long x), none, some (.int (-1)), some (.int 4)]) dX8_verbOf_75 rfl rfl (by decide) rfl ?_
            refine jr_iload_n (pc' := 77) (i := 2) dX8_verbOf_76 rfl rfl rfl ?_
            refine jr_iconst (pc' := 78) (v := (-1)) dX8_verbOf_77 rfl (by decide) ?_
            refine jr_icmp_eqT (pc' := 85) dX8_verbOf_78 rfl (by decide) ?_
            refine jr_iload_n (pc' := 86) (i := 3) dX8_verbOf_85 rfl rfl rfl ?_
            exact jr_iret dX8_verbOf_86 rfl rfl (k13 c1 c5 c9 c13 c14)
          · refine jr_if_neT (pc' := 62) dX8_verbOf_55 rfl c14 ?_
            refine jr_lload_n (pc' := 63) (i := 0) dX8_verbOf_62 rfl rfl rfl ?_
            refine jr_ldc2 (pc' := 66) (v := 102355333) dX8_verbOf_63 rfl wcX8_114 ?_
            refine jr_lcmp (pc' := 67)  dX8_verbOf_66 rfl  ?_
            by_cases c15 : (lg_cmp x 102355333) = 0
            · refine jr_if_neF (pc' := 70) (tgt := 74) dX8_verbOf_67 rfl rfl c15 ?_
              refine jr_iconst (pc' := 71) (v := 5) dX8_verbOf_70 rfl (by decide) ?_
              refine jr_goto (pc' := 75) dX8_verbOf_71 rfl ?_
              refine jr_istore_n (pc' := 76) (i := 3) (lv' := [some (.long x), none, some (.int (-1)), some (.int 5)]) dX8_verbOf_75 rfl rfl (by decide) rfl ?_
              refine jr_iload_n (pc' := 77) (i := 2) dX8_verbOf_76 rfl rfl rfl ?_
              refine jr_iconst (pc' := 78) (v := (-1)) dX8_verbOf_77 rfl (by decide) ?_
              refine jr_icmp_eqT (pc' := 85) dX8_verbOf_78 rfl (by decide) ?_
              refine jr_iload_n (pc' := 86) (i := 3) dX8_verbOf_85 rfl rfl rfl ?_
              exact jr_iret dX8_verbOf_86 rfl rfl (k14 c1 c5 c9 c13 c14 c15)
            · refine jr_if_neT (pc' := 74) dX8_verbOf_67 rfl c15 ?_
              refine jr_iconst (pc' := 75) (v := (-1)) dX8_verbOf_74 rfl (by decide) ?_
              refine jr_istore_n (pc' := 76) (i := 3) (lv' := [some (.long x), none, some (.int (-1)), some (.int (-1))]) dX8_verbOf_75 rfl rfl (by decide) rfl ?_
              refine jr_iload_n (pc' := 77) (i := 2) dX8_verbOf_76 rfl rfl rfl ?_
              refine jr_iconst (pc' := 78) (v := (-1)) dX8_verbOf_77 rfl (by decide) ?_
              refine jr_icmp_eqT (pc' := 85) dX8_verbOf_78 rfl (by decide) ?_
              refine jr_iload_n (pc' := 86) (i := 3) dX8_verbOf_85 rfl rfl rfl ?_
              exact jr_iret dX8_verbOf_86 rfl rfl (k15 c1 c5 c9 c13 c14 c15)
def f_MoverbOf  (x : Int64) : Int32 := (if (lg_cmp x 394692) = 0 then (if (lg_cmp x 13358) = 0 then 0 else (if (lg_cmp x 464627) = 0 then 0 else (if (lg_cmp x 102355333) = 0 then 0 else 0))) else (if (lg_cmp x 18935) = 0 then (if (lg_cmp x 13358) = 0 then 1 else (if (lg_cmp x 464627) = 0 then 1 else (if (lg_cmp x 102355333) = 0 then 1 else 1))) else (if (lg_cmp x 664709) = 0 then (if (lg_cmp x 13358) = 0 then 2 else (if (lg_cmp x 464627) = 0 then 2 else (if (lg_cmp x 102355333) = 0 then 2 else 2))) else (if (lg_cmp x 13358) = 0 then 3 else (if (lg_cmp x 464627) = 0 then 4 else (if (lg_cmp x 102355333) = 0 then 5 else (-1)))))))
theorem c_MoverbOf {E : jEnv} {n : Nat} (x : Int64) (h : HP)  : jC E mX8_verbOf n [.long x] h (fun v h2 => v = some (.int (f_MoverbOf x)) ∧ h2 = h) :=
  jC.of (lv := [some (.long x), none, none, none]) (by decide) (Nat.le_of_ble_eq_true rfl) ⟨rfl, trivial⟩ (q_MoverbOf_0 x h (fun c1 c2 => ⟨(congrArg (fun z => some (Value.int z)) (Eq.symm (by first | (rw [f_MoverbOf, if_pos c1, if_pos c2]; done) | (simp [f_MoverbOf, c1, c2]; done)))), rfl⟩) (fun c1 c2 c3 => ⟨(congrArg (fun z => some (Value.int z)) (Eq.symm (by first | (rw [f_MoverbOf, if_pos c1, if_neg c2, if_pos c3]; done) | (simp [f_MoverbOf, c1, c2, c3]; done)))), rfl⟩) (fun c1 c2 c3 c4 => ⟨(congrArg (fun z => some (Value.int z)) (Eq.symm (by first | (rw [f_MoverbOf, if_pos c1, if_neg c2, if_neg c3, if_pos c4]; done) | (simp [f_MoverbOf, c1, c2, c3, c4]; done)))), rfl⟩) (fun c1 c2 c3 c4 => ⟨(congrArg (fun z => some (Value.int z)) (Eq.symm (by first | (rw [f_MoverbOf, if_pos c1, if_neg c2, if_neg c3, if_neg c4]; done) | (simp [f_MoverbOf, c1, c2, c3, c4]; done)))), rfl⟩) (fun c1 c5 c6 => ⟨(congrArg (fun z => some (Value.int z)) (Eq.symm (by first | (rw [f_MoverbOf, if_neg c1, if_pos c5, if_pos c6]; done) | (simp [f_MoverbOf, c1, c5, c6]; done)))), rfl⟩) (fun c1 c5 c6 c7 => ⟨(congrArg (fun z => some (Value.int z)) (Eq.symm (by first | (rw [f_MoverbOf, if_neg c1, if_pos c5, if_neg c6, if_pos c7]; done) | (simp [f_MoverbOf, c1, c5, c6, c7]; done)))), rfl⟩) (fun c1 c5 c6 c7 c8 => ⟨(congrArg (fun z => some (Value.int z)) (Eq.symm (by first | (rw [f_MoverbOf, if_neg c1, if_pos c5, if_neg c6, if_neg c7, if_pos c8]; done) | (simp [f_MoverbOf, c1, c5, c6, c7, c8]; done)))), rfl⟩) (fun c1 c5 c6 c7 c8 => ⟨(congrArg (fun z => some (Value.int z)) (Eq.symm (by first | (rw [f_MoverbOf, if_neg c1, if_pos c5, if_neg c6, if_neg c7, if_neg c8]; done) | (simp [f_MoverbOf, c1, c5, c6, c7, c8]; done)))), rfl⟩) (fun c1 c5 c9 c10 => ⟨(congrArg (fun z => some (Value.int z)) (Eq.symm (by first | (rw [f_MoverbOf, if_neg c1, if_neg c5, if_pos c9, if_pos c10]; done) | (simp [f_MoverbOf, c1, c5, c9, c10]; done)))), rfl⟩) (fun c1 c5 c9 c10 c11 => ⟨(congrArg (fun z => some (Value.int z)) (Eq.symm (by first | (rw [f_MoverbOf, if_neg c1, if_neg c5, if_pos c9, if_neg c10, if_pos c11]; done) | (simp [f_MoverbOf, c1, c5, c9, c10, c11]; done)))), rfl⟩) (fun c1 c5 c9 c10 c11 c12 => ⟨(congrArg (fun z => some (Value.int z)) (Eq.symm (by first | (rw [f_MoverbOf, if_neg c1, if_neg c5, if_pos c9, if_neg c10, if_neg c11, if_pos c12]; done) | (simp [f_MoverbOf, c1, c5, c9, c10, c11, c12]; done)))), rfl⟩) (fun c1 c5 c9 c10 c11 c12 => ⟨(congrArg (fun z => some (Value.int z)) (Eq.symm (by first | (rw [f_MoverbOf, if_neg c1, if_neg c5, if_pos c9, if_neg c10, if_neg c11, if_neg c12]; done) | (simp [f_MoverbOf, c1, c5, c9, c10, c11, c12]; done)))), rfl⟩) (fun c1 c5 c9 c13 => ⟨(congrArg (fun z => some (Value.int z)) (Eq.symm (by first | (rw [f_MoverbOf, if_neg c1, if_neg c5, if_neg c9, if_pos c13]; done) | (simp [f_MoverbOf, c1, c5, c9, c13]; done)))), rfl⟩) (fun c1 c5 c9 c13 c14 => ⟨(congrArg (fun z => some (Value.int z)) (Eq.symm (by first | (rw [f_MoverbOf, if_neg c1, if_neg c5, if_neg c9, if_neg c13, if_pos c14]; done) | (simp [f_MoverbOf, c1, c5, c9, c13, c14]; done)))), rfl⟩) (fun c1 c5 c9 c13 c14 c15 => ⟨(congrArg (fun z => some (Value.int z)) (Eq.symm (by first | (rw [f_MoverbOf, if_neg c1, if_neg c5, if_neg c9, if_neg c13, if_neg c14, if_pos c15]; done) | (simp [f_MoverbOf, c1, c5, c9, c13, c14, c15]; done)))), rfl⟩) (fun c1 c5 c9 c13 c14 c15 => ⟨(congrArg (fun z => some (Value.int z)) (Eq.symm (by first | (rw [f_MoverbOf, if_neg c1, if_neg c5, if_neg c9, if_neg c13, if_neg c14, if_neg c15]; done) | (simp [f_MoverbOf, c1, c5, c9, c13, c14, c15]; done)))), rfl⟩))

theorem q_Mofaults_0 {E : jEnv} {n : Nat} {X : State → Prop} {Post : Option Value → HP → Prop} (x : Int32) (h : HP)
    (k0 : Post (some (.int 0)) (jPI h 52 23 x))
    : jG E mX8_faults n X Post 0 [some (.ref 52), some (.int x)] [] h := by
  refine jr_aload_n (pc' := 1) (i := 0) dX8_faults_0 rfl rfl rfl ?_
  refine jr_iload_n (pc' := 2) (i := 1) dX8_faults_1 rfl rfl rfl ?_
  refine jr_putI (pc' := 5) jK8 (k := 52) (j := 23) wfX8_139 dX8_faults_2 rfl (by decide) rfl (by decide) (by decide) rfl rfl rfl ?_
  refine jr_iconst (pc' := 6) (v := 0) dX8_faults_5 rfl (by decide) ?_
  exact jr_iret dX8_faults_6 rfl rfl (k0)
def f_Mofaults  (x : Int32) : Int32 := 0
theorem c_Mofaults {E : jEnv} {n : Nat} (x : Int32) (h : HP)  : jC E mX8_faults n [.ref 52, .int x] h (fun v h2 => v = some (.int (f_Mofaults x)) ∧ h2 = (jPI h 52 23 x)) :=
  jC.of (lv := [some (.ref 52), some (.int x)]) (by decide) (Nat.le_of_ble_eq_true rfl) ⟨rfl, rfl, trivial⟩ (q_Mofaults_0 x h (⟨(congrArg (fun z => some (Value.int z)) (Eq.symm rfl)), rfl⟩))

theorem q_MospotOf_0 {E : jEnv} {n : Nat} {X : State → Prop} {Post : Option Value → HP → Prop} (x : Int32) (h : HP)
    (b0 : vp_in ((2 + (6 * x)) + 1) 62)
    (b1 : vp_in (2 + (6 * x)) 62)
    (k0 : Post (some (.int (((h.1 52 0) * (h.1 56 (((2 + (6 * x)) + 1).toNatClampNeg))) + (h.1 56 ((2 + (6 * x)).toNatClampNeg))))) h)
    : jG E mX8_spotOf n X Post 0 [some (.ref 52), some (.int x)] [] h := by
  refine jr_aload_n (pc' := 1) (i := 0) dX8_spotOf_0 rfl rfl rfl ?_
  refine jr_get (pc' := 4) jK8 (k := 52) (j := 0) (v := .int (h.1 52 0)) wfX8_76 dX8_spotOf_1 rfl (by decide) rfl (by decide) rfl ?_
  refine jr_aload_n (pc' := 5) (i := 0) dX8_spotOf_4 rfl rfl rfl ?_
  refine jr_get (pc' := 8) jK8 (k := 52) (j := 9) (v := .ref 56) wfX8_19 dX8_spotOf_5 rfl (by decide) rfl (by decide) rfl ?_
  refine jr_iconst (pc' := 9) (v := 2) dX8_spotOf_8 rfl (by decide) ?_
  refine jr_bipush (pc' := 11) (v := 6) dX8_spotOf_9 rfl (by decide) ?_
  refine jr_iload_n (pc' := 12) (i := 1) dX8_spotOf_11 rfl rfl rfl ?_
  refine jr_imul (pc' := 13)  dX8_spotOf_12 rfl  ?_
  refine jr_iadd (pc' := 14)  dX8_spotOf_13 rfl  ?_
  refine jr_iconst (pc' := 15) (v := 1) dX8_spotOf_14 rfl (by decide) ?_
  refine jr_iadd (pc' := 16)  dX8_spotOf_15 rfl  ?_
  refine jr_iald (pc' := 17) (v := h.1 56 (((2 + (6 * x)) + 1).toNatClampNeg)) dX8_spotOf_16 rfl (by decide) rfl (b0) rfl ?_
  refine jr_imul (pc' := 18)  dX8_spotOf_17 rfl  ?_
  refine jr_aload_n (pc' := 19) (i := 0) dX8_spotOf_18 rfl rfl rfl ?_
  refine jr_get (pc' := 22) jK8 (k := 52) (j := 9) (v := .ref 56) wfX8_19 dX8_spotOf_19 rfl (by decide) rfl (by decide) rfl ?_
  refine jr_iconst (pc' := 23) (v := 2) dX8_spotOf_22 rfl (by decide) ?_
  refine jr_bipush (pc' := 25) (v := 6) dX8_spotOf_23 rfl (by decide) ?_
  refine jr_iload_n (pc' := 26) (i := 1) dX8_spotOf_25 rfl rfl rfl ?_
  refine jr_imul (pc' := 27)  dX8_spotOf_26 rfl  ?_
  refine jr_iadd (pc' := 28)  dX8_spotOf_27 rfl  ?_
  refine jr_iald (pc' := 29) (v := h.1 56 ((2 + (6 * x)).toNatClampNeg)) dX8_spotOf_28 rfl (by decide) rfl (b1) rfl ?_
  refine jr_iadd (pc' := 30)  dX8_spotOf_29 rfl  ?_
  exact jr_iret dX8_spotOf_30 rfl rfl (k0)
def f_MospotOf (f52_0 : Int32) (r56 : Nat → Int32) (x : Int32) : Int32 := (((f52_0) * (r56 (((2 + (6 * x)) + 1).toNatClampNeg))) + (r56 ((2 + (6 * x)).toNatClampNeg)))
theorem c_MospotOf {E : jEnv} {n : Nat} (x : Int32) (h : HP) (b0 : vp_in ((2 + (6 * x)) + 1) 62) (b1 : vp_in (2 + (6 * x)) 62) : jC E mX8_spotOf n [.ref 52, .int x] h (fun v h2 => v = some (.int (f_MospotOf (h.1 52 0) (h.1 56) x)) ∧ h2 = h) :=
  jC.of (lv := [some (.ref 52), some (.int x)]) (by decide) (Nat.le_of_ble_eq_true rfl) ⟨rfl, rfl, trivial⟩ (q_MospotOf_0 x h b0 b1 (⟨(congrArg (fun z => some (Value.int z)) (Eq.symm rfl)), rfl⟩))

theorem q_Mofault_0 {E : jEnv} {n : Nat} {X : State → Prop} {Post : Option Value → HP → Prop}  (h : HP)
    (k0 : Post (some (.int ((h.1 52 24) - 1))) h)
    : jG E mX8_fault n X Post 0 [some (.ref 52)] [] h := by
  refine jr_aload_n (pc' := 1) (i := 0) dX8_fault_0 rfl rfl rfl ?_
  refine jr_get (pc' := 4) jK8 (k := 52) (j := 24) (v := .int (h.1 52 24)) wfX8_208 dX8_fault_1 rfl (by decide) rfl (by decide) rfl ?_
  refine jr_iconst (pc' := 5) (v := 1) dX8_fault_4 rfl (by decide) ?_
  refine jr_isub (pc' := 6)  dX8_fault_5 rfl  ?_
  exact jr_iret dX8_fault_6 rfl rfl (k0)
def f_Mofault (f52_24 : Int32)  : Int32 := ((f52_24) - 1)
theorem c_Mofault {E : jEnv} {n : Nat}  (h : HP)  : jC E mX8_fault n [.ref 52] h (fun v h2 => v = some (.int (f_Mofault (h.1 52 24))) ∧ h2 = h) :=
  jC.of (lv := [some (.ref 52)]) (by decide) (Nat.le_of_ble_eq_true rfl) ⟨rfl, trivial⟩ (q_Mofault_0  h (⟨(congrArg (fun z => some (Value.int z)) (Eq.symm rfl)), rfl⟩))

theorem q_MocodeOf_0 {E : jEnv} {n : Nat} {X : State → Prop} {Post : Option Value → HP → Prop} (x : Int32) (h : HP)
    (b0 : ¬ (h.1 52 0) = 0)
    (b1 : ¬ (h.1 52 0) = 0)
    (k0 : Post (some (.int ((10 * (x - x / (h.1 52 0) * (h.1 52 0))) + (x / (h.1 52 0))))) h)
    : jG E mX8_codeOf n X Post 0 [some (.ref 52), some (.int x)] [] h := by
  refine jr_bipush (pc' := 2) (v := 10) dX8_codeOf_0 rfl (by decide) ?_
  refine jr_iload_n (pc' := 3) (i := 1) dX8_codeOf_2 rfl rfl rfl ?_
  refine jr_aload_n (pc' := 4) (i := 0) dX8_codeOf_3 rfl rfl rfl ?_
  refine jr_get (pc' := 7) jK8 (k := 52) (j := 0) (v := .int (h.1 52 0)) wfX8_76 dX8_codeOf_4 rfl (by decide) rfl (by decide) rfl ?_
  refine jr_irem (pc' := 8)  dX8_codeOf_7 rfl (b0) ?_
  refine jr_imul (pc' := 9)  dX8_codeOf_8 rfl  ?_
  refine jr_iload_n (pc' := 10) (i := 1) dX8_codeOf_9 rfl rfl rfl ?_
  refine jr_aload_n (pc' := 11) (i := 0) dX8_codeOf_10 rfl rfl rfl ?_
  refine jr_get (pc' := 14) jK8 (k := 52) (j := 0) (v := .int (h.1 52 0)) wfX8_76 dX8_codeOf_11 rfl (by decide) rfl (by decide) rfl ?_
  refine jr_idiv (pc' := 15)  dX8_codeOf_14 rfl (b1) ?_
  refine jr_iadd (pc' := 16)  dX8_codeOf_15 rfl  ?_
  exact jr_iret dX8_codeOf_16 rfl rfl (k0)
def f_MocodeOf (f52_0 : Int32) (x : Int32) : Int32 := ((10 * (x - x / (f52_0) * (f52_0))) + (x / (f52_0)))
theorem c_MocodeOf {E : jEnv} {n : Nat} (x : Int32) (h : HP) (b0 : ¬ (h.1 52 0) = 0) (b1 : ¬ (h.1 52 0) = 0) : jC E mX8_codeOf n [.ref 52, .int x] h (fun v h2 => v = some (.int (f_MocodeOf (h.1 52 0) x)) ∧ h2 = h) :=
  jC.of (lv := [some (.ref 52), some (.int x)]) (by decide) (Nat.le_of_ble_eq_true rfl) ⟨rfl, rfl, trivial⟩ (q_MocodeOf_0 x h b0 b1 (⟨(congrArg (fun z => some (Value.int z)) (Eq.symm rfl)), rfl⟩))

theorem q_Mocell_0 {E : jEnv} {n : Nat} {X : State → Prop} {Post : Option Value → HP → Prop} (x : Int32) (y : Int32) (h : HP)
    (k0 : ((f_Moin x.toInt64 0 (((h.1 52 0) - 1).toInt64)) = 0) → Post (some (.int (-1))) h)
    (k1 : (¬ (f_Moin x.toInt64 0 (((h.1 52 0) - 1).toInt64)) = 0) → ((f_Moin y.toInt64 0 (((h.1 52 1) - 1).toInt64)) = 0) → Post (some (.int (-1))) h)
    (k2 : (¬ (f_Moin x.toInt64 0 (((h.1 52 0) - 1).toInt64)) = 0) → (¬ (f_Moin y.toInt64 0 (((h.1 52 1) - 1).toInt64)) = 0) → Post (some (.int (((h.1 52 0) * y) + x))) h)
    : jG E mX8_cell (n + 1) X Post 0 [some (.ref 52), some (.int x), some (.int y)] [] h := by
  refine jr_iload_n (pc' := 1) (i := 1) dX8_cell_0 rfl rfl rfl ?_
  refine jr_i2l (pc' := 2)  dX8_cell_1 rfl  ?_
  refine jr_lconst (pc' := 3) (v := 0) dX8_cell_2 rfl (by decide) ?_
  refine jr_aload_n (pc' := 4) (i := 0) dX8_cell_3 rfl rfl rfl ?_
  refine jr_get (pc' := 7) jK8 (k := 52) (j := 0) (v := .int (h.1 52 0)) wfX8_76 dX8_cell_4 rfl (by decide) rfl (by decide) rfl ?_
  refine jr_iconst (pc' := 8) (v := 1) dX8_cell_7 rfl (by decide) ?_
  refine jr_isub (pc' := 9)  dX8_cell_8 rfl  ?_
  refine jr_i2l (pc' := 10)  dX8_cell_9 rfl  ?_
  refine jr_callS (pc' := 13) (av := [.long x.toInt64, .long 0, .long (((h.1 52 0) - 1).toInt64)]) (st := []) sX8_in wmX8_79 dX8_cell_10 rfl rfl (Nat.le_of_ble_eq_true rfl) rfl (c_Moin (n := n) x.toInt64 0 (((h.1 52 0) - 1).toInt64) h ) (fun v h2 hp => ?_)
  rw [hp.1, hp.2]
  show jG E mX8_cell (n + 1) X Post 13 [some (.ref 52), some (.int x), some (.int y)] [.int (f_Moin x.toInt64 0 (((h.1 52 0) - 1).toInt64))] h
  by_cases c1 : (f_Moin x.toInt64 0 (((h.1 52 0) - 1).toInt64)) = 0
  · refine jr_if_eqT (pc' := 43) dX8_cell_13 rfl c1 ?_
    refine jr_iconst (pc' := 44) (v := (-1)) dX8_cell_43 rfl (by decide) ?_
    exact jr_iret dX8_cell_44 rfl rfl (k0 c1)
  · refine jr_if_eqF (pc' := 16) (tgt := 43) dX8_cell_13 rfl rfl c1 ?_
    refine jr_iload_n (pc' := 17) (i := 2) dX8_cell_16 rfl rfl rfl ?_
    refine jr_i2l (pc' := 18)  dX8_cell_17 rfl  ?_
    refine jr_lconst (pc' := 19) (v := 0) dX8_cell_18 rfl (by decide) ?_
    refine jr_aload_n (pc' := 20) (i := 0) dX8_cell_19 rfl rfl rfl ?_
    refine jr_get (pc' := 23) jK8 (k := 52) (j := 1) (v := .int (h.1 52 1)) wfX8_83 dX8_cell_20 rfl (by decide) rfl (by decide) rfl ?_
    refine jr_iconst (pc' := 24) (v := 1) dX8_cell_23 rfl (by decide) ?_
    refine jr_isub (pc' := 25)  dX8_cell_24 rfl  ?_
    refine jr_i2l (pc' := 26)  dX8_cell_25 rfl  ?_
    refine jr_callS (pc' := 29) (av := [.long y.toInt64, .long 0, .long (((h.1 52 1) - 1).toInt64)]) (st := []) sX8_in wmX8_79 dX8_cell_26 rfl rfl (Nat.le_of_ble_eq_true rfl) rfl (c_Moin (n := n) y.toInt64 0 (((h.1 52 1) - 1).toInt64) h ) (fun v h2 hp => ?_)
    rw [hp.1, hp.2]
    show jG E mX8_cell (n + 1) X Post 29 [some (.ref 52), some (.int x), some (.int y)] [.int (f_Moin y.toInt64 0 (((h.1 52 1) - 1).toInt64))] h
    by_cases c2 : (f_Moin y.toInt64 0 (((h.1 52 1) - 1).toInt64)) = 0
    · refine jr_if_eqT (pc' := 43) dX8_cell_29 rfl c2 ?_
      refine jr_iconst (pc' := 44) (v := (-1)) dX8_cell_43 rfl (by decide) ?_
      exact jr_iret dX8_cell_44 rfl rfl (k1 c1 c2)
    · refine jr_if_eqF (pc' := 32) (tgt := 43) dX8_cell_29 rfl rfl c2 ?_
      refine jr_aload_n (pc' := 33) (i := 0) dX8_cell_32 rfl rfl rfl ?_
      refine jr_get (pc' := 36) jK8 (k := 52) (j := 0) (v := .int (h.1 52 0)) wfX8_76 dX8_cell_33 rfl (by decide) rfl (by decide) rfl ?_
      refine jr_iload_n (pc' := 37) (i := 2) dX8_cell_36 rfl rfl rfl ?_
      refine jr_imul (pc' := 38)  dX8_cell_37 rfl  ?_
      refine jr_iload_n (pc' := 39) (i := 1) dX8_cell_38 rfl rfl rfl ?_
      refine jr_iadd (pc' := 40)  dX8_cell_39 rfl  ?_
      refine jr_goto (pc' := 44) dX8_cell_40 rfl ?_
      exact jr_iret dX8_cell_44 rfl rfl (k2 c1 c2)
def f_Mocell (f52_0 : Int32) (f52_1 : Int32) (x : Int32) (y : Int32) : Int32 := (if (f_Moin x.toInt64 0 (((f52_0) - 1).toInt64)) = 0 then (-1) else (if (f_Moin y.toInt64 0 (((f52_1) - 1).toInt64)) = 0 then (-1) else (((f52_0) * y) + x)))
theorem c_Mocell {E : jEnv} {n : Nat} (x : Int32) (y : Int32) (h : HP)  : jC E mX8_cell (n + 1) [.ref 52, .int x, .int y] h (fun v h2 => v = some (.int (f_Mocell (h.1 52 0) (h.1 52 1) x y)) ∧ h2 = h) :=
  jC.of (lv := [some (.ref 52), some (.int x), some (.int y)]) (by decide) (Nat.le_of_ble_eq_true rfl) ⟨rfl, rfl, rfl, trivial⟩ (q_Mocell_0 x y h (fun c1 => ⟨(congrArg (fun z => some (Value.int z)) (Eq.symm (by first | (rw [f_Mocell, if_pos c1]; done) | (simp [f_Mocell, c1]; done)))), rfl⟩) (fun c1 c2 => ⟨(congrArg (fun z => some (Value.int z)) (Eq.symm (by first | (rw [f_Mocell, if_neg c1, if_pos c2]; done) | (simp [f_Mocell, c1, c2]; done)))), rfl⟩) (fun c1 c2 => ⟨(congrArg (fun z => some (Value.int z)) (Eq.symm (by first | (rw [f_Mocell, if_neg c1, if_neg c2]; done) | (simp [f_Mocell, c1, c2]; done)))), rfl⟩))

theorem q_ModepthOf_0 {E : jEnv} {n : Nat} {X : State → Prop} {Post : Option Value → HP → Prop} (x : Int32) (y : Int32) (h : HP)
    (b0 : vp_in x 36)
    (b1 : ¬ (h.1 52 4) = 0)
    (b2 : vp_in (y - y / (h.1 52 4) * (h.1 52 4)) 6)
    (b3 : vp_in (26 + x) 62)
    (k0 : ((h.1 56 ((26 + x).toNatClampNeg)) = 1) → Post (some (.int 0)) h)
    (k1 : (¬ (h.1 56 ((26 + x).toNatClampNeg)) = 1) → ((0 : Int32) ≤ (((h.1 53 x.toNatClampNeg) + (h.1 54 ((y - y / (h.1 52 4) * (h.1 52 4)).toNatClampNeg))) - 5)) → Post (some (.int (((h.1 53 x.toNatClampNeg) + (h.1 54 ((y - y / (h.1 52 4) * (h.1 52 4)).toNatClampNeg))) - 5))) h)
    (k2 : (¬ (h.1 56 ((26 + x).toNatClampNeg)) = 1) → (¬ (0 : Int32) ≤ (((h.1 53 x.toNatClampNeg) + (h.1 54 ((y - y / (h.1 52 4) * (h.1 52 4)).toNatClampNeg))) - 5)) → Post (some (.int 0)) h)
    : jG E mX8_depthOf n X Post 0 [some (.ref 52), some (.int x), some (.int y), none] [] h := by
  refine jr_aload_n (pc' := 1) (i := 0) dX8_depthOf_0 rfl rfl rfl ?_
  refine jr_get (pc' := 4) jK8 (k := 52) (j := 2) (v := .ref 53) wfX8_7 dX8_depthOf_1 rfl (by decide) rfl (by decide) rfl ?_
  refine jr_iload_n (pc' := 5) (i := 1) dX8_depthOf_4 rfl rfl rfl ?_
  refine jr_iald (pc' := 6) (v := h.1 53 x.toNatClampNeg) dX8_depthOf_5 rfl (by decide) rfl (b0) rfl ?_
  refine jr_aload_n (pc' := 7) (i := 0) dX8_depthOf_6 rfl rfl rfl ?_
  refine jr_get (pc' := 10) jK8 (k := 52) (j := 3) (v := .ref 54) wfX8_13 dX8_depthOf_7 rfl (by decide) rfl (by decide) rfl ?_
  refine jr_iload_n (pc' := 11) (i := 2) dX8_depthOf_10 rfl rfl rfl ?_
  refine jr_aload_n (pc' := 12) (i := 0) dX8_depthOf_11 rfl rfl rfl ?_
  refine jr_get (pc' := 15) jK8 (k := 52) (j := 4) (v := .int (h.1 52 4)) wfX8_69 dX8_depthOf_12 rfl (by decide) rfl (by decide) rfl ?_
  refine jr_irem (pc' := 16)  dX8_depthOf_15 rfl (b1) ?_
  refine jr_iald (pc' := 17) (v := h.1 54 ((y - y / (h.1 52 4) * (h.1 52 4)).toNatClampNeg)) dX8_depthOf_16 rfl (by decide) rfl (b2) rfl ?_
  refine jr_iadd (pc' := 18)  dX8_depthOf_17 rfl  ?_
  refine jr_iconst (pc' := 19) (v := 5) dX8_depthOf_18 rfl (by decide) ?_
  refine jr_isub (pc' := 20)  dX8_depthOf_19 rfl  ?_
  refine jr_istore_n (pc' := 21) (i := 3) (lv' := [some (.ref 52), some (.int x), some (.int y), some (.int (((h.1 53 x.toNatClampNeg) + (h.1 54 ((y - y / (h.1 52 4) * (h.1 52 4)).toNatClampNeg))) - 5))]) dX8_depthOf_20 rfl rfl (by decide) rfl ?_
  refine jr_aload_n (pc' := 22) (i := 0) dX8_depthOf_21 rfl rfl rfl ?_
  refine jr_get (pc' := 25) jK8 (k := 52) (j := 9) (v := .ref 56) wfX8_19 dX8_depthOf_22 rfl (by decide) rfl (by decide) rfl ?_
  refine jr_bipush (pc' := 27) (v := 26) dX8_depthOf_25 rfl (by decide) ?_
  refine jr_iload_n (pc' := 28) (i := 1) dX8_depthOf_27 rfl rfl rfl ?_
  refine jr_iadd (pc' := 29)  dX8_depthOf_28 rfl  ?_
  refine jr_iald (pc' := 30) (v := h.1 56 ((26 + x).toNatClampNeg)) dX8_depthOf_29 rfl (by decide) rfl (b3) rfl ?_
  refine jr_iconst (pc' := 31) (v := 1) dX8_depthOf_30 rfl (by decide) ?_
  by_cases c1 : (h.1 56 ((26 + x).toNatClampNeg)) = 1
  · refine jr_icmp_eqT (pc' := 38) dX8_depthOf_31 rfl c1 ?_
    refine jr_iconst (pc' := 39) (v := 0) dX8_depthOf_38 rfl (by decide) ?_
    refine jr_goto (pc' := 43) dX8_depthOf_39 rfl ?_
    exact jr_iret dX8_depthOf_43 rfl rfl (k0 c1)
  · refine jr_icmp_eqF (pc' := 34) (tgt := 38) dX8_depthOf_31 rfl rfl c1 ?_
    refine jr_iload_n (pc' := 35) (i := 3) dX8_depthOf_34 rfl rfl rfl ?_
    by_cases c2 : (0 : Int32) ≤ (((h.1 53 x.toNatClampNeg) + (h.1 54 ((y - y / (h.1 52 4) * (h.1 52 4)).toNatClampNeg))) - 5)
    · refine jr_if_geT (pc' := 42) dX8_depthOf_35 rfl c2 ?_
      refine jr_iload_n (pc' := 43) (i := 3) dX8_depthOf_42 rfl rfl rfl ?_
      exact jr_iret dX8_depthOf_43 rfl rfl (k1 c1 c2)
    · refine jr_if_geF (pc' := 38) (tgt := 42) dX8_depthOf_35 rfl rfl c2 ?_
      refine jr_iconst (pc' := 39) (v := 0) dX8_depthOf_38 rfl (by decide) ?_
      refine jr_goto (pc' := 43) dX8_depthOf_39 rfl ?_
      exact jr_iret dX8_depthOf_43 rfl rfl (k2 c1 c2)
def f_ModepthOf (f52_4 : Int32) (r53 : Nat → Int32) (r54 : Nat → Int32) (r56 : Nat → Int32) (x : Int32) (y : Int32) : Int32 := (if (r56 ((26 + x).toNatClampNeg)) = 1 then 0 else (if (0 : Int32) ≤ (((r53 x.toNatClampNeg) + (r54 ((y - y / (f52_4) * (f52_4)).toNatClampNeg))) - 5) then (((r53 x.toNatClampNeg) + (r54 ((y - y / (f52_4) * (f52_4)).toNatClampNeg))) - 5) else 0))
theorem c_ModepthOf {E : jEnv} {n : Nat} (x : Int32) (y : Int32) (h : HP) (b0 : vp_in x 36) (b1 : ¬ (h.1 52 4) = 0) (b2 : vp_in (y - y / (h.1 52 4) * (h.1 52 4)) 6) (b3 : vp_in (26 + x) 62) : jC E mX8_depthOf n [.ref 52, .int x, .int y] h (fun v h2 => v = some (.int (f_ModepthOf (h.1 52 4) (h.1 53) (h.1 54) (h.1 56) x y)) ∧ h2 = h) :=
  jC.of (lv := [some (.ref 52), some (.int x), some (.int y), none]) (by decide) (Nat.le_of_ble_eq_true rfl) ⟨rfl, rfl, rfl, trivial⟩ (q_ModepthOf_0 x y h b0 b1 b2 b3 (fun c1 => ⟨(congrArg (fun z => some (Value.int z)) (Eq.symm (by first | (rw [f_ModepthOf, if_pos c1]; done) | (simp [f_ModepthOf, c1]; done)))), rfl⟩) (fun c1 c2 => ⟨(congrArg (fun z => some (Value.int z)) (Eq.symm (by first | (rw [f_ModepthOf, if_neg c1, if_pos c2]; done) | (simp [f_ModepthOf, c1, c2]; done)))), rfl⟩) (fun c1 c2 => ⟨(congrArg (fun z => some (Value.int z)) (Eq.symm (by first | (rw [f_ModepthOf, if_neg c1, if_neg c2]; done) | (simp [f_ModepthOf, c1, c2]; done)))), rfl⟩))

theorem q_MoisMan_0 {E : jEnv} {n : Nat} {X : State → Prop} {Post : Option Value → HP → Prop} (x : Int32) (h : HP)
    (k0 : Post (some (.int (f_Moin x.toInt64 0 (((h.1 52 5) - 1).toInt64)))) h)
    : jG E mX8_isMan (n + 1) X Post 0 [some (.ref 52), some (.int x)] [] h := by
  refine jr_iload_n (pc' := 1) (i := 1) dX8_isMan_0 rfl rfl rfl ?_
  refine jr_i2l (pc' := 2)  dX8_isMan_1 rfl  ?_
  refine jr_lconst (pc' := 3) (v := 0) dX8_isMan_2 rfl (by decide) ?_
  refine jr_aload_n (pc' := 4) (i := 0) dX8_isMan_3 rfl rfl rfl ?_
  refine jr_get (pc' := 7) jK8 (k := 52) (j := 5) (v := .int (h.1 52 5)) wfX8_86 dX8_isMan_4 rfl (by decide) rfl (by decide) rfl ?_
  refine jr_iconst (pc' := 8) (v := 1) dX8_isMan_7 rfl (by decide) ?_
  refine jr_isub (pc' := 9)  dX8_isMan_8 rfl  ?_
  refine jr_i2l (pc' := 10)  dX8_isMan_9 rfl  ?_
  refine jr_callS (pc' := 13) (av := [.long x.toInt64, .long 0, .long (((h.1 52 5) - 1).toInt64)]) (st := []) sX8_in wmX8_79 dX8_isMan_10 rfl rfl (Nat.le_of_ble_eq_true rfl) rfl (c_Moin (n := n) x.toInt64 0 (((h.1 52 5) - 1).toInt64) h ) (fun v h2 hp => ?_)
  rw [hp.1, hp.2]
  show jG E mX8_isMan (n + 1) X Post 13 [some (.ref 52), some (.int x)] [.int (f_Moin x.toInt64 0 (((h.1 52 5) - 1).toInt64))] h
  exact jr_iret dX8_isMan_13 rfl (nb_Moin _ _ _) (k0)
def f_MoisMan (f52_5 : Int32) (x : Int32) : Int32 := (f_Moin x.toInt64 0 (((f52_5) - 1).toInt64))
theorem c_MoisMan {E : jEnv} {n : Nat} (x : Int32) (h : HP)  : jC E mX8_isMan (n + 1) [.ref 52, .int x] h (fun v h2 => v = some (.int (f_MoisMan (h.1 52 5) x)) ∧ h2 = h) :=
  jC.of (lv := [some (.ref 52), some (.int x)]) (by decide) (Nat.le_of_ble_eq_true rfl) ⟨rfl, rfl, trivial⟩ (q_MoisMan_0 x h (⟨(congrArg (fun z => some (Value.int z)) (Eq.symm rfl)), rfl⟩))

theorem q_MoisWet_0 {E : jEnv} {n : Nat} {X : State → Prop} {Post : Option Value → HP → Prop} (x : Int32) (h : HP)
    (b0 : (vp_in ((2 + (6 * x)) + 1) 62))
    (b1 : (vp_in (2 + (6 * x)) 62))
    (b2 : (vp_in (f_MospotOf (h.1 52 0) (h.1 56) x) 36))
    (b3 : (¬ ((h.1 52 4)) = 0))
    (b4 : (vp_in ((h.1 56 0) - (h.1 56 0) / ((h.1 52 4)) * ((h.1 52 4))) 6))
    (b5 : (vp_in (26 + (f_MospotOf (h.1 52 0) (h.1 56) x)) 62))
    (b6 : vp_in ((2 + (6 * x)) + 2) 62)
    (k0 : ((f_ModepthOf (h.1 52 4) (h.1 53) (h.1 54) (h.1 56) (f_MospotOf (h.1 52 0) (h.1 56) x) (h.1 56 0)) ≤ (h.1 56 (((2 + (6 * x)) + 2).toNatClampNeg))) → Post (some (.int 0)) h)
    (k1 : (¬ (f_ModepthOf (h.1 52 4) (h.1 53) (h.1 54) (h.1 56) (f_MospotOf (h.1 52 0) (h.1 56) x) (h.1 56 0)) ≤ (h.1 56 (((2 + (6 * x)) + 2).toNatClampNeg))) → Post (some (.int 1)) h)
    : jG E mX8_isWet (n + 1) X Post 0 [some (.ref 52), some (.int x)] [] h := by
  refine jr_aload_n (pc' := 1) (i := 0) dX8_isWet_0 rfl rfl rfl ?_
  refine jr_aload_n (pc' := 2) (i := 0) dX8_isWet_1 rfl rfl rfl ?_
  refine jr_iload_n (pc' := 3) (i := 1) dX8_isWet_2 rfl rfl rfl ?_
  refine jr_callV (pc' := 6) (k := 52) (av := [.int x]) (st := [.ref 52]) sX8_spotOf wmX8_223 dX8_isWet_3 rfl (by decide) rfl (by decide) rfl rfl rfl (Nat.le_of_ble_eq_true rfl) rfl (c_MospotOf (n := n) x h (b0) (b1)) (fun v h2 hp => ?_)
  rw [hp.1, hp.2]
  show jG E mX8_isWet (n + 1) X Post 6 [some (.ref 52), some (.int x)] [.int (f_MospotOf (h.1 52 0) (h.1 56) x), .ref 52] h
  refine jr_aload_n (pc' := 7) (i := 0) dX8_isWet_6 rfl rfl rfl ?_
  refine jr_get (pc' := 10) jK8 (k := 52) (j := 9) (v := .ref 56) wfX8_19 dX8_isWet_7 rfl (by decide) rfl (by decide) rfl ?_
  refine jr_iconst (pc' := 11) (v := 0) dX8_isWet_10 rfl (by decide) ?_
  refine jr_iald (pc' := 12) (v := h.1 56 0) dX8_isWet_11 rfl (by decide) rfl (jvin (by decide)) ((congrArg (h.1 56) (by decide : (0 : Int32).toNatClampNeg = 0)).trans rfl) ?_
  refine jr_callV (pc' := 15) (k := 52) (av := [.int (f_MospotOf (h.1 52 0) (h.1 56) x), .int (h.1 56 0)]) (st := []) sX8_depthOf wmX8_234 dX8_isWet_12 rfl (by decide) rfl (by decide) rfl rfl rfl (Nat.le_of_ble_eq_true rfl) rfl (c_ModepthOf (n := n) (f_MospotOf (h.1 52 0) (h.1 56) x) (h.1 56 0) h (b2) (b3) (b4) (b5)) (fun v h2 hp => ?_)
  rw [hp.1, hp.2]
  show jG E mX8_isWet (n + 1) X Post 15 [some (.ref 52), some (.int x)] [.int (f_ModepthOf (h.1 52 4) (h.1 53) (h.1 54) (h.1 56) (f_MospotOf (h.1 52 0) (h.1 56) x) (h.1 56 0))] h
  refine jr_aload_n (pc' := 16) (i := 0) dX8_isWet_15 rfl rfl rfl ?_
  refine jr_get (pc' := 19) jK8 (k := 52) (j := 9) (v := .ref 56) wfX8_19 dX8_isWet_16 rfl (by decide) rfl (by decide) rfl ?_
  refine jr_iconst (pc' := 20) (v := 2) dX8_isWet_19 rfl (by decide) ?_
  refine jr_bipush (pc' := 22) (v := 6) dX8_isWet_20 rfl (by decide) ?_
  refine jr_iload_n (pc' := 23) (i := 1) dX8_isWet_22 rfl rfl rfl ?_
  refine jr_imul (pc' := 24)  dX8_isWet_23 rfl  ?_
  refine jr_iadd (pc' := 25)  dX8_isWet_24 rfl  ?_
  refine jr_iconst (pc' := 26) (v := 2) dX8_isWet_25 rfl (by decide) ?_
  refine jr_iadd (pc' := 27)  dX8_isWet_26 rfl  ?_
  refine jr_iald (pc' := 28) (v := h.1 56 (((2 + (6 * x)) + 2).toNatClampNeg)) dX8_isWet_27 rfl (by decide) rfl (b6) rfl ?_
  by_cases c1 : (f_ModepthOf (h.1 52 4) (h.1 53) (h.1 54) (h.1 56) (f_MospotOf (h.1 52 0) (h.1 56) x) (h.1 56 0)) ≤ (h.1 56 (((2 + (6 * x)) + 2).toNatClampNeg))
  · refine jr_icmp_leT (pc' := 35) dX8_isWet_28 rfl c1 ?_
    refine jr_iconst (pc' := 36) (v := 0) dX8_isWet_35 rfl (by decide) ?_
    exact jr_iret dX8_isWet_36 rfl rfl (k0 c1)
  · refine jr_icmp_leF (pc' := 31) (tgt := 35) dX8_isWet_28 rfl rfl c1 ?_
    refine jr_iconst (pc' := 32) (v := 1) dX8_isWet_31 rfl (by decide) ?_
    refine jr_goto (pc' := 36) dX8_isWet_32 rfl ?_
    exact jr_iret dX8_isWet_36 rfl rfl (k1 c1)
def f_MoisWet (f52_0 : Int32) (f52_4 : Int32) (r53 : Nat → Int32) (r54 : Nat → Int32) (r56 : Nat → Int32) (x : Int32) : Int32 := (if (f_ModepthOf (f52_4) (r53) (r54) (r56) (f_MospotOf (f52_0) (r56) x) (r56 0)) ≤ (r56 (((2 + (6 * x)) + 2).toNatClampNeg)) then 0 else 1)
theorem c_MoisWet {E : jEnv} {n : Nat} (x : Int32) (h : HP) (b0 : (vp_in ((2 + (6 * x)) + 1) 62)) (b1 : (vp_in (2 + (6 * x)) 62)) (b2 : (vp_in (f_MospotOf (h.1 52 0) (h.1 56) x) 36)) (b3 : (¬ ((h.1 52 4)) = 0)) (b4 : (vp_in ((h.1 56 0) - (h.1 56 0) / ((h.1 52 4)) * ((h.1 52 4))) 6)) (b5 : (vp_in (26 + (f_MospotOf (h.1 52 0) (h.1 56) x)) 62)) (b6 : vp_in ((2 + (6 * x)) + 2) 62) : jC E mX8_isWet (n + 1) [.ref 52, .int x] h (fun v h2 => v = some (.int (f_MoisWet (h.1 52 0) (h.1 52 4) (h.1 53) (h.1 54) (h.1 56) x)) ∧ h2 = h) :=
  jC.of (lv := [some (.ref 52), some (.int x)]) (by decide) (Nat.le_of_ble_eq_true rfl) ⟨rfl, rfl, trivial⟩ (q_MoisWet_0 x h b0 b1 b2 b3 b4 b5 b6 (fun c1 => ⟨(congrArg (fun z => some (Value.int z)) (Eq.symm (by first | (rw [f_MoisWet, if_pos c1]; done) | (simp [f_MoisWet, c1]; done)))), rfl⟩) (fun c1 => ⟨(congrArg (fun z => some (Value.int z)) (Eq.symm (by first | (rw [f_MoisWet, if_neg c1]; done) | (simp [f_MoisWet, c1]; done)))), rfl⟩))

theorem q_Moorder_0 {E : jEnv} {n : Nat} {X : State → Prop} {Post : Option Value → HP → Prop} (x : Int32) (y : Int32) (h : HP)
    (k0 : ((f_MoisMan (h.1 52 5) x) = 0) → Post (some (.int (-1000000001))) h)
    (k1 : (¬ (f_MoisMan (h.1 52 5) x) = 0) → ((f_Moin y.toInt64 0 4) = 0) → Post (some (.int (-1000000002))) h)
    (b0 : (¬ (f_MoisMan (h.1 52 5) x) = 0) → (¬ (f_Moin y.toInt64 0 4) = 0) → vp_in ((2 + (6 * x)) + 5) 62)
    (b1 : (¬ (f_MoisMan (h.1 52 5) x) = 0) → (¬ (f_Moin y.toInt64 0 4) = 0) → vp_in ((2 + (6 * x)) + 5) 62)
    (k2 : (¬ (f_MoisMan (h.1 52 5) x) = 0) → (¬ (f_Moin y.toInt64 0 4) = 0) → Post (some (.int (h.1 56 (((2 + (6 * x)) + 5).toNatClampNeg)))) (jPI h 56 (((2 + (6 * x)) + 5).toNatClampNeg) y))
    : jG E mX8_order (n + 2) X Post 0 [some (.ref 52), some (.int x), some (.int y), none] [] h := by
  refine jr_aload_n (pc' := 1) (i := 0) dX8_order_0 rfl rfl rfl ?_
  refine jr_iload_n (pc' := 2) (i := 1) dX8_order_1 rfl rfl rfl ?_
  refine jr_callV (pc' := 5) (k := 52) (av := [.int x]) (st := []) sX8_isMan wmX8_252 dX8_order_2 rfl (by decide) rfl (by decide) rfl rfl rfl (Nat.le_of_ble_eq_true rfl) rfl (c_MoisMan (n := n) x h ) (fun v h2 hp => ?_)
  rw [hp.1, hp.2]
  show jG E mX8_order (n + 2) X Post 5 [some (.ref 52), some (.int x), some (.int y), none] [.int (f_MoisMan (h.1 52 5) x)] h
  by_cases c1 : (f_MoisMan (h.1 52 5) x) = 0
  · refine jr_if_neF (pc' := 8) (tgt := 11) dX8_order_5 rfl rfl c1 ?_
    refine jr_ldc (pc' := 10) (v := (-1000000001)) dX8_order_8 rfl wcX8_249 ?_
    exact jr_iret dX8_order_10 rfl rfl (k0 c1)
  · refine jr_if_neT (pc' := 11) dX8_order_5 rfl c1 ?_
    refine jr_iload_n (pc' := 12) (i := 2) dX8_order_11 rfl rfl rfl ?_
    refine jr_i2l (pc' := 13)  dX8_order_12 rfl  ?_
    refine jr_lconst (pc' := 14) (v := 0) dX8_order_13 rfl (by decide) ?_
    refine jr_ldc2 (pc' := 17) (v := 4) dX8_order_14 rfl wcX8_257 ?_
    refine jr_callS (pc' := 20) (av := [.long y.toInt64, .long 0, .long 4]) (st := []) sX8_in wmX8_79 dX8_order_17 rfl rfl (Nat.le_of_ble_eq_true rfl) rfl (c_Moin (n := n + 1) y.toInt64 0 4 h ) (fun v h2 hp => ?_)
    rw [hp.1, hp.2]
    show jG E mX8_order (n + 2) X Post 20 [some (.ref 52), some (.int x), some (.int y), none] [.int (f_Moin y.toInt64 0 4)] h
    by_cases c2 : (f_Moin y.toInt64 0 4) = 0
    · refine jr_if_neF (pc' := 23) (tgt := 26) dX8_order_20 rfl rfl c2 ?_
      refine jr_ldc (pc' := 25) (v := (-1000000002)) dX8_order_23 rfl wcX8_94 ?_
      exact jr_iret dX8_order_25 rfl rfl (k1 c1 c2)
    · refine jr_if_neT (pc' := 26) dX8_order_20 rfl c2 ?_
      refine jr_aload_n (pc' := 27) (i := 0) dX8_order_26 rfl rfl rfl ?_
      refine jr_get (pc' := 30) jK8 (k := 52) (j := 9) (v := .ref 56) wfX8_19 dX8_order_27 rfl (by decide) rfl (by decide) rfl ?_
      refine jr_iconst (pc' := 31) (v := 2) dX8_order_30 rfl (by decide) ?_
      refine jr_bipush (pc' := 33) (v := 6) dX8_order_31 rfl (by decide) ?_
      refine jr_iload_n (pc' := 34) (i := 1) dX8_order_33 rfl rfl rfl ?_
      refine jr_imul (pc' := 35)  dX8_order_34 rfl  ?_
      refine jr_iadd (pc' := 36)  dX8_order_35 rfl  ?_
      refine jr_iconst (pc' := 37) (v := 5) dX8_order_36 rfl (by decide) ?_
      refine jr_iadd (pc' := 38)  dX8_order_37 rfl  ?_
      refine jr_iald (pc' := 39) (v := h.1 56 (((2 + (6 * x)) + 5).toNatClampNeg)) dX8_order_38 rfl (by decide) rfl (b0 c1 c2) rfl ?_
      refine jr_istore_n (pc' := 40) (i := 3) (lv' := [some (.ref 52), some (.int x), some (.int y), some (.int (h.1 56 (((2 + (6 * x)) + 5).toNatClampNeg)))]) dX8_order_39 rfl rfl (by decide) rfl ?_
      refine jr_aload_n (pc' := 41) (i := 0) dX8_order_40 rfl rfl rfl ?_
      refine jr_get (pc' := 44) jK8 (k := 52) (j := 9) (v := .ref 56) wfX8_19 dX8_order_41 rfl (by decide) rfl (by decide) rfl ?_
      refine jr_iconst (pc' := 45) (v := 2) dX8_order_44 rfl (by decide) ?_
      refine jr_bipush (pc' := 47) (v := 6) dX8_order_45 rfl (by decide) ?_
      refine jr_iload_n (pc' := 48) (i := 1) dX8_order_47 rfl rfl rfl ?_
      refine jr_imul (pc' := 49)  dX8_order_48 rfl  ?_
      refine jr_iadd (pc' := 50)  dX8_order_49 rfl  ?_
      refine jr_iconst (pc' := 51) (v := 5) dX8_order_50 rfl (by decide) ?_
      refine jr_iadd (pc' := 52)  dX8_order_51 rfl  ?_
      refine jr_iload_n (pc' := 53) (i := 2) dX8_order_52 rfl rfl rfl ?_
      refine jr_iast (pc' := 54) (j := ((2 + (6 * x)) + 5).toNatClampNeg) dX8_order_53 rfl (by decide) rfl (b1 c1 c2) rfl ?_
      refine jr_iload_n (pc' := 55) (i := 3) dX8_order_54 rfl rfl rfl ?_
      exact jr_iret dX8_order_55 rfl rfl (k2 c1 c2)
def f_Moorder (f52_5 : Int32) (r56 : Nat → Int32) (x : Int32) (y : Int32) : Int32 := (if (f_MoisMan (f52_5) x) = 0 then (-1000000001) else (if (f_Moin y.toInt64 0 4) = 0 then (-1000000002) else r56 (((2 + (6 * x)) + 5).toNatClampNeg)))
def H_Moorder (h : HP) (x : Int32) (y : Int32) : HP := (if (f_MoisMan (h.1 52 5) x) = 0 then h else (if (f_Moin y.toInt64 0 4) = 0 then h else (jPI h 56 (((2 + (6 * x)) + 5).toNatClampNeg) y)))
theorem c_Moorder {E : jEnv} {n : Nat} (x : Int32) (y : Int32) (h : HP) (b0 : (¬ (f_MoisMan (h.1 52 5) x) = 0) → (¬ (f_Moin y.toInt64 0 4) = 0) → vp_in ((2 + (6 * x)) + 5) 62) (b1 : (¬ (f_MoisMan (h.1 52 5) x) = 0) → (¬ (f_Moin y.toInt64 0 4) = 0) → vp_in ((2 + (6 * x)) + 5) 62) : jC E mX8_order (n + 2) [.ref 52, .int x, .int y] h (fun v h2 => v = some (.int (f_Moorder (h.1 52 5) (h.1 56) x y)) ∧ h2 = (H_Moorder h x y)) :=
  jC.of (lv := [some (.ref 52), some (.int x), some (.int y), none]) (by decide) (Nat.le_of_ble_eq_true rfl) ⟨rfl, rfl, rfl, trivial⟩ (q_Moorder_0 x y h (fun c1 => ⟨(congrArg (fun z => some (Value.int z)) (Eq.symm (by first | (rw [f_Moorder, if_pos c1]; done) | (simp [f_Moorder, c1]; done)))), (Eq.symm (by first | (rw [H_Moorder, if_pos c1]; done) | (simp [H_Moorder, c1]; done)))⟩) (fun c1 c2 => ⟨(congrArg (fun z => some (Value.int z)) (Eq.symm (by first | (rw [f_Moorder, if_neg c1, if_pos c2]; done) | (simp [f_Moorder, c1, c2]; done)))), (Eq.symm (by first | (rw [H_Moorder, if_neg c1, if_pos c2]; done) | (simp [H_Moorder, c1, c2]; done)))⟩) b0 b1 (fun c1 c2 => ⟨(congrArg (fun z => some (Value.int z)) (Eq.symm (by first | (rw [f_Moorder, if_neg c1, if_neg c2]; done) | (simp [f_Moorder, c1, c2]; done)))), (Eq.symm (by first | (rw [H_Moorder, if_neg c1, if_neg c2]; done) | (simp [H_Moorder, c1, c2]; done)))⟩))

set_option maxRecDepth 4000 in
theorem q_Moled_0 {E : jEnv} {n : Nat} {X : State → Prop} {Post : Option Value → HP → Prop} (x : Int32) (y : Int32) (h : HP)
    (b0 : ¬ (h.1 52 0) = 0)
    (b1 : (y = 2) → ¬ (h.1 52 0) = 0)
    (k0 : (y = 2) → (y = 3) → Post (some (.int (f_Mocell (h.1 52 0) (h.1 52 1) ((x - x / (h.1 52 0) * (h.1 52 0)) + 1) ((x / (h.1 52 0)) + 1)))) h)
    (k1 : (y = 2) → (¬ y = 3) → (y = 1) → Post (some (.int (f_Mocell (h.1 52 0) (h.1 52 1) ((x - x / (h.1 52 0) * (h.1 52 0)) + 1) ((x / (h.1 52 0)) + (-1))))) h)
    (k2 : (y = 2) → (¬ y = 3) → (¬ y = 1) → Post (some (.int (f_Mocell (h.1 52 0) (h.1 52 1) ((x - x / (h.1 52 0) * (h.1 52 0)) + 1) ((x / (h.1 52 0)) + 0)))) h)
    (b2 : (¬ y = 2) → (y = 4) → ¬ (h.1 52 0) = 0)
    (k3 : (¬ y = 2) → (y = 4) → (y = 3) → Post (some (.int (f_Mocell (h.1 52 0) (h.1 52 1) ((x - x / (h.1 52 0) * (h.1 52 0)) + (-1)) ((x / (h.1 52 0)) + 1)))) h)
    (k4 : (¬ y = 2) → (y = 4) → (¬ y = 3) → (y = 1) → Post (some (.int (f_Mocell (h.1 52 0) (h.1 52 1) ((x - x / (h.1 52 0) * (h.1 52 0)) + (-1)) ((x / (h.1 52 0)) + (-1))))) h)
    (k5 : (¬ y = 2) → (y = 4) → (¬ y = 3) → (¬ y = 1) → Post (some (.int (f_Mocell (h.1 52 0) (h.1 52 1) ((x - x / (h.1 52 0) * (h.1 52 0)) + (-1)) ((x / (h.1 52 0)) + 0)))) h)
    (b3 : (¬ y = 2) → (¬ y = 4) → ¬ (h.1 52 0) = 0)
    (k6 : (¬ y = 2) → (¬ y = 4) → (y = 3) → Post (some (.int (f_Mocell (h.1 52 0) (h.1 52 1) ((x - x / (h.1 52 0) * (h.1 52 0)) + 0) ((x / (h.1 52 0)) + 1)))) h)
    (k7 : (¬ y = 2) → (¬ y = 4) → (¬ y = 3) → (y = 1) → Post (some (.int (f_Mocell (h.1 52 0) (h.1 52 1) ((x - x / (h.1 52 0) * (h.1 52 0)) + 0) ((x / (h.1 52 0)) + (-1))))) h)
    (k8 : (¬ y = 2) → (¬ y = 4) → (¬ y = 3) → (¬ y = 1) → Post (some (.int (f_Mocell (h.1 52 0) (h.1 52 1) ((x - x / (h.1 52 0) * (h.1 52 0)) + 0) ((x / (h.1 52 0)) + 0)))) h)
    : jG E mX8_led (n + 2) X Post 0 [some (.ref 52), some (.int x), some (.int y), none, none] [] h := by
  refine jr_iload_n (pc' := 1) (i := 1) dX8_led_0 rfl rfl rfl ?_
  refine jr_aload_n (pc' := 2) (i := 0) dX8_led_1 rfl rfl rfl ?_
  refine jr_get (pc' := 5) jK8 (k := 52) (j := 0) (v := .int (h.1 52 0)) wfX8_76 dX8_led_2 rfl (by decide) rfl (by decide) rfl ?_
  refine jr_irem (pc' := 6)  dX8_led_5 rfl (b0) ?_
  refine jr_iload_n (pc' := 7) (i := 2) dX8_led_6 rfl rfl rfl ?_
  refine jr_iconst (pc' := 8) (v := 2) dX8_led_7 rfl (by decide) ?_
  by_cases c1 : y = 2
  · refine jr_icmp_neF (pc' := 11) (tgt := 15) dX8_led_8 rfl rfl c1 ?_
    refine jr_iconst (pc' := 12) (v := 1) dX8_led_11 rfl (by decide) ?_
    refine jr_goto (pc' := 25) dX8_led_12 rfl ?_
    refine jr_iadd (pc' := 26)  dX8_led_25 rfl  ?_
    refine jr_istore_n (pc' := 27) (i := 3) (lv' := [some (.ref 52), some (.int x), some (.int y), some (.int ((x - x / (h.1 52 0) * (h.1 52 0)) + 1)), none]) dX8_led_26 rfl rfl (by decide) rfl ?_
    refine jr_iload_n (pc' := 28) (i := 1) dX8_led_27 rfl rfl rfl ?_
    refine jr_aload_n (pc' := 29) (i := 0) dX8_led_28 rfl rfl rfl ?_
    refine jr_get (pc' := 32) jK8 (k := 52) (j := 0) (v := .int (h.1 52 0)) wfX8_76 dX8_led_29 rfl (by decide) rfl (by decide) rfl ?_
    refine jr_idiv (pc' := 33)  dX8_led_32 rfl (b1 c1) ?_
    refine jr_iload_n (pc' := 34) (i := 2) dX8_led_33 rfl rfl rfl ?_
    refine jr_iconst (pc' := 35) (v := 3) dX8_led_34 rfl (by decide) ?_
    by_cases c2 : y = 3
    · refine jr_icmp_neF (pc' := 38) (tgt := 42) dX8_led_35 rfl rfl c2 ?_
      refine jr_iconst (pc' := 39) (v := 1) dX8_led_38 rfl (by decide) ?_
      refine jr_goto (pc' := 52) dX8_led_39 rfl ?_
      refine jr_iadd (pc' := 53)  dX8_led_52 rfl  ?_
      refine jr_istore (pc' := 55) (i := 4) (lv' := [some (.ref 52), some (.int x), some (.int y), some (.int ((x - x / (h.1 52 0) * (h.1 52 0)) + 1)), some (.int ((x / (h.1 52 0)) + 1))]) dX8_led_53 rfl (by decide) rfl ?_
      refine jr_aload_n (pc' := 56) (i := 0) dX8_led_55 rfl rfl rfl ?_
      refine jr_iload_n (pc' := 57) (i := 3) dX8_led_56 rfl rfl rfl ?_
      refine jr_iload (pc' := 59) (i := 4) dX8_led_57 rfl rfl ?_
      refine jr_callV (pc' := 62) (k := 52) (av := [.int ((x - x / (h.1 52 0) * (h.1 52 0)) + 1), .int ((x / (h.1 52 0)) + 1)]) (st := []) sX8_cell wmX8_227 dX8_led_59 rfl (by decide) rfl (by decide) rfl rfl rfl (Nat.le_of_ble_eq_true rfl) rfl (c_Mocell (n := n) ((x - x / (h.1 52 0) * (h.1 52 0)) + 1) ((x / (h.1 52 0)) + 1) h ) (fun v h2 hp => ?_)
      rw [hp.1, hp.2]
      show jG E mX8_led (n + 2) X Post 62 [some (.ref 52), some (.int x), some (.int y), some (.int ((x - x / (h.1 52 0) * (h.1 52 0)) + 1)), some (.int ((x / (h.1 52 0)) + 1))] [.int (f_Mocell (h.1 52 0) (h.1 52 1) ((x - x / (h.1 52 0) * (h.1 52 0)) + 1) ((x / (h.1 52 0)) + 1))] h
      exact jr_iret dX8_led_62 rfl rfl (k0 c1 c2)
    · refine jr_icmp_neT (pc' := 42) dX8_led_35 rfl c2 ?_
      refine jr_iload_n (pc' := 43) (i := 2) dX8_led_42 rfl rfl rfl ?_
      refine jr_iconst (pc' := 44) (v := 1) dX8_led_43 rfl (by decide) ?_
      by_cases c3 : y = 1
      · refine jr_icmp_neF (pc' := 47) (tgt := 51) dX8_led_44 rfl rfl c3 ?_
        refine jr_iconst (pc' := 48) (v := (-1)) dX8_led_47 rfl (by decide) ?_
        refine jr_goto (pc' := 52) dX8_led_48 rfl ?_
        refine jr_iadd (pc' := 53)  dX8_led_52 rfl  ?_
        refine jr_istore (pc' := 55) (i := 4) (lv' := [some (.ref 52), some (.int x), some (.int y), some (.int ((x - x / (h.1 52 0) * (h.1 52 0)) + 1)), some (.int ((x / (h.1 52 0)) + (-1)))]) dX8_led_53 rfl (by decide) rfl ?_
        refine jr_aload_n (pc' := 56) (i := 0) dX8_led_55 rfl rfl rfl ?_
        refine jr_iload_n (pc' := 57) (i := 3) dX8_led_56 rfl rfl rfl ?_
        refine jr_iload (pc' := 59) (i := 4) dX8_led_57 rfl rfl ?_
        refine jr_callV (pc' := 62) (k := 52) (av := [.int ((x - x / (h.1 52 0) * (h.1 52 0)) + 1), .int ((x / (h.1 52 0)) + (-1))]) (st := []) sX8_cell wmX8_227 dX8_led_59 rfl (by decide) rfl (by decide) rfl rfl rfl (Nat.le_of_ble_eq_true rfl) rfl (c_Mocell (n := n) ((x - x / (h.1 52 0) * (h.1 52 0)) + 1) ((x / (h.1 52 0)) + (-1)) h ) (fun v h2 hp => ?_)
        rw [hp.1, hp.2]
        show jG E mX8_led (n + 2) X Post 62 [some (.ref 52), some (.int x), some (.int y), some (.int ((x - x / (h.1 52 0) * (h.1 52 0)) + 1)), some (.int ((x / (h.1 52 0)) + (-1)))] [.int (f_Mocell (h.1 52 0) (h.1 52 1) ((x - x / (h.1 52 0) * (h.1 52 0)) + 1) ((x / (h.1 52 0)) + (-1)))] h
        exact jr_iret dX8_led_62 rfl rfl (k1 c1 c2 c3)
      · refine jr_icmp_neT (pc' := 51) dX8_led_44 rfl c3 ?_
        refine jr_iconst (pc' := 52) (v := 0) dX8_led_51 rfl (by decide) ?_
        refine jr_iadd (pc' := 53)  dX8_led_52 rfl  ?_
        refine jr_istore (pc' := 55) (i := 4) (lv' := [some (.ref 52), some (.int x), some (.int y), some (.int ((x - x / (h.1 52 0) * (h.1 52 0)) + 1)), some (.int ((x / (h.1 52 0)) + 0))]) dX8_led_53 rfl (by decide) rfl ?_
        refine jr_aload_n (pc' := 56) (i := 0) dX8_led_55 rfl rfl rfl ?_
        refine jr_iload_n (pc' := 57) (i := 3) dX8_led_56 rfl rfl rfl ?_
        refine jr_iload (pc' := 59) (i := 4) dX8_led_57 rfl rfl ?_
        refine jr_callV (pc' := 62) (k := 52) (av := [.int ((x - x / (h.1 52 0) * (h.1 52 0)) + 1), .int ((x / (h.1 52 0)) + 0)]) (st := []) sX8_cell wmX8_227 dX8_led_59 rfl (by decide) rfl (by decide) rfl rfl rfl (Nat.le_of_ble_eq_true rfl) rfl (c_Mocell (n := n) ((x - x / (h.1 52 0) * (h.1 52 0)) + 1) ((x / (h.1 52 0)) + 0) h ) (fun v h2 hp => ?_)
        rw [hp.1, hp.2]
        show jG E mX8_led (n + 2) X Post 62 [some (.ref 52), some (.int x), some (.int y), some (.int ((x - x / (h.1 52 0) * (h.1 52 0)) + 1)), some (.int ((x / (h.1 52 0)) + 0))] [.int (f_Mocell (h.1 52 0) (h.1 52 1) ((x - x / (h.1 52 0) * (h.1 52 0)) + 1) ((x / (h.1 52 0)) + 0))] h
        exact jr_iret dX8_led_62 rfl rfl (k2 c1 c2 c3)
  · refine jr_icmp_neT (pc' := 15) dX8_led_8 rfl c1 ?_
    refine jr_iload_n (pc' := 16) (i := 2) dX8_led_15 rfl rfl rfl ?_
    refine jr_iconst (pc' := 17) (v := 4) dX8_led_16 rfl (by decide) ?_
    by_cases c4 : y = 4
    · refine jr_icmp_neF (pc' := 20) (tgt := 24) dX8_led_17 rfl rfl c4 ?_
      refine jr_iconst (pc' := 21) (v := (-1)) dX8_led_20 rfl (by decide) ?_
      refine jr_goto (pc' := 25) dX8_led_21 rfl ?_
      refine jr_iadd (pc' := 26)  dX8_led_25 rfl  ?_
      refine jr_istore_n (pc' := 27) (i := 3) (lv' := [some (.ref 52), some (.int x), some (.int y), some (.int ((x - x / (h.1 52 0) * (h.1 52 0)) + (-1))), none]) dX8_led_26 rfl rfl (by decide) rfl ?_
      refine jr_iload_n (pc' := 28) (i := 1) dX8_led_27 rfl rfl rfl ?_
      refine jr_aload_n (pc' := 29) (i := 0) dX8_led_28 rfl rfl rfl ?_
      refine jr_get (pc' := 32) jK8 (k := 52) (j := 0) (v := .int (h.1 52 0)) wfX8_76 dX8_led_29 rfl (by decide) rfl (by decide) rfl ?_
      refine jr_idiv (pc' := 33)  dX8_led_32 rfl (b2 c1 c4) ?_
      refine jr_iload_n (pc' := 34) (i := 2) dX8_led_33 rfl rfl rfl ?_
      refine jr_iconst (pc' := 35) (v := 3) dX8_led_34 rfl (by decide) ?_
      by_cases c5 : y = 3
      · refine jr_icmp_neF (pc' := 38) (tgt := 42) dX8_led_35 rfl rfl c5 ?_
        refine jr_iconst (pc' := 39) (v := 1) dX8_led_38 rfl (by decide) ?_
        refine jr_goto (pc' := 52) dX8_led_39 rfl ?_
        refine jr_iadd (pc' := 53)  dX8_led_52 rfl  ?_
        refine jr_istore (pc' := 55) (i := 4) (lv' := [some (.ref 52), some (.int x), some (.int y), some (.int ((x - x / (h.1 52 0) * (h.1 52 0)) + (-1))), some (.int ((x / (h.1 52 0)) + 1))]) dX8_led_53 rfl (by decide) rfl ?_
        refine jr_aload_n (pc' := 56) (i := 0) dX8_led_55 rfl rfl rfl ?_
        refine jr_iload_n (pc' := 57) (i := 3) dX8_led_56 rfl rfl rfl ?_
        refine jr_iload (pc' := 59) (i := 4) dX8_led_57 rfl rfl ?_
        refine jr_callV (pc' := 62) (k := 52) (av := [.int ((x - x / (h.1 52 0) * (h.1 52 0)) + (-1)), .int ((x / (h.1 52 0)) + 1)]) (st := []) sX8_cell wmX8_227 dX8_led_59 rfl (by decide) rfl (by decide) rfl rfl rfl (Nat.le_of_ble_eq_true rfl) rfl (c_Mocell (n := n) ((x - x / (h.1 52 0) * (h.1 52 0)) + (-1)) ((x / (h.1 52 0)) + 1) h ) (fun v h2 hp => ?_)
        rw [hp.1, hp.2]
        show jG E mX8_led (n + 2) X Post 62 [some (.ref 52), some (.int x), some (.int y), some (.int ((x - x / (h.1 52 0) * (h.1 52 0)) + (-1))), some (.int ((x / (h.1 52 0)) + 1))] [.int (f_Mocell (h.1 52 0) (h.1 52 1) ((x - x / (h.1 52 0) * (h.1 52 0)) + (-1)) ((x / (h.1 52 0)) + 1))] h
        exact jr_iret dX8_led_62 rfl rfl (k3 c1 c4 c5)
      · refine jr_icmp_neT (pc' := 42) dX8_led_35 rfl c5 ?_
        refine jr_iload_n (pc' := 43) (i := 2) dX8_led_42 rfl rfl rfl ?_
        refine jr_iconst (pc' := 44) (v := 1) dX8_led_43 rfl (by decide) ?_
        by_cases c6 : y = 1
        · refine jr_icmp_neF (pc' := 47) (tgt := 51) dX8_led_44 rfl rfl c6 ?_
          refine jr_iconst (pc' := 48) (v := (-1)) dX8_led_47 rfl (by decide) ?_
          refine jr_goto (pc' := 52) dX8_led_48 rfl ?_
          refine jr_iadd (pc' := 53)  dX8_led_52 rfl  ?_
          refine jr_istore (pc' := 55) (i := 4) (lv' := [some (.ref 52), some (.int x), some (.int y), some (.int ((x - x / (h.1 52 0) * (h.1 52 0)) + (-1))), some (.int ((x / (h.1 52 0)) + (-1)))]) dX8_led_53 rfl (by decide) rfl ?_
          refine jr_aload_n (pc' := 56) (i := 0) dX8_led_55 rfl rfl rfl ?_
          refine jr_iload_n (pc' := 57) (i := 3) dX8_led_56 rfl rfl rfl ?_
          refine jr_iload (pc' := 59) (i := 4) dX8_led_57 rfl rfl ?_
          refine jr_callV (pc' := 62) (k := 52) (av := [.int ((x - x / (h.1 52 0) * (h.1 52 0)) + (-1)), .int ((x / (h.1 52 0)) + (-1))]) (st := []) sX8_cell wmX8_227 dX8_led_59 rfl (by decide) rfl (by decide) rfl rfl rfl (Nat.le_of_ble_eq_true rfl) rfl (c_Mocell (n := n) ((x - x / (h.1 52 0) * (h.1 52 0)) + (-1)) ((x / (h.1 52 0)) + (-1)) h ) (fun v h2 hp => ?_)
          rw [hp.1, hp.2]
          show jG E mX8_led (n + 2) X Post 62 [some (.ref 52), some (.int x), some (.int y), some (.int ((x - x / (h.1 52 0) * (h.1 52 0)) + (-1))), some (.int ((x / (h.1 52 0)) + (-1)))] [.int (f_Mocell (h.1 52 0) (h.1 52 1) ((x - x / (h.1 52 0) * (h.1 52 0)) + (-1)) ((x / (h.1 52 0)) + (-1)))] h
          exact jr_iret dX8_led_62 rfl rfl (k4 c1 c4 c5 c6)
        · refine jr_icmp_neT (pc' := 51) dX8_led_44 rfl c6 ?_
          refine jr_iconst (pc' := 52) (v := 0) dX8_led_51 rfl (by decide) ?_
          refine jr_iadd (pc' := 53)  dX8_led_52 rfl  ?_
          refine jr_istore (pc' := 55) (i := 4) (lv' := [some (.ref 52), some (.int x), some (.int y), some (.int ((x - x / (h.1 52 0) * (h.1 52 0)) + (-1))), some (.int ((x / (h.1 52 0)) + 0))]) dX8_led_53 rfl (by decide) rfl ?_
          refine jr_aload_n (pc' := 56) (i := 0) dX8_led_55 rfl rfl rfl ?_
          refine jr_iload_n (pc' := 57) (i := 3) dX8_led_56 rfl rfl rfl ?_
          refine jr_iload (pc' := 59) (i := 4) dX8_led_57 rfl rfl ?_
          refine jr_callV (pc' := 62) (k := 52) (av := [.int ((x - x / (h.1 52 0) * (h.1 52 0)) + (-1)), .int ((x / (h.1 52 0)) + 0)]) (st := []) sX8_cell wmX8_227 dX8_led_59 rfl (by decide) rfl (by decide) rfl rfl rfl (Nat.le_of_ble_eq_true rfl) rfl (c_Mocell (n := n) ((x - x / (h.1 52 0) * (h.1 52 0)) + (-1)) ((x / (h.1 52 0)) + 0) h ) (fun v h2 hp => ?_)
          rw [hp.1, hp.2]
          show jG E mX8_led (n + 2) X Post 62 [some (.ref 52), some (.int x), some (.int y), some (.int ((x - x / (h.1 52 0) * (h.1 52 0)) + (-1))), some (.int ((x / (h.1 52 0)) + 0))] [.int (f_Mocell (h.1 52 0) (h.1 52 1) ((x - x / (h.1 52 0) * (h.1 52 0)) + (-1)) ((x / (h.1 52 0)) + 0))] h
          exact jr_iret dX8_led_62 rfl rfl (k5 c1 c4 c5 c6)
    · refine jr_icmp_neT (pc' := 24) dX8_led_17 rfl c4 ?_
      refine jr_iconst (pc' := 25) (v := 0) dX8_led_24 rfl (by decide) ?_
      refine jr_iadd (pc' := 26)  dX8_led_25 rfl  ?_
      refine jr_istore_n (pc' := 27) (i := 3) (lv' := [some (.ref 52), some (.int x), some (.int y), some (.int ((x - x / (h.1 52 0) * (h.1 52 0)) + 0)), none]) dX8_led_26 rfl rfl (by decide) rfl ?_
      refine jr_iload_n (pc' := 28) (i := 1) dX8_led_27 rfl rfl rfl ?_
      refine jr_aload_n (pc' := 29) (i := 0) dX8_led_28 rfl rfl rfl ?_
      refine jr_get (pc' := 32) jK8 (k := 52) (j := 0) (v := .int (h.1 52 0)) wfX8_76 dX8_led_29 rfl (by decide) rfl (by decide) rfl ?_
      refine jr_idiv (pc' := 33)  dX8_led_32 rfl (b3 c1 c4) ?_
      refine jr_iload_n (pc' := 34) (i := 2) dX8_led_33 rfl rfl rfl ?_
      refine jr_iconst (pc' := 35) (v := 3) dX8_led_34 rfl (by decide) ?_
      by_cases c7 : y = 3
      · refine jr_icmp_neF (pc' := 38) (tgt := 42) dX8_led_35 rfl rfl c7 ?_
        refine jr_iconst (pc' := 39) (v := 1) dX8_led_38 rfl (by decide) ?_
        refine jr_goto (pc' := 52) dX8_led_39 rfl ?_
        refine jr_iadd (pc' := 53)  dX8_led_52 rfl  ?_
        refine jr_istore (pc' := 55) (i := 4) (lv' := [some (.ref 52), some (.int x), some (.int y), some (.int ((x - x / (h.1 52 0) * (h.1 52 0)) + 0)), some (.int ((x / (h.1 52 0)) + 1))]) dX8_led_53 rfl (by decide) rfl ?_
        refine jr_aload_n (pc' := 56) (i := 0) dX8_led_55 rfl rfl rfl ?_
        refine jr_iload_n (pc' := 57) (i := 3) dX8_led_56 rfl rfl rfl ?_
        refine jr_iload (pc' := 59) (i := 4) dX8_led_57 rfl rfl ?_
        refine jr_callV (pc' := 62) (k := 52) (av := [.int ((x - x / (h.1 52 0) * (h.1 52 0)) + 0), .int ((x / (h.1 52 0)) + 1)]) (st := []) sX8_cell wmX8_227 dX8_led_59 rfl (by decide) rfl (by decide) rfl rfl rfl (Nat.le_of_ble_eq_true rfl) rfl (c_Mocell (n := n) ((x - x / (h.1 52 0) * (h.1 52 0)) + 0) ((x / (h.1 52 0)) + 1) h ) (fun v h2 hp => ?_)
        rw [hp.1, hp.2]
        show jG E mX8_led (n + 2) X Post 62 [some (.ref 52), some (.int x), some (.int y), some (.int ((x - x / (h.1 52 0) * (h.1 52 0)) + 0)), some (.int ((x / (h.1 52 0)) + 1))] [.int (f_Mocell (h.1 52 0) (h.1 52 1) ((x - x / (h.1 52 0) * (h.1 52 0)) + 0) ((x / (h.1 52 0)) + 1))] h
        exact jr_iret dX8_led_62 rfl rfl (k6 c1 c4 c7)
      · refine jr_icmp_neT (pc' := 42) dX8_led_35 rfl c7 ?_
        refine jr_iload_n (pc' := 43) (i := 2) dX8_led_42 rfl rfl rfl ?_
        refine jr_iconst (pc' := 44) (v := 1) dX8_led_43 rfl (by decide) ?_
        by_cases c8 : y = 1
        · refine jr_icmp_neF (pc' := 47) (tgt := 51) dX8_led_44 rfl rfl c8 ?_
          refine jr_iconst (pc' := 48) (v := (-1)) dX8_led_47 rfl (by decide) ?_
          refine jr_goto (pc' := 52) dX8_led_48 rfl ?_
          refine jr_iadd (pc' := 53)  dX8_led_52 rfl  ?_
          refine jr_istore (pc' := 55) (i := 4) (lv' := [some (.ref 52), some (.int x), some (.int y), some (.int ((x - x / (h.1 52 0) * (h.1 52 0)) + 0)), some (.int ((x / (h.1 52 0)) + (-1)))]) dX8_led_53 rfl (by decide) rfl ?_
          refine jr_aload_n (pc' := 56) (i := 0) dX8_led_55 rfl rfl rfl ?_
          refine jr_iload_n (pc' := 57) (i := 3) dX8_led_56 rfl rfl rfl ?_
          refine jr_iload (pc' := 59) (i := 4) dX8_led_57 rfl rfl ?_
          refine jr_callV (pc' := 62) (k := 52) (av := [.int ((x - x / (h.1 52 0) * (h.1 52 0)) + 0), .int ((x / (h.1 52 0)) + (-1))]) (st := []) sX8_cell wmX8_227 dX8_led_59 rfl (by decide) rfl (by decide) rfl rfl rfl (Nat.le_of_ble_eq_true rfl) rfl (c_Mocell (n := n) ((x - x / (h.1 52 0) * (h.1 52 0)) + 0) ((x / (h.1 52 0)) + (-1)) h ) (fun v h2 hp => ?_)
          rw [hp.1, hp.2]
          show jG E mX8_led (n + 2) X Post 62 [some (.ref 52), some (.int x), some (.int y), some (.int ((x - x / (h.1 52 0) * (h.1 52 0)) + 0)), some (.int ((x / (h.1 52 0)) + (-1)))] [.int (f_Mocell (h.1 52 0) (h.1 52 1) ((x - x / (h.1 52 0) * (h.1 52 0)) + 0) ((x / (h.1 52 0)) + (-1)))] h
          exact jr_iret dX8_led_62 rfl rfl (k7 c1 c4 c7 c8)
        · refine jr_icmp_neT (pc' := 51) dX8_led_44 rfl c8 ?_
          refine jr_iconst (pc' := 52) (v := 0) dX8_led_51 rfl (by decide) ?_
          refine jr_iadd (pc' := 53)  dX8_led_52 rfl  ?_
          refine jr_istore (pc' := 55) (i := 4) (lv' := [some (.ref 52), some (.int x), some (.int y), some (.int ((x - x / (h.1 52 0) * (h.1 52 0)) + 0)), some (.int ((x / (h.1 52 0)) + 0))]) dX8_led_53 rfl (by decide) rfl ?_
          refine jr_aload_n (pc' := 56) (i := 0) dX8_led_55 rfl rfl rfl ?_
          refine jr_iload_n (pc' := 57) (i := 3) dX8_led_56 rfl rfl rfl ?_
          refine jr_iload (pc' := 59) (i := 4) dX8_led_57 rfl rfl ?_
          refine jr_callV (pc' := 62) (k := 52) (av := [.int ((x - x / (h.1 52 0) * (h.1 52 0)) + 0), .int ((x / (h.1 52 0)) + 0)]) (st := []) sX8_cell wmX8_227 dX8_led_59 rfl (by decide) rfl (by decide) rfl rfl rfl (Nat.le_of_ble_eq_true rfl) rfl (c_Mocell (n := n) ((x - x / (h.1 52 0) * (h.1 52 0)) + 0) ((x / (h.1 52 0)) + 0) h ) (fun v h2 hp => ?_)
          rw [hp.1, hp.2]
          show jG E mX8_led (n + 2) X Post 62 [some (.ref 52), some (.int x), some (.int y), some (.int ((x - x / (h.1 52 0) * (h.1 52 0)) + 0)), some (.int ((x / (h.1 52 0)) + 0))] [.int (f_Mocell (h.1 52 0) (h.1 52 1) ((x - x / (h.1 52 0) * (h.1 52 0)) + 0) ((x / (h.1 52 0)) + 0))] h
          exact jr_iret dX8_led_62 rfl rfl (k8 c1 c4 c7 c8)
def f_Moled (f52_0 : Int32) (f52_1 : Int32) (x : Int32) (y : Int32) : Int32 := (if y = 2 then (if y = 3 then (f_Mocell (f52_0) (f52_1) ((x - x / (f52_0) * (f52_0)) + 1) ((x / (f52_0)) + 1)) else (if y = 1 then (f_Mocell (f52_0) (f52_1) ((x - x / (f52_0) * (f52_0)) + 1) ((x / (f52_0)) + (-1))) else (f_Mocell (f52_0) (f52_1) ((x - x / (f52_0) * (f52_0)) + 1) ((x / (f52_0)) + 0)))) else (if y = 4 then (if y = 3 then (f_Mocell (f52_0) (f52_1) ((x - x / (f52_0) * (f52_0)) + (-1)) ((x / (f52_0)) + 1)) else (if y = 1 then (f_Mocell (f52_0) (f52_1) ((x - x / (f52_0) * (f52_0)) + (-1)) ((x / (f52_0)) + (-1))) else (f_Mocell (f52_0) (f52_1) ((x - x / (f52_0) * (f52_0)) + (-1)) ((x / (f52_0)) + 0)))) else (if y = 3 then (f_Mocell (f52_0) (f52_1) ((x - x / (f52_0) * (f52_0)) + 0) ((x / (f52_0)) + 1)) else (if y = 1 then (f_Mocell (f52_0) (f52_1) ((x - x / (f52_0) * (f52_0)) + 0) ((x / (f52_0)) + (-1))) else (f_Mocell (f52_0) (f52_1) ((x - x / (f52_0) * (f52_0)) + 0) ((x / (f52_0)) + 0))))))
theorem c_Moled {E : jEnv} {n : Nat} (x : Int32) (y : Int32) (h : HP) (b0 : ¬ (h.1 52 0) = 0) (b1 : (y = 2) → ¬ (h.1 52 0) = 0) (b2 : (¬ y = 2) → (y = 4) → ¬ (h.1 52 0) = 0) (b3 : (¬ y = 2) → (¬ y = 4) → ¬ (h.1 52 0) = 0) : jC E mX8_led (n + 2) [.ref 52, .int x, .int y] h (fun v h2 => v = some (.int (f_Moled (h.1 52 0) (h.1 52 1) x y)) ∧ h2 = h) :=
  jC.of (lv := [some (.ref 52), some (.int x), some (.int y), none, none]) (by decide) (Nat.le_of_ble_eq_true rfl) ⟨rfl, rfl, rfl, trivial⟩ (q_Moled_0 x y h b0 b1 (fun c1 c2 => ⟨(congrArg (fun z => some (Value.int z)) (Eq.symm (by first | (rw [f_Moled, if_pos c1, if_pos c2]; done) | (simp [f_Moled, c1, c2]; done)))), rfl⟩) (fun c1 c2 c3 => ⟨(congrArg (fun z => some (Value.int z)) (Eq.symm (by first | (rw [f_Moled, if_pos c1, if_neg c2, if_pos c3]; done) | (simp [f_Moled, c1, c2, c3]; done)))), rfl⟩) (fun c1 c2 c3 => ⟨(congrArg (fun z => some (Value.int z)) (Eq.symm (by first | (rw [f_Moled, if_pos c1, if_neg c2, if_neg c3]; done) | (simp [f_Moled, c1, c2, c3]; done)))), rfl⟩) b2 (fun c1 c4 c5 => ⟨(congrArg (fun z => some (Value.int z)) (Eq.symm (by first | (rw [f_Moled, if_neg c1, if_pos c4, if_pos c5]; done) | (simp [f_Moled, c1, c4, c5]; done)))), rfl⟩) (fun c1 c4 c5 c6 => ⟨(congrArg (fun z => some (Value.int z)) (Eq.symm (by first | (rw [f_Moled, if_neg c1, if_pos c4, if_neg c5, if_pos c6]; done) | (simp [f_Moled, c1, c4, c5, c6]; done)))), rfl⟩) (fun c1 c4 c5 c6 => ⟨(congrArg (fun z => some (Value.int z)) (Eq.symm (by first | (rw [f_Moled, if_neg c1, if_pos c4, if_neg c5, if_neg c6]; done) | (simp [f_Moled, c1, c4, c5, c6]; done)))), rfl⟩) b3 (fun c1 c4 c7 => ⟨(congrArg (fun z => some (Value.int z)) (Eq.symm (by first | (rw [f_Moled, if_neg c1, if_neg c4, if_pos c7]; done) | (simp [f_Moled, c1, c4, c7]; done)))), rfl⟩) (fun c1 c4 c7 c8 => ⟨(congrArg (fun z => some (Value.int z)) (Eq.symm (by first | (rw [f_Moled, if_neg c1, if_neg c4, if_neg c7, if_pos c8]; done) | (simp [f_Moled, c1, c4, c7, c8]; done)))), rfl⟩) (fun c1 c4 c7 c8 => ⟨(congrArg (fun z => some (Value.int z)) (Eq.symm (by first | (rw [f_Moled, if_neg c1, if_neg c4, if_neg c7, if_neg c8]; done) | (simp [f_Moled, c1, c4, c7, c8]; done)))), rfl⟩))

theorem q_Mosaw_0 {E : jEnv} {n : Nat} {X : State → Prop} {Post : Option Value → HP → Prop} (x : Int32) (y : Int32) (h : HP)
    (k0 : ((f_MoisMan (h.1 52 5) x) = 0) → Post (some (.int (-1000000001))) h)
    (k1 : (¬ (f_MoisMan (h.1 52 5) x) = 0) → ((f_Moin y.toInt64 0 6) = 0) → Post (some (.int (-1000000002))) h)
    (b0 : (¬ (f_MoisMan (h.1 52 5) x) = 0) → (¬ (f_Moin y.toInt64 0 6) = 0) → vp_in ((2 + (6 * x)) + 2) 62)
    (b1 : (¬ (f_MoisMan (h.1 52 5) x) = 0) → (¬ (f_Moin y.toInt64 0 6) = 0) → vp_in ((2 + (6 * x)) + 2) 62)
    (k2 : (¬ (f_MoisMan (h.1 52 5) x) = 0) → (¬ (f_Moin y.toInt64 0 6) = 0) → Post (some (.int (h.1 56 (((2 + (6 * x)) + 2).toNatClampNeg)))) (jPI h 56 (((2 + (6 * x)) + 2).toNatClampNeg) y))
    : jG E mX8_saw (n + 2) X Post 0 [some (.ref 52), some (.int x), some (.int y), none] [] h := by
  refine jr_aload_n (pc' := 1) (i := 0) dX8_saw_0 rfl rfl rfl ?_
  refine jr_iload_n (pc' := 2) (i := 1) dX8_saw_1 rfl rfl rfl ?_
  refine jr_callV (pc' := 5) (k := 52) (av := [.int x]) (st := []) sX8_isMan wmX8_252 dX8_saw_2 rfl (by decide) rfl (by decide) rfl rfl rfl (Nat.le_of_ble_eq_true rfl) rfl (c_MoisMan (n := n) x h ) (fun v h2 hp => ?_)
  rw [hp.1, hp.2]
  show jG E mX8_saw (n + 2) X Post 5 [some (.ref 52), some (.int x), some (.int y), none] [.int (f_MoisMan (h.1 52 5) x)] h
  by_cases c1 : (f_MoisMan (h.1 52 5) x) = 0
  · refine jr_if_neF (pc' := 8) (tgt := 11) dX8_saw_5 rfl rfl c1 ?_
    refine jr_ldc (pc' := 10) (v := (-1000000001)) dX8_saw_8 rfl wcX8_249 ?_
    exact jr_iret dX8_saw_10 rfl rfl (k0 c1)
  · refine jr_if_neT (pc' := 11) dX8_saw_5 rfl c1 ?_
    refine jr_iload_n (pc' := 12) (i := 2) dX8_saw_11 rfl rfl rfl ?_
    refine jr_i2l (pc' := 13)  dX8_saw_12 rfl  ?_
    refine jr_lconst (pc' := 14) (v := 0) dX8_saw_13 rfl (by decide) ?_
    refine jr_ldc2 (pc' := 17) (v := 6) dX8_saw_14 rfl wcX8_255 ?_
    refine jr_callS (pc' := 20) (av := [.long y.toInt64, .long 0, .long 6]) (st := []) sX8_in wmX8_79 dX8_saw_17 rfl rfl (Nat.le_of_ble_eq_true rfl) rfl (c_Moin (n := n + 1) y.toInt64 0 6 h ) (fun v h2 hp => ?_)
    rw [hp.1, hp.2]
    show jG E mX8_saw (n + 2) X Post 20 [some (.ref 52), some (.int x), some (.int y), none] [.int (f_Moin y.toInt64 0 6)] h
    by_cases c2 : (f_Moin y.toInt64 0 6) = 0
    · refine jr_if_neF (pc' := 23) (tgt := 26) dX8_saw_20 rfl rfl c2 ?_
      refine jr_ldc (pc' := 25) (v := (-1000000002)) dX8_saw_23 rfl wcX8_94 ?_
      exact jr_iret dX8_saw_25 rfl rfl (k1 c1 c2)
    · refine jr_if_neT (pc' := 26) dX8_saw_20 rfl c2 ?_
      refine jr_aload_n (pc' := 27) (i := 0) dX8_saw_26 rfl rfl rfl ?_
      refine jr_get (pc' := 30) jK8 (k := 52) (j := 9) (v := .ref 56) wfX8_19 dX8_saw_27 rfl (by decide) rfl (by decide) rfl ?_
      refine jr_iconst (pc' := 31) (v := 2) dX8_saw_30 rfl (by decide) ?_
      refine jr_bipush (pc' := 33) (v := 6) dX8_saw_31 rfl (by decide) ?_
      refine jr_iload_n (pc' := 34) (i := 1) dX8_saw_33 rfl rfl rfl ?_
      refine jr_imul (pc' := 35)  dX8_saw_34 rfl  ?_
      refine jr_iadd (pc' := 36)  dX8_saw_35 rfl  ?_
      refine jr_iconst (pc' := 37) (v := 2) dX8_saw_36 rfl (by decide) ?_
      refine jr_iadd (pc' := 38)  dX8_saw_37 rfl  ?_
      refine jr_iald (pc' := 39) (v := h.1 56 (((2 + (6 * x)) + 2).toNatClampNeg)) dX8_saw_38 rfl (by decide) rfl (b0 c1 c2) rfl ?_
      refine jr_istore_n (pc' := 40) (i := 3) (lv' := [some (.ref 52), some (.int x), some (.int y), some (.int (h.1 56 (((2 + (6 * x)) + 2).toNatClampNeg)))]) dX8_saw_39 rfl rfl (by decide) rfl ?_
      refine jr_aload_n (pc' := 41) (i := 0) dX8_saw_40 rfl rfl rfl ?_
      refine jr_get (pc' := 44) jK8 (k := 52) (j := 9) (v := .ref 56) wfX8_19 dX8_saw_41 rfl (by decide) rfl (by decide) rfl ?_
      refine jr_iconst (pc' := 45) (v := 2) dX8_saw_44 rfl (by decide) ?_
      refine jr_bipush (pc' := 47) (v := 6) dX8_saw_45 rfl (by decide) ?_
      refine jr_iload_n (pc' := 48) (i := 1) dX8_saw_47 rfl rfl rfl ?_
      refine jr_imul (pc' := 49)  dX8_saw_48 rfl  ?_
      refine jr_iadd (pc' := 50)  dX8_saw_49 rfl  ?_
      refine jr_iconst (pc' := 51) (v := 2) dX8_saw_50 rfl (by decide) ?_
      refine jr_iadd (pc' := 52)  dX8_saw_51 rfl  ?_
      refine jr_iload_n (pc' := 53) (i := 2) dX8_saw_52 rfl rfl rfl ?_
      refine jr_iast (pc' := 54) (j := ((2 + (6 * x)) + 2).toNatClampNeg) dX8_saw_53 rfl (by decide) rfl (b1 c1 c2) rfl ?_
      refine jr_iload_n (pc' := 55) (i := 3) dX8_saw_54 rfl rfl rfl ?_
      exact jr_iret dX8_saw_55 rfl rfl (k2 c1 c2)
def f_Mosaw (f52_5 : Int32) (r56 : Nat → Int32) (x : Int32) (y : Int32) : Int32 := (if (f_MoisMan (f52_5) x) = 0 then (-1000000001) else (if (f_Moin y.toInt64 0 6) = 0 then (-1000000002) else r56 (((2 + (6 * x)) + 2).toNatClampNeg)))
def H_Mosaw (h : HP) (x : Int32) (y : Int32) : HP := (if (f_MoisMan (h.1 52 5) x) = 0 then h else (if (f_Moin y.toInt64 0 6) = 0 then h else (jPI h 56 (((2 + (6 * x)) + 2).toNatClampNeg) y)))
theorem c_Mosaw {E : jEnv} {n : Nat} (x : Int32) (y : Int32) (h : HP) (b0 : (¬ (f_MoisMan (h.1 52 5) x) = 0) → (¬ (f_Moin y.toInt64 0 6) = 0) → vp_in ((2 + (6 * x)) + 2) 62) (b1 : (¬ (f_MoisMan (h.1 52 5) x) = 0) → (¬ (f_Moin y.toInt64 0 6) = 0) → vp_in ((2 + (6 * x)) + 2) 62) : jC E mX8_saw (n + 2) [.ref 52, .int x, .int y] h (fun v h2 => v = some (.int (f_Mosaw (h.1 52 5) (h.1 56) x y)) ∧ h2 = (H_Mosaw h x y)) :=
  jC.of (lv := [some (.ref 52), some (.int x), some (.int y), none]) (by decide) (Nat.le_of_ble_eq_true rfl) ⟨rfl, rfl, rfl, trivial⟩ (q_Mosaw_0 x y h (fun c1 => ⟨(congrArg (fun z => some (Value.int z)) (Eq.symm (by first | (rw [f_Mosaw, if_pos c1]; done) | (simp [f_Mosaw, c1]; done)))), (Eq.symm (by first | (rw [H_Mosaw, if_pos c1]; done) | (simp [H_Mosaw, c1]; done)))⟩) (fun c1 c2 => ⟨(congrArg (fun z => some (Value.int z)) (Eq.symm (by first | (rw [f_Mosaw, if_neg c1, if_pos c2]; done) | (simp [f_Mosaw, c1, c2]; done)))), (Eq.symm (by first | (rw [H_Mosaw, if_neg c1, if_pos c2]; done) | (simp [H_Mosaw, c1, c2]; done)))⟩) b0 b1 (fun c1 c2 => ⟨(congrArg (fun z => some (Value.int z)) (Eq.symm (by first | (rw [f_Mosaw, if_neg c1, if_neg c2]; done) | (simp [f_Mosaw, c1, c2]; done)))), (Eq.symm (by first | (rw [H_Mosaw, if_neg c1, if_neg c2]; done) | (simp [H_Mosaw, c1, c2]; done)))⟩))

theorem q_Mostake_0 {E : jEnv} {n : Nat} {X : State → Prop} {Post : Option Value → HP → Prop} (x : Int32) (y : Int32) (z : Int32) (h : HP)
    (k0 : ((f_Mocell (h.1 52 0) (h.1 52 1) x y) = (-1)) → Post (some (.int (-1000000001))) h)
    (b0 : (¬ (f_Mocell (h.1 52 0) (h.1 52 1) x y) = (-1)) → vp_in (26 + (f_Mocell (h.1 52 0) (h.1 52 1) x y)) 62)
    (b1 : (¬ (f_Mocell (h.1 52 0) (h.1 52 1) x y) = (-1)) → (z = 0) → vp_in (26 + (f_Mocell (h.1 52 0) (h.1 52 1) x y)) 62)
    (k1 : (¬ (f_Mocell (h.1 52 0) (h.1 52 1) x y) = (-1)) → (z = 0) → Post (some (.int (h.1 56 ((26 + (f_Mocell (h.1 52 0) (h.1 52 1) x y)).toNatClampNeg)))) (jPI h 56 ((26 + (f_Mocell (h.1 52 0) (h.1 52 1) x y)).toNatClampNeg) 0))
    (b2 : (¬ (f_Mocell (h.1 52 0) (h.1 52 1) x y) = (-1)) → (¬ z = 0) → vp_in (26 + (f_Mocell (h.1 52 0) (h.1 52 1) x y)) 62)
    (k2 : (¬ (f_Mocell (h.1 52 0) (h.1 52 1) x y) = (-1)) → (¬ z = 0) → Post (some (.int (h.1 56 ((26 + (f_Mocell (h.1 52 0) (h.1 52 1) x y)).toNatClampNeg)))) (jPI h 56 ((26 + (f_Mocell (h.1 52 0) (h.1 52 1) x y)).toNatClampNeg) 1))
    : jG E mX8_stake (n + 2) X Post 0 [some (.ref 52), some (.int x), some (.int y), some (.int z), none, none] [] h := by
  refine jr_aload_n (pc' := 1) (i := 0) dX8_stake_0 rfl rfl rfl ?_
  refine jr_iload_n (pc' := 2) (i := 1) dX8_stake_1 rfl rfl rfl ?_
  refine jr_iload_n (pc' := 3) (i := 2) dX8_stake_2 rfl rfl rfl ?_
  refine jr_callV (pc' := 6) (k := 52) (av := [.int x, .int y]) (st := []) sX8_cell wmX8_227 dX8_stake_3 rfl (by decide) rfl (by decide) rfl rfl rfl (Nat.le_of_ble_eq_true rfl) rfl (c_Mocell (n := n) x y h ) (fun v h2 hp => ?_)
  rw [hp.1, hp.2]
  show jG E mX8_stake (n + 2) X Post 6 [some (.ref 52), some (.int x), some (.int y), some (.int z), none, none] [.int (f_Mocell (h.1 52 0) (h.1 52 1) x y)] h
  refine jr_istore (pc' := 8) (i := 4) (lv' := [some (.ref 52), some (.int x), some (.int y), some (.int z), some (.int (f_Mocell (h.1 52 0) (h.1 52 1) x y)), none]) dX8_stake_6 rfl (by decide) rfl ?_
  refine jr_iload (pc' := 10) (i := 4) dX8_stake_8 rfl rfl ?_
  refine jr_iconst (pc' := 11) (v := (-1)) dX8_stake_10 rfl (by decide) ?_
  by_cases c1 : (f_Mocell (h.1 52 0) (h.1 52 1) x y) = (-1)
  · refine jr_icmp_neF (pc' := 14) (tgt := 17) dX8_stake_11 rfl rfl c1 ?_
    refine jr_ldc (pc' := 16) (v := (-1000000001)) dX8_stake_14 rfl wcX8_249 ?_
    exact jr_iret dX8_stake_16 rfl rfl (k0 c1)
  · refine jr_icmp_neT (pc' := 17) dX8_stake_11 rfl c1 ?_
    refine jr_aload_n (pc' := 18) (i := 0) dX8_stake_17 rfl rfl rfl ?_
    refine jr_get (pc' := 21) jK8 (k := 52) (j := 9) (v := .ref 56) wfX8_19 dX8_stake_18 rfl (by decide) rfl (by decide) rfl ?_
    refine jr_bipush (pc' := 23) (v := 26) dX8_stake_21 rfl (by decide) ?_
    refine jr_iload (pc' := 25) (i := 4) dX8_stake_23 rfl rfl ?_
    refine jr_iadd (pc' := 26)  dX8_stake_25 rfl  ?_
    refine jr_iald (pc' := 27) (v := h.1 56 ((26 + (f_Mocell (h.1 52 0) (h.1 52 1) x y)).toNatClampNeg)) dX8_stake_26 rfl (by decide) rfl (b0 c1) rfl ?_
    refine jr_istore (pc' := 29) (i := 5) (lv' := [some (.ref 52), some (.int x), some (.int y), some (.int z), some (.int (f_Mocell (h.1 52 0) (h.1 52 1) x y)), some (.int (h.1 56 ((26 + (f_Mocell (h.1 52 0) (h.1 52 1) x y)).toNatClampNeg)))]) dX8_stake_27 rfl (by decide) rfl ?_
    refine jr_aload_n (pc' := 30) (i := 0) dX8_stake_29 rfl rfl rfl ?_
    refine jr_get (pc' := 33) jK8 (k := 52) (j := 9) (v := .ref 56) wfX8_19 dX8_stake_30 rfl (by decide) rfl (by decide) rfl ?_
    refine jr_bipush (pc' := 35) (v := 26) dX8_stake_33 rfl (by decide) ?_
    refine jr_iload (pc' := 37) (i := 4) dX8_stake_35 rfl rfl ?_
    refine jr_iadd (pc' := 38)  dX8_stake_37 rfl  ?_
    refine jr_iload_n (pc' := 39) (i := 3) dX8_stake_38 rfl rfl rfl ?_
    by_cases c2 : z = 0
    · refine jr_if_eqT (pc' := 46) dX8_stake_39 rfl c2 ?_
      refine jr_iconst (pc' := 47) (v := 0) dX8_stake_46 rfl (by decide) ?_
      refine jr_iast (pc' := 48) (j := (26 + (f_Mocell (h.1 52 0) (h.1 52 1) x y)).toNatClampNeg) dX8_stake_47 rfl (by decide) rfl (b1 c1 c2) rfl ?_
      refine jr_iload (pc' := 50) (i := 5) dX8_stake_48 rfl rfl ?_
      exact jr_iret dX8_stake_50 rfl rfl (k1 c1 c2)
    · refine jr_if_eqF (pc' := 42) (tgt := 46) dX8_stake_39 rfl rfl c2 ?_
      refine jr_iconst (pc' := 43) (v := 1) dX8_stake_42 rfl (by decide) ?_
      refine jr_goto (pc' := 47) dX8_stake_43 rfl ?_
      refine jr_iast (pc' := 48) (j := (26 + (f_Mocell (h.1 52 0) (h.1 52 1) x y)).toNatClampNeg) dX8_stake_47 rfl (by decide) rfl (b2 c1 c2) rfl ?_
      refine jr_iload (pc' := 50) (i := 5) dX8_stake_48 rfl rfl ?_
      exact jr_iret dX8_stake_50 rfl rfl (k2 c1 c2)
def f_Mostake (f52_0 : Int32) (f52_1 : Int32) (r56 : Nat → Int32) (x : Int32) (y : Int32) (z : Int32) : Int32 := (if (f_Mocell (f52_0) (f52_1) x y) = (-1) then (-1000000001) else (if z = 0 then r56 ((26 + (f_Mocell (f52_0) (f52_1) x y)).toNatClampNeg) else r56 ((26 + (f_Mocell (f52_0) (f52_1) x y)).toNatClampNeg)))
def H_Mostake (h : HP) (x : Int32) (y : Int32) (z : Int32) : HP := (if (f_Mocell (h.1 52 0) (h.1 52 1) x y) = (-1) then h else (if z = 0 then (jPI h 56 ((26 + (f_Mocell (h.1 52 0) (h.1 52 1) x y)).toNatClampNeg) 0) else (jPI h 56 ((26 + (f_Mocell (h.1 52 0) (h.1 52 1) x y)).toNatClampNeg) 1)))
theorem c_Mostake {E : jEnv} {n : Nat} (x : Int32) (y : Int32) (z : Int32) (h : HP) (b0 : (¬ (f_Mocell (h.1 52 0) (h.1 52 1) x y) = (-1)) → vp_in (26 + (f_Mocell (h.1 52 0) (h.1 52 1) x y)) 62) (b1 : (¬ (f_Mocell (h.1 52 0) (h.1 52 1) x y) = (-1)) → (z = 0) → vp_in (26 + (f_Mocell (h.1 52 0) (h.1 52 1) x y)) 62) (b2 : (¬ (f_Mocell (h.1 52 0) (h.1 52 1) x y) = (-1)) → (¬ z = 0) → vp_in (26 + (f_Mocell (h.1 52 0) (h.1 52 1) x y)) 62) : jC E mX8_stake (n + 2) [.ref 52, .int x, .int y, .int z] h (fun v h2 => v = some (.int (f_Mostake (h.1 52 0) (h.1 52 1) (h.1 56) x y z)) ∧ h2 = (H_Mostake h x y z)) :=
  jC.of (lv := [some (.ref 52), some (.int x), some (.int y), some (.int z), none, none]) (by decide) (Nat.le_of_ble_eq_true rfl) ⟨rfl, rfl, rfl, rfl, trivial⟩ (q_Mostake_0 x y z h (fun c1 => ⟨(congrArg (fun z => some (Value.int z)) (Eq.symm (by first | (rw [f_Mostake, if_pos c1]; done) | (simp [f_Mostake, c1]; done)))), (Eq.symm (by first | (rw [H_Mostake, if_pos c1]; done) | (simp [H_Mostake, c1]; done)))⟩) b0 b1 (fun c1 c2 => ⟨(congrArg (fun z => some (Value.int z)) (Eq.symm (by first | (rw [f_Mostake, if_neg c1, if_pos c2]; done) | (simp [f_Mostake, c1, c2]; done)))), (Eq.symm (by first | (rw [H_Mostake, if_neg c1, if_pos c2]; done) | (simp [H_Mostake, c1, c2]; done)))⟩) b2 (fun c1 c2 => ⟨(congrArg (fun z => some (Value.int z)) (Eq.symm (by first | (rw [f_Mostake, if_neg c1, if_neg c2]; done) | (simp [f_Mostake, c1, c2]; done)))), (Eq.symm (by first | (rw [H_Mostake, if_neg c1, if_neg c2]; done) | (simp [H_Mostake, c1, c2]; done)))⟩))

theorem q_MoisNews_0 {E : jEnv} {n : Nat} {X : State → Prop} {Post : Option Value → HP → Prop} (x : Int32) (h : HP)
    (k0 : Post (some (.int (f_Moin x.toInt64 0 (((h.1 52 6) - 1).toInt64)))) h)
    : jG E mX8_isNews (n + 1) X Post 0 [some (.ref 52), some (.int x)] [] h := by
  refine jr_iload_n (pc' := 1) (i := 1) dX8_isNews_0 rfl rfl rfl ?_
  refine jr_i2l (pc' := 2)  dX8_isNews_1 rfl  ?_
  refine jr_lconst (pc' := 3) (v := 0) dX8_isNews_2 rfl (by decide) ?_
  refine jr_aload_n (pc' := 4) (i := 0) dX8_isNews_3 rfl rfl rfl ?_
  refine jr_get (pc' := 7) jK8 (k := 52) (j := 6) (v := .int (h.1 52 6)) wfX8_89 dX8_isNews_4 rfl (by decide) rfl (by decide) rfl ?_
  refine jr_iconst (pc' := 8) (v := 1) dX8_isNews_7 rfl (by decide) ?_
  refine jr_isub (pc' := 9)  dX8_isNews_8 rfl  ?_
  refine jr_i2l (pc' := 10)  dX8_isNews_9 rfl  ?_
  refine jr_callS (pc' := 13) (av := [.long x.toInt64, .long 0, .long (((h.1 52 6) - 1).toInt64)]) (st := []) sX8_in wmX8_79 dX8_isNews_10 rfl rfl (Nat.le_of_ble_eq_true rfl) rfl (c_Moin (n := n) x.toInt64 0 (((h.1 52 6) - 1).toInt64) h ) (fun v h2 hp => ?_)
  rw [hp.1, hp.2]
  show jG E mX8_isNews (n + 1) X Post 13 [some (.ref 52), some (.int x)] [.int (f_Moin x.toInt64 0 (((h.1 52 6) - 1).toInt64))] h
  exact jr_iret dX8_isNews_13 rfl (nb_Moin _ _ _) (k0)
def f_MoisNews (f52_6 : Int32) (x : Int32) : Int32 := (f_Moin x.toInt64 0 (((f52_6) - 1).toInt64))
theorem c_MoisNews {E : jEnv} {n : Nat} (x : Int32) (h : HP)  : jC E mX8_isNews (n + 1) [.ref 52, .int x] h (fun v h2 => v = some (.int (f_MoisNews (h.1 52 6) x)) ∧ h2 = h) :=
  jC.of (lv := [some (.ref 52), some (.int x)]) (by decide) (Nat.le_of_ble_eq_true rfl) ⟨rfl, rfl, trivial⟩ (q_MoisNews_0 x h (⟨(congrArg (fun z => some (Value.int z)) (Eq.symm rfl)), rfl⟩))

theorem q_Motrack_0 {E : jEnv} {n : Nat} {X : State → Prop} {Post : Option Value → HP → Prop} (x : Int32) (y : Int32) (h : HP)
    (k0 : ((f_Mocell (h.1 52 0) (h.1 52 1) x y) = (-1)) → Post (some (.int (-1000000001))) h)
    (k1 : (¬ (f_Mocell (h.1 52 0) (h.1 52 1) x y) = (-1)) → Post (some (.int (h.1 52 14))) (jPI (jPI h 52 14 0) 52 12 (f_Mocell (h.1 52 0) (h.1 52 1) x y)))
    : jG E mX8_track (n + 2) X Post 0 [some (.ref 52), some (.int x), some (.int y), none] [] h := by
  refine jr_aload_n (pc' := 1) (i := 0) dX8_track_0 rfl rfl rfl ?_
  refine jr_iload_n (pc' := 2) (i := 1) dX8_track_1 rfl rfl rfl ?_
  refine jr_iload_n (pc' := 3) (i := 2) dX8_track_2 rfl rfl rfl ?_
  refine jr_callV (pc' := 6) (k := 52) (av := [.int x, .int y]) (st := []) sX8_cell wmX8_227 dX8_track_3 rfl (by decide) rfl (by decide) rfl rfl rfl (Nat.le_of_ble_eq_true rfl) rfl (c_Mocell (n := n) x y h ) (fun v h2 hp => ?_)
  rw [hp.1, hp.2]
  show jG E mX8_track (n + 2) X Post 6 [some (.ref 52), some (.int x), some (.int y), none] [.int (f_Mocell (h.1 52 0) (h.1 52 1) x y)] h
  refine jr_iconst (pc' := 7) (v := (-1)) dX8_track_6 rfl (by decide) ?_
  by_cases c1 : (f_Mocell (h.1 52 0) (h.1 52 1) x y) = (-1)
  · refine jr_icmp_neF (pc' := 10) (tgt := 13) dX8_track_7 rfl rfl c1 ?_
    refine jr_ldc (pc' := 12) (v := (-1000000001)) dX8_track_10 rfl wcX8_249 ?_
    exact jr_iret dX8_track_12 rfl rfl (k0 c1)
  · refine jr_icmp_neT (pc' := 13) dX8_track_7 rfl c1 ?_
    refine jr_aload_n (pc' := 14) (i := 0) dX8_track_13 rfl rfl rfl ?_
    refine jr_get (pc' := 17) jK8 (k := 52) (j := 14) (v := .int (h.1 52 14)) wfX8_214 dX8_track_14 rfl (by decide) rfl (by decide) rfl ?_
    refine jr_istore_n (pc' := 18) (i := 3) (lv' := [some (.ref 52), some (.int x), some (.int y), some (.int (h.1 52 14))]) dX8_track_17 rfl rfl (by decide) rfl ?_
    refine jr_aload_n (pc' := 19) (i := 0) dX8_track_18 rfl rfl rfl ?_
    refine jr_iconst (pc' := 20) (v := 0) dX8_track_19 rfl (by decide) ?_
    refine jr_putI (pc' := 23) jK8 (k := 52) (j := 14) wfX8_214 dX8_track_20 rfl (by decide) rfl (by decide) (by decide) rfl rfl rfl ?_
    refine jr_aload_n (pc' := 24) (i := 0) dX8_track_23 rfl rfl rfl ?_
    refine jr_aload_n (pc' := 25) (i := 0) dX8_track_24 rfl rfl rfl ?_
    refine jr_iload_n (pc' := 26) (i := 1) dX8_track_25 rfl rfl rfl ?_
    refine jr_iload_n (pc' := 27) (i := 2) dX8_track_26 rfl rfl rfl ?_
    refine jr_callV (pc' := 30) (k := 52) (av := [.int x, .int y]) (st := [.ref 52]) sX8_cell wmX8_227 dX8_track_27 rfl (by decide) rfl (by decide) rfl rfl rfl (Nat.le_of_ble_eq_true rfl) rfl (c_Mocell (n := n) x y (jPI h 52 14 0) ) (fun v h2 hp => ?_)
    rw [hp.1, hp.2]
    show jG E mX8_track (n + 2) X Post 30 [some (.ref 52), some (.int x), some (.int y), some (.int (h.1 52 14))] [.int (f_Mocell (h.1 52 0) (h.1 52 1) x y), .ref 52] (jPI h 52 14 0)
    refine jr_putI (pc' := 33) jK8 (k := 52) (j := 12) wfX8_73 dX8_track_30 rfl (by decide) rfl (by decide) (by decide) rfl rfl rfl ?_
    refine jr_iload_n (pc' := 34) (i := 3) dX8_track_33 rfl rfl rfl ?_
    exact jr_iret dX8_track_34 rfl rfl (k1 c1)
def f_Motrack (f52_0 : Int32) (f52_1 : Int32) (f52_14 : Int32) (x : Int32) (y : Int32) : Int32 := (if (f_Mocell (f52_0) (f52_1) x y) = (-1) then (-1000000001) else f52_14)
def H_Motrack (h : HP) (x : Int32) (y : Int32) : HP := (if (f_Mocell (h.1 52 0) (h.1 52 1) x y) = (-1) then h else (jPI (jPI h 52 14 0) 52 12 (f_Mocell (h.1 52 0) (h.1 52 1) x y)))
theorem c_Motrack {E : jEnv} {n : Nat} (x : Int32) (y : Int32) (h : HP)  : jC E mX8_track (n + 2) [.ref 52, .int x, .int y] h (fun v h2 => v = some (.int (f_Motrack (h.1 52 0) (h.1 52 1) (h.1 52 14) x y)) ∧ h2 = (H_Motrack h x y)) :=
  jC.of (lv := [some (.ref 52), some (.int x), some (.int y), none]) (by decide) (Nat.le_of_ble_eq_true rfl) ⟨rfl, rfl, rfl, trivial⟩ (q_Motrack_0 x y h (fun c1 => ⟨(congrArg (fun z => some (Value.int z)) (Eq.symm (by first | (rw [f_Motrack, if_pos c1]; done) | (simp [f_Motrack, c1]; done)))), (Eq.symm (by first | (rw [H_Motrack, if_pos c1]; done) | (simp [H_Motrack, c1]; done)))⟩) (fun c1 => ⟨(congrArg (fun z => some (Value.int z)) (Eq.symm (by first | (rw [f_Motrack, if_neg c1]; done) | (simp [f_Motrack, c1]; done)))), (Eq.symm (by first | (rw [H_Motrack, if_neg c1]; done) | (simp [H_Motrack, c1]; done)))⟩))

set_option maxRecDepth 4000 in
theorem q_Mosee_0 {E : jEnv} {n : Nat} {X : State → Prop} {Post : Option Value → HP → Prop} (x : Int32) (y : Int32) (z : Int32) (h : HP)
    (k0 : ((f_Mocell (h.1 52 0) (h.1 52 1) x y) = (-1)) → Post (some (.int (-1000000001))) h)
    (k1 : (¬ (f_Mocell (h.1 52 0) (h.1 52 1) x y) = (-1)) → ((f_Moin z.toInt64 0 40) = 0) → Post (some (.int (-1000000002))) h)
    (k2 : (¬ (f_Mocell (h.1 52 0) (h.1 52 1) x y) = (-1)) → (¬ (f_Moin z.toInt64 0 40) = 0) → ((h.1 52 14) = 20) → Post (some (.int (-1000000004))) h)
    (b0 : (¬ (f_Mocell (h.1 52 0) (h.1 52 1) x y) = (-1)) → (¬ (f_Moin z.toInt64 0 40) = 0) → (¬ (h.1 52 14) = 20) → vp_in (2 * (h.1 52 14)) 40)
    (b1 : (¬ (f_Mocell (h.1 52 0) (h.1 52 1) x y) = (-1)) → (¬ (f_Moin z.toInt64 0 40) = 0) → (¬ (h.1 52 14) = 20) → vp_in ((2 * (h.1 52 14)) + 1) 40)
    (k3 : (¬ (f_Mocell (h.1 52 0) (h.1 52 1) x y) = (-1)) → (¬ (f_Moin z.toInt64 0 40) = 0) → (¬ (h.1 52 14) = 20) → Post (some (.int ((h.1 52 14) + 1))) (jPI (jPI (jPI h 59 ((2 * (h.1 52 14)).toNatClampNeg) (f_Mocell (h.1 52 0) (h.1 52 1) x y)) 59 (((2 * (h.1 52 14)) + 1).toNatClampNeg) z) 52 14 ((h.1 52 14) + 1)))
    : jG E mX8_see (n + 2) X Post 0 [some (.ref 52), some (.int x), some (.int y), some (.int z)] [] h := by
  refine jr_aload_n (pc' := 1) (i := 0) dX8_see_0 rfl rfl rfl ?_
  refine jr_iload_n (pc' := 2) (i := 1) dX8_see_1 rfl rfl rfl ?_
  refine jr_iload_n (pc' := 3) (i := 2) dX8_see_2 rfl rfl rfl ?_
  refine jr_callV (pc' := 6) (k := 52) (av := [.int x, .int y]) (st := []) sX8_cell wmX8_227 dX8_see_3 rfl (by decide) rfl (by decide) rfl rfl rfl (Nat.le_of_ble_eq_true rfl) rfl (c_Mocell (n := n) x y h ) (fun v h2 hp => ?_)
  rw [hp.1, hp.2]
  show jG E mX8_see (n + 2) X Post 6 [some (.ref 52), some (.int x), some (.int y), some (.int z)] [.int (f_Mocell (h.1 52 0) (h.1 52 1) x y)] h
  refine jr_iconst (pc' := 7) (v := (-1)) dX8_see_6 rfl (by decide) ?_
  by_cases c1 : (f_Mocell (h.1 52 0) (h.1 52 1) x y) = (-1)
  · refine jr_icmp_neF (pc' := 10) (tgt := 13) dX8_see_7 rfl rfl c1 ?_
    refine jr_ldc (pc' := 12) (v := (-1000000001)) dX8_see_10 rfl wcX8_249 ?_
    exact jr_iret dX8_see_12 rfl rfl (k0 c1)
  · refine jr_icmp_neT (pc' := 13) dX8_see_7 rfl c1 ?_
    refine jr_iload_n (pc' := 14) (i := 3) dX8_see_13 rfl rfl rfl ?_
    refine jr_i2l (pc' := 15)  dX8_see_14 rfl  ?_
    refine jr_lconst (pc' := 16) (v := 0) dX8_see_15 rfl (by decide) ?_
    refine jr_ldc2 (pc' := 19) (v := 40) dX8_see_16 rfl wcX8_303 ?_
    refine jr_callS (pc' := 22) (av := [.long z.toInt64, .long 0, .long 40]) (st := []) sX8_in wmX8_79 dX8_see_19 rfl rfl (Nat.le_of_ble_eq_true rfl) rfl (c_Moin (n := n + 1) z.toInt64 0 40 h ) (fun v h2 hp => ?_)
    rw [hp.1, hp.2]
    show jG E mX8_see (n + 2) X Post 22 [some (.ref 52), some (.int x), some (.int y), some (.int z)] [.int (f_Moin z.toInt64 0 40)] h
    by_cases c2 : (f_Moin z.toInt64 0 40) = 0
    · refine jr_if_neF (pc' := 25) (tgt := 28) dX8_see_22 rfl rfl c2 ?_
      refine jr_ldc (pc' := 27) (v := (-1000000002)) dX8_see_25 rfl wcX8_94 ?_
      exact jr_iret dX8_see_27 rfl rfl (k1 c1 c2)
    · refine jr_if_neT (pc' := 28) dX8_see_22 rfl c2 ?_
      refine jr_aload_n (pc' := 29) (i := 0) dX8_see_28 rfl rfl rfl ?_
      refine jr_get (pc' := 32) jK8 (k := 52) (j := 14) (v := .int (h.1 52 14)) wfX8_214 dX8_see_29 rfl (by decide) rfl (by decide) rfl ?_
      refine jr_bipush (pc' := 34) (v := 20) dX8_see_32 rfl (by decide) ?_
      by_cases c3 : (h.1 52 14) = 20
      · refine jr_icmp_neF (pc' := 37) (tgt := 40) dX8_see_34 rfl rfl c3 ?_
        refine jr_ldc (pc' := 39) (v := (-1000000004)) dX8_see_37 rfl wcX8_98 ?_
        exact jr_iret dX8_see_39 rfl rfl (k2 c1 c2 c3)
      · refine jr_icmp_neT (pc' := 40) dX8_see_34 rfl c3 ?_
        refine jr_aload_n (pc' := 41) (i := 0) dX8_see_40 rfl rfl rfl ?_
        refine jr_get (pc' := 44) jK8 (k := 52) (j := 13) (v := .ref 59) wfX8_29 dX8_see_41 rfl (by decide) rfl (by decide) rfl ?_
        refine jr_iconst (pc' := 45) (v := 2) dX8_see_44 rfl (by decide) ?_
        refine jr_aload_n (pc' := 46) (i := 0) dX8_see_45 rfl rfl rfl ?_
        refine jr_get (pc' := 49) jK8 (k := 52) (j := 14) (v := .int (h.1 52 14)) wfX8_214 dX8_see_46 rfl (by decide) rfl (by decide) rfl ?_
        refine jr_imul (pc' := 50)  dX8_see_49 rfl  ?_
        refine jr_aload_n (pc' := 51) (i := 0) dX8_see_50 rfl rfl rfl ?_
        refine jr_iload_n (pc' := 52) (i := 1) dX8_see_51 rfl rfl rfl ?_
        refine jr_iload_n (pc' := 53) (i := 2) dX8_see_52 rfl rfl rfl ?_
        refine jr_callV (pc' := 56) (k := 52) (av := [.int x, .int y]) (st := [.int (2 * (h.1 52 14)), .ref 59]) sX8_cell wmX8_227 dX8_see_53 rfl (by decide) rfl (by decide) rfl rfl rfl (Nat.le_of_ble_eq_true rfl) rfl (c_Mocell (n := n) x y h ) (fun v h2 hp => ?_)
        rw [hp.1, hp.2]
        show jG E mX8_see (n + 2) X Post 56 [some (.ref 52), some (.int x), some (.int y), some (.int z)] [.int (f_Mocell (h.1 52 0) (h.1 52 1) x y), .int (2 * (h.1 52 14)), .ref 59] h
        refine jr_iast (pc' := 57) (j := (2 * (h.1 52 14)).toNatClampNeg) dX8_see_56 rfl (by decide) rfl (b0 c1 c2 c3) rfl ?_
        refine jr_aload_n (pc' := 58) (i := 0) dX8_see_57 rfl rfl rfl ?_
        refine jr_get (pc' := 61) jK8 (k := 52) (j := 13) (v := .ref 59) wfX8_29 dX8_see_58 rfl (by decide) rfl (by decide) rfl ?_
        refine jr_iconst (pc' := 62) (v := 2) dX8_see_61 rfl (by decide) ?_
        refine jr_aload_n (pc' := 63) (i := 0) dX8_see_62 rfl rfl rfl ?_
        refine jr_get (pc' := 66) jK8 (k := 52) (j := 14) (v := .int (h.1 52 14)) wfX8_214 dX8_see_63 rfl (by decide) rfl (by decide) rfl ?_
        refine jr_imul (pc' := 67)  dX8_see_66 rfl  ?_
        refine jr_iconst (pc' := 68) (v := 1) dX8_see_67 rfl (by decide) ?_
        refine jr_iadd (pc' := 69)  dX8_see_68 rfl  ?_
        refine jr_iload_n (pc' := 70) (i := 3) dX8_see_69 rfl rfl rfl ?_
        refine jr_iast (pc' := 71) (j := ((2 * (h.1 52 14)) + 1).toNatClampNeg) dX8_see_70 rfl (by decide) rfl (b1 c1 c2 c3) rfl ?_
        refine jr_aload_n (pc' := 72) (i := 0) dX8_see_71 rfl rfl rfl ?_
        refine jr_dup (pc' := 73)  dX8_see_72 rfl rfl ?_
        refine jr_get (pc' := 76) jK8 (k := 52) (j := 14) (v := .int (h.1 52 14)) wfX8_214 dX8_see_73 rfl (by decide) rfl (by decide) rfl ?_
        refine jr_iconst (pc' := 77) (v := 1) dX8_see_76 rfl (by decide) ?_
        refine jr_iadd (pc' := 78)  dX8_see_77 rfl  ?_
        refine jr_putI (pc' := 81) jK8 (k := 52) (j := 14) wfX8_214 dX8_see_78 rfl (by decide) rfl (by decide) (by decide) rfl rfl rfl ?_
        refine jr_aload_n (pc' := 82) (i := 0) dX8_see_81 rfl rfl rfl ?_
        refine jr_get (pc' := 85) jK8 (k := 52) (j := 14) (v := .int ((h.1 52 14) + 1)) wfX8_214 dX8_see_82 rfl (by decide) rfl (by decide) rfl ?_
        exact jr_iret dX8_see_85 rfl rfl (k3 c1 c2 c3)
def f_Mosee (f52_0 : Int32) (f52_1 : Int32) (f52_14 : Int32) (x : Int32) (y : Int32) (z : Int32) : Int32 := (if (f_Mocell (f52_0) (f52_1) x y) = (-1) then (-1000000001) else (if (f_Moin z.toInt64 0 40) = 0 then (-1000000002) else (if (f52_14) = 20 then (-1000000004) else ((f52_14) + 1))))
def H_Mosee (h : HP) (x : Int32) (y : Int32) (z : Int32) : HP := (if (f_Mocell (h.1 52 0) (h.1 52 1) x y) = (-1) then h else (if (f_Moin z.toInt64 0 40) = 0 then h else (if (h.1 52 14) = 20 then h else (jPI (jPI (jPI h 59 ((2 * (h.1 52 14)).toNatClampNeg) (f_Mocell (h.1 52 0) (h.1 52 1) x y)) 59 (((2 * (h.1 52 14)) + 1).toNatClampNeg) z) 52 14 ((h.1 52 14) + 1)))))
theorem c_Mosee {E : jEnv} {n : Nat} (x : Int32) (y : Int32) (z : Int32) (h : HP) (b0 : (¬ (f_Mocell (h.1 52 0) (h.1 52 1) x y) = (-1)) → (¬ (f_Moin z.toInt64 0 40) = 0) → (¬ (h.1 52 14) = 20) → vp_in (2 * (h.1 52 14)) 40) (b1 : (¬ (f_Mocell (h.1 52 0) (h.1 52 1) x y) = (-1)) → (¬ (f_Moin z.toInt64 0 40) = 0) → (¬ (h.1 52 14) = 20) → vp_in ((2 * (h.1 52 14)) + 1) 40) : jC E mX8_see (n + 2) [.ref 52, .int x, .int y, .int z] h (fun v h2 => v = some (.int (f_Mosee (h.1 52 0) (h.1 52 1) (h.1 52 14) x y z)) ∧ h2 = (H_Mosee h x y z)) :=
  jC.of (lv := [some (.ref 52), some (.int x), some (.int y), some (.int z)]) (by decide) (Nat.le_of_ble_eq_true rfl) ⟨rfl, rfl, rfl, rfl, trivial⟩ (q_Mosee_0 x y z h (fun c1 => ⟨(congrArg (fun z => some (Value.int z)) (Eq.symm (by first | (rw [f_Mosee, if_pos c1]; done) | (simp [f_Mosee, c1]; done)))), (Eq.symm (by first | (rw [H_Mosee, if_pos c1]; done) | (simp [H_Mosee, c1]; done)))⟩) (fun c1 c2 => ⟨(congrArg (fun z => some (Value.int z)) (Eq.symm (by first | (rw [f_Mosee, if_neg c1, if_pos c2]; done) | (simp [f_Mosee, c1, c2]; done)))), (Eq.symm (by first | (rw [H_Mosee, if_neg c1, if_pos c2]; done) | (simp [H_Mosee, c1, c2]; done)))⟩) (fun c1 c2 c3 => ⟨(congrArg (fun z => some (Value.int z)) (Eq.symm (by first | (rw [f_Mosee, if_neg c1, if_neg c2, if_pos c3]; done) | (simp [f_Mosee, c1, c2, c3]; done)))), (Eq.symm (by first | (rw [H_Mosee, if_neg c1, if_neg c2, if_pos c3]; done) | (simp [H_Mosee, c1, c2, c3]; done)))⟩) b0 b1 (fun c1 c2 c3 => ⟨(congrArg (fun z => some (Value.int z)) (Eq.symm (by first | (rw [f_Mosee, if_neg c1, if_neg c2, if_neg c3]; done) | (simp [f_Mosee, c1, c2, c3]; done)))), (Eq.symm (by first | (rw [H_Mosee, if_neg c1, if_neg c2, if_neg c3]; done) | (simp [H_Mosee, c1, c2, c3]; done)))⟩))

theorem q_Mowrite_0 {E : jEnv} {n : Nat} {X : State → Prop} {Post : Option Value → HP → Prop} (x : Int32) (y : Int32) (h : HP)
    (k0 : ((f_MoisMan (h.1 52 5) x) = 0) → Post (some (.int (-1000000001))) h)
    (k1 : (¬ (f_MoisMan (h.1 52 5) x) = 0) → ((f_Moin y.toInt64 0 4) = 0) → Post (some (.int (-1000000002))) h)
    (k2 : (¬ (f_MoisMan (h.1 52 5) x) = 0) → (¬ (f_Moin y.toInt64 0 4) = 0) → ((h.1 52 16) = 40) → Post (some (.int (-1000000004))) h)
    (b0 : (¬ (f_MoisMan (h.1 52 5) x) = 0) → (¬ (f_Moin y.toInt64 0 4) = 0) → (¬ (h.1 52 16) = 40) → vp_in (2 * (h.1 52 16)) 80)
    (b1 : (¬ (f_MoisMan (h.1 52 5) x) = 0) → (¬ (f_Moin y.toInt64 0 4) = 0) → (¬ (h.1 52 16) = 40) → vp_in ((2 * (h.1 52 16)) + 1) 80)
    (k3 : (¬ (f_MoisMan (h.1 52 5) x) = 0) → (¬ (f_Moin y.toInt64 0 4) = 0) → (¬ (h.1 52 16) = 40) → Post (some (.int ((h.1 52 16) + 1))) (jPI (jPI (jPI h 60 ((2 * (h.1 52 16)).toNatClampNeg) x) 60 (((2 * (h.1 52 16)) + 1).toNatClampNeg) y) 52 16 ((h.1 52 16) + 1)))
    : jG E mX8_write (n + 2) X Post 0 [some (.ref 52), some (.int x), some (.int y)] [] h := by
  refine jr_aload_n (pc' := 1) (i := 0) dX8_write_0 rfl rfl rfl ?_
  refine jr_iload_n (pc' := 2) (i := 1) dX8_write_1 rfl rfl rfl ?_
  refine jr_callV (pc' := 5) (k := 52) (av := [.int x]) (st := []) sX8_isMan wmX8_252 dX8_write_2 rfl (by decide) rfl (by decide) rfl rfl rfl (Nat.le_of_ble_eq_true rfl) rfl (c_MoisMan (n := n) x h ) (fun v h2 hp => ?_)
  rw [hp.1, hp.2]
  show jG E mX8_write (n + 2) X Post 5 [some (.ref 52), some (.int x), some (.int y)] [.int (f_MoisMan (h.1 52 5) x)] h
  by_cases c1 : (f_MoisMan (h.1 52 5) x) = 0
  · refine jr_if_neF (pc' := 8) (tgt := 11) dX8_write_5 rfl rfl c1 ?_
    refine jr_ldc (pc' := 10) (v := (-1000000001)) dX8_write_8 rfl wcX8_249 ?_
    exact jr_iret dX8_write_10 rfl rfl (k0 c1)
  · refine jr_if_neT (pc' := 11) dX8_write_5 rfl c1 ?_
    refine jr_iload_n (pc' := 12) (i := 2) dX8_write_11 rfl rfl rfl ?_
    refine jr_i2l (pc' := 13)  dX8_write_12 rfl  ?_
    refine jr_lconst (pc' := 14) (v := 0) dX8_write_13 rfl (by decide) ?_
    refine jr_ldc2 (pc' := 17) (v := 4) dX8_write_14 rfl wcX8_257 ?_
    refine jr_callS (pc' := 20) (av := [.long y.toInt64, .long 0, .long 4]) (st := []) sX8_in wmX8_79 dX8_write_17 rfl rfl (Nat.le_of_ble_eq_true rfl) rfl (c_Moin (n := n + 1) y.toInt64 0 4 h ) (fun v h2 hp => ?_)
    rw [hp.1, hp.2]
    show jG E mX8_write (n + 2) X Post 20 [some (.ref 52), some (.int x), some (.int y)] [.int (f_Moin y.toInt64 0 4)] h
    by_cases c2 : (f_Moin y.toInt64 0 4) = 0
    · refine jr_if_neF (pc' := 23) (tgt := 26) dX8_write_20 rfl rfl c2 ?_
      refine jr_ldc (pc' := 25) (v := (-1000000002)) dX8_write_23 rfl wcX8_94 ?_
      exact jr_iret dX8_write_25 rfl rfl (k1 c1 c2)
    · refine jr_if_neT (pc' := 26) dX8_write_20 rfl c2 ?_
      refine jr_aload_n (pc' := 27) (i := 0) dX8_write_26 rfl rfl rfl ?_
      refine jr_get (pc' := 30) jK8 (k := 52) (j := 16) (v := .int (h.1 52 16)) wfX8_217 dX8_write_27 rfl (by decide) rfl (by decide) rfl ?_
      refine jr_bipush (pc' := 32) (v := 40) dX8_write_30 rfl (by decide) ?_
      by_cases c3 : (h.1 52 16) = 40
      · refine jr_icmp_neF (pc' := 35) (tgt := 38) dX8_write_32 rfl rfl c3 ?_
        refine jr_ldc (pc' := 37) (v := (-1000000004)) dX8_write_35 rfl wcX8_98 ?_
        exact jr_iret dX8_write_37 rfl rfl (k2 c1 c2 c3)
      · refine jr_icmp_neT (pc' := 38) dX8_write_32 rfl c3 ?_
        refine jr_aload_n (pc' := 39) (i := 0) dX8_write_38 rfl rfl rfl ?_
        refine jr_get (pc' := 42) jK8 (k := 52) (j := 15) (v := .ref 60) wfX8_32 dX8_write_39 rfl (by decide) rfl (by decide) rfl ?_
        refine jr_iconst (pc' := 43) (v := 2) dX8_write_42 rfl (by decide) ?_
        refine jr_aload_n (pc' := 44) (i := 0) dX8_write_43 rfl rfl rfl ?_
        refine jr_get (pc' := 47) jK8 (k := 52) (j := 16) (v := .int (h.1 52 16)) wfX8_217 dX8_write_44 rfl (by decide) rfl (by decide) rfl ?_
        refine jr_imul (pc' := 48)  dX8_write_47 rfl  ?_
        refine jr_iload_n (pc' := 49) (i := 1) dX8_write_48 rfl rfl rfl ?_
        refine jr_iast (pc' := 50) (j := (2 * (h.1 52 16)).toNatClampNeg) dX8_write_49 rfl (by decide) rfl (b0 c1 c2 c3) rfl ?_
        refine jr_aload_n (pc' := 51) (i := 0) dX8_write_50 rfl rfl rfl ?_
        refine jr_get (pc' := 54) jK8 (k := 52) (j := 15) (v := .ref 60) wfX8_32 dX8_write_51 rfl (by decide) rfl (by decide) rfl ?_
        refine jr_iconst (pc' := 55) (v := 2) dX8_write_54 rfl (by decide) ?_
        refine jr_aload_n (pc' := 56) (i := 0) dX8_write_55 rfl rfl rfl ?_
        refine jr_get (pc' := 59) jK8 (k := 52) (j := 16) (v := .int (h.1 52 16)) wfX8_217 dX8_write_56 rfl (by decide) rfl (by decide) rfl ?_
        refine jr_imul (pc' := 60)  dX8_write_59 rfl  ?_
        refine jr_iconst (pc' := 61) (v := 1) dX8_write_60 rfl (by decide) ?_
        refine jr_iadd (pc' := 62)  dX8_write_61 rfl  ?_
        refine jr_iload_n (pc' := 63) (i := 2) dX8_write_62 rfl rfl rfl ?_
        refine jr_iast (pc' := 64) (j := ((2 * (h.1 52 16)) + 1).toNatClampNeg) dX8_write_63 rfl (by decide) rfl (b1 c1 c2 c3) rfl ?_
        refine jr_aload_n (pc' := 65) (i := 0) dX8_write_64 rfl rfl rfl ?_
        refine jr_dup (pc' := 66)  dX8_write_65 rfl rfl ?_
        refine jr_get (pc' := 69) jK8 (k := 52) (j := 16) (v := .int (h.1 52 16)) wfX8_217 dX8_write_66 rfl (by decide) rfl (by decide) rfl ?_
        refine jr_iconst (pc' := 70) (v := 1) dX8_write_69 rfl (by decide) ?_
        refine jr_iadd (pc' := 71)  dX8_write_70 rfl  ?_
        refine jr_putI (pc' := 74) jK8 (k := 52) (j := 16) wfX8_217 dX8_write_71 rfl (by decide) rfl (by decide) (by decide) rfl rfl rfl ?_
        refine jr_aload_n (pc' := 75) (i := 0) dX8_write_74 rfl rfl rfl ?_
        refine jr_get (pc' := 78) jK8 (k := 52) (j := 16) (v := .int ((h.1 52 16) + 1)) wfX8_217 dX8_write_75 rfl (by decide) rfl (by decide) rfl ?_
        exact jr_iret dX8_write_78 rfl rfl (k3 c1 c2 c3)
def f_Mowrite (f52_16 : Int32) (f52_5 : Int32) (x : Int32) (y : Int32) : Int32 := (if (f_MoisMan (f52_5) x) = 0 then (-1000000001) else (if (f_Moin y.toInt64 0 4) = 0 then (-1000000002) else (if (f52_16) = 40 then (-1000000004) else ((f52_16) + 1))))
def H_Mowrite (h : HP) (x : Int32) (y : Int32) : HP := (if (f_MoisMan (h.1 52 5) x) = 0 then h else (if (f_Moin y.toInt64 0 4) = 0 then h else (if (h.1 52 16) = 40 then h else (jPI (jPI (jPI h 60 ((2 * (h.1 52 16)).toNatClampNeg) x) 60 (((2 * (h.1 52 16)) + 1).toNatClampNeg) y) 52 16 ((h.1 52 16) + 1)))))
theorem c_Mowrite {E : jEnv} {n : Nat} (x : Int32) (y : Int32) (h : HP) (b0 : (¬ (f_MoisMan (h.1 52 5) x) = 0) → (¬ (f_Moin y.toInt64 0 4) = 0) → (¬ (h.1 52 16) = 40) → vp_in (2 * (h.1 52 16)) 80) (b1 : (¬ (f_MoisMan (h.1 52 5) x) = 0) → (¬ (f_Moin y.toInt64 0 4) = 0) → (¬ (h.1 52 16) = 40) → vp_in ((2 * (h.1 52 16)) + 1) 80) : jC E mX8_write (n + 2) [.ref 52, .int x, .int y] h (fun v h2 => v = some (.int (f_Mowrite (h.1 52 16) (h.1 52 5) x y)) ∧ h2 = (H_Mowrite h x y)) :=
  jC.of (lv := [some (.ref 52), some (.int x), some (.int y)]) (by decide) (Nat.le_of_ble_eq_true rfl) ⟨rfl, rfl, rfl, trivial⟩ (q_Mowrite_0 x y h (fun c1 => ⟨(congrArg (fun z => some (Value.int z)) (Eq.symm (by first | (rw [f_Mowrite, if_pos c1]; done) | (simp [f_Mowrite, c1]; done)))), (Eq.symm (by first | (rw [H_Mowrite, if_pos c1]; done) | (simp [H_Mowrite, c1]; done)))⟩) (fun c1 c2 => ⟨(congrArg (fun z => some (Value.int z)) (Eq.symm (by first | (rw [f_Mowrite, if_neg c1, if_pos c2]; done) | (simp [f_Mowrite, c1, c2]; done)))), (Eq.symm (by first | (rw [H_Mowrite, if_neg c1, if_pos c2]; done) | (simp [H_Mowrite, c1, c2]; done)))⟩) (fun c1 c2 c3 => ⟨(congrArg (fun z => some (Value.int z)) (Eq.symm (by first | (rw [f_Mowrite, if_neg c1, if_neg c2, if_pos c3]; done) | (simp [f_Mowrite, c1, c2, c3]; done)))), (Eq.symm (by first | (rw [H_Mowrite, if_neg c1, if_neg c2, if_pos c3]; done) | (simp [H_Mowrite, c1, c2, c3]; done)))⟩) b0 b1 (fun c1 c2 c3 => ⟨(congrArg (fun z => some (Value.int z)) (Eq.symm (by first | (rw [f_Mowrite, if_neg c1, if_neg c2, if_neg c3]; done) | (simp [f_Mowrite, c1, c2, c3]; done)))), (Eq.symm (by first | (rw [H_Mowrite, if_neg c1, if_neg c2, if_neg c3]; done) | (simp [H_Mowrite, c1, c2, c3]; done)))⟩))

theorem q_Motear_0 {E : jEnv} {n : Nat} {X : State → Prop} {Post : Option Value → HP → Prop}  (h : HP)
    (k0 : Post (some (.int (h.1 52 16))) (jPI h 52 16 0))
    : jG E mX8_tear n X Post 0 [some (.ref 52), none] [] h := by
  refine jr_aload_n (pc' := 1) (i := 0) dX8_tear_0 rfl rfl rfl ?_
  refine jr_get (pc' := 4) jK8 (k := 52) (j := 16) (v := .int (h.1 52 16)) wfX8_217 dX8_tear_1 rfl (by decide) rfl (by decide) rfl ?_
  refine jr_istore_n (pc' := 5) (i := 1) (lv' := [some (.ref 52), some (.int (h.1 52 16))]) dX8_tear_4 rfl rfl (by decide) rfl ?_
  refine jr_aload_n (pc' := 6) (i := 0) dX8_tear_5 rfl rfl rfl ?_
  refine jr_iconst (pc' := 7) (v := 0) dX8_tear_6 rfl (by decide) ?_
  refine jr_putI (pc' := 10) jK8 (k := 52) (j := 16) wfX8_217 dX8_tear_7 rfl (by decide) rfl (by decide) (by decide) rfl rfl rfl ?_
  refine jr_iload_n (pc' := 11) (i := 1) dX8_tear_10 rfl rfl rfl ?_
  exact jr_iret dX8_tear_11 rfl rfl (k0)
def f_Motear (f52_16 : Int32)  : Int32 := f52_16
theorem c_Motear {E : jEnv} {n : Nat}  (h : HP)  : jC E mX8_tear n [.ref 52] h (fun v h2 => v = some (.int (f_Motear (h.1 52 16))) ∧ h2 = (jPI h 52 16 0)) :=
  jC.of (lv := [some (.ref 52), none]) (by decide) (Nat.le_of_ble_eq_true rfl) ⟨rfl, trivial⟩ (q_Motear_0  h (⟨(congrArg (fun z => some (Value.int z)) (Eq.symm rfl)), rfl⟩))

theorem q_Moseed_0 {E : jEnv} {n : Nat} {X : State → Prop} {Post : Option Value → HP → Prop} (x : Int32) (h : HP)
    (k0 : ((0 : Int32) ≤ x) → Post (some (.int (h.1 56 1))) (jPI h 56 1 x))
    (k1 : (¬ (0 : Int32) ≤ x) → Post (some (.int (-1000000002))) h)
    : jG E mX8_seed n X Post 0 [some (.ref 52), some (.int x), none] [] h := by
  refine jr_iload_n (pc' := 1) (i := 1) dX8_seed_0 rfl rfl rfl ?_
  by_cases c1 : (0 : Int32) ≤ x
  · refine jr_if_geT (pc' := 7) dX8_seed_1 rfl c1 ?_
    refine jr_aload_n (pc' := 8) (i := 0) dX8_seed_7 rfl rfl rfl ?_
    refine jr_get (pc' := 11) jK8 (k := 52) (j := 9) (v := .ref 56) wfX8_19 dX8_seed_8 rfl (by decide) rfl (by decide) rfl ?_
    refine jr_iconst (pc' := 12) (v := 1) dX8_seed_11 rfl (by decide) ?_
    refine jr_iald (pc' := 13) (v := h.1 56 1) dX8_seed_12 rfl (by decide) rfl (jvin (by decide)) ((congrArg (h.1 56) (by decide : (1 : Int32).toNatClampNeg = 1)).trans rfl) ?_
    refine jr_istore_n (pc' := 14) (i := 2) (lv' := [some (.ref 52), some (.int x), some (.int (h.1 56 1))]) dX8_seed_13 rfl rfl (by decide) rfl ?_
    refine jr_aload_n (pc' := 15) (i := 0) dX8_seed_14 rfl rfl rfl ?_
    refine jr_get (pc' := 18) jK8 (k := 52) (j := 9) (v := .ref 56) wfX8_19 dX8_seed_15 rfl (by decide) rfl (by decide) rfl ?_
    refine jr_iconst (pc' := 19) (v := 1) dX8_seed_18 rfl (by decide) ?_
    refine jr_iload_n (pc' := 20) (i := 1) dX8_seed_19 rfl rfl rfl ?_
    refine jr_iast (pc' := 21) (j := 1) dX8_seed_20 rfl (by decide) rfl (jvin (by decide)) (by decide) ?_
    refine jr_iload_n (pc' := 22) (i := 2) dX8_seed_21 rfl rfl rfl ?_
    exact jr_iret dX8_seed_22 rfl rfl (k0 c1)
  · refine jr_if_geF (pc' := 4) (tgt := 7) dX8_seed_1 rfl rfl c1 ?_
    refine jr_ldc (pc' := 6) (v := (-1000000002)) dX8_seed_4 rfl wcX8_94 ?_
    exact jr_iret dX8_seed_6 rfl rfl (k1 c1)
def f_Moseed (r56 : Nat → Int32) (x : Int32) : Int32 := (if (0 : Int32) ≤ x then r56 1 else (-1000000002))
def H_Moseed (h : HP) (x : Int32) : HP := (if (0 : Int32) ≤ x then (jPI h 56 1 x) else h)
theorem c_Moseed {E : jEnv} {n : Nat} (x : Int32) (h : HP)  : jC E mX8_seed n [.ref 52, .int x] h (fun v h2 => v = some (.int (f_Moseed (h.1 56) x)) ∧ h2 = (H_Moseed h x)) :=
  jC.of (lv := [some (.ref 52), some (.int x), none]) (by decide) (Nat.le_of_ble_eq_true rfl) ⟨rfl, rfl, trivial⟩ (q_Moseed_0 x h (fun c1 => ⟨(congrArg (fun z => some (Value.int z)) (Eq.symm (by first | (rw [f_Moseed, if_pos c1]; done) | (simp [f_Moseed, c1]; done)))), (Eq.symm (by first | (rw [H_Moseed, if_pos c1]; done) | (simp [H_Moseed, c1]; done)))⟩) (fun c1 => ⟨(congrArg (fun z => some (Value.int z)) (Eq.symm (by first | (rw [f_Moseed, if_neg c1]; done) | (simp [f_Moseed, c1]; done)))), (Eq.symm (by first | (rw [H_Moseed, if_neg c1]; done) | (simp [H_Moseed, c1]; done)))⟩))

theorem q_LdwaterOn_0 {E : jEnv} {n : Nat} {X : State → Prop} {Post : Option Value → HP → Prop} (x : Int32) (y : Int32) (h : HP)
    (k0 : (x < 0) → Post (some (.int 0)) h)
    (k1 : (¬ x < 0) → ((36 : Int32) ≤ x) → Post (some (.int 0)) h)
    (b0 : (¬ x < 0) → (¬ (36 : Int32) ≤ x) → ((f_LdtideOf (h.1 3 2) y) < 6) → vp_in (f_LdtideOf (h.1 3 2) y) 6)
    (k2 : (¬ x < 0) → (¬ (36 : Int32) ≤ x) → ((f_LdtideOf (h.1 3 2) y) < 6) → ((0 : Int32) ≤ (((h.1 4 x.toNatClampNeg) + (h.1 5 ((f_LdtideOf (h.1 3 2) y).toNatClampNeg))) - 5)) → Post (some (.int (((h.1 4 x.toNatClampNeg) + (h.1 5 ((f_LdtideOf (h.1 3 2) y).toNatClampNeg))) - 5))) h)
    (k3 : (¬ x < 0) → (¬ (36 : Int32) ≤ x) → ((f_LdtideOf (h.1 3 2) y) < 6) → (¬ (0 : Int32) ≤ (((h.1 4 x.toNatClampNeg) + (h.1 5 ((f_LdtideOf (h.1 3 2) y).toNatClampNeg))) - 5)) → Post (some (.int 0)) h)
    (k4 : (¬ x < 0) → (¬ (36 : Int32) ≤ x) → (¬ (f_LdtideOf (h.1 3 2) y) < 6) → Post (some (.int 0)) h)
    : jG E mX2_waterOn (n + 1) X Post 0 [some (.ref 3), some (.int x), some (.int y), none, none] [] h := by
  refine jr_aload_n (pc' := 1) (i := 0) dX2_waterOn_0 rfl rfl rfl ?_
  refine jr_iload_n (pc' := 2) (i := 2) dX2_waterOn_1 rfl rfl rfl ?_
  refine jr_callV (pc' := 5) (k := 3) (av := [.int y]) (st := []) sX2_tideOf wmX2_101 dX2_waterOn_2 rfl (by decide) rfl (by decide) rfl rfl rfl (Nat.le_of_ble_eq_true rfl) rfl (c_LdtideOf (n := n) y h ) (fun v h2 hp => ?_)
  rw [hp.1, hp.2]
  show jG E mX2_waterOn (n + 1) X Post 5 [some (.ref 3), some (.int x), some (.int y), none, none] [.int (f_LdtideOf (h.1 3 2) y)] h
  refine jr_istore_n (pc' := 6) (i := 3) (lv' := [some (.ref 3), some (.int x), some (.int y), some (.int (f_LdtideOf (h.1 3 2) y)), none]) dX2_waterOn_5 rfl rfl (by decide) rfl ?_
  refine jr_iload_n (pc' := 7) (i := 1) dX2_waterOn_6 rfl rfl rfl ?_
  by_cases c1 : x < 0
  · refine jr_if_ltT (pc' := 28) dX2_waterOn_7 rfl c1 ?_
    refine jr_iconst (pc' := 29) (v := 0) dX2_waterOn_28 rfl (by decide) ?_
    exact jr_iret dX2_waterOn_29 rfl rfl (k0 c1)
  · refine jr_if_ltF (pc' := 10) (tgt := 28) dX2_waterOn_7 rfl rfl c1 ?_
    refine jr_iload_n (pc' := 11) (i := 1) dX2_waterOn_10 rfl rfl rfl ?_
    refine jr_aload_n (pc' := 12) (i := 0) dX2_waterOn_11 rfl rfl rfl ?_
    refine jr_get (pc' := 15) jK2 (k := 3) (j := 9) (v := .ref 4) wfX2_40 dX2_waterOn_12 rfl (by decide) rfl (by decide) rfl ?_
    refine jr_alen (pc' := 16) (v := 36) dX2_waterOn_15 rfl (by decide) (by decide) (by decide) ?_
    by_cases c2 : (36 : Int32) ≤ x
    · refine jr_icmp_geT (pc' := 28) dX2_waterOn_16 rfl c2 ?_
      refine jr_iconst (pc' := 29) (v := 0) dX2_waterOn_28 rfl (by decide) ?_
      exact jr_iret dX2_waterOn_29 rfl rfl (k1 c1 c2)
    · refine jr_icmp_geF (pc' := 19) (tgt := 28) dX2_waterOn_16 rfl rfl c2 ?_
      refine jr_iload_n (pc' := 20) (i := 3) dX2_waterOn_19 rfl rfl rfl ?_
      refine jr_aload_n (pc' := 21) (i := 0) dX2_waterOn_20 rfl rfl rfl ?_
      refine jr_get (pc' := 24) jK2 (k := 3) (j := 10) (v := .ref 5) wfX2_44 dX2_waterOn_21 rfl (by decide) rfl (by decide) rfl ?_
      refine jr_alen (pc' := 25) (v := 6) dX2_waterOn_24 rfl (by decide) (by decide) (by decide) ?_
      by_cases c3 : (f_LdtideOf (h.1 3 2) y) < 6
      · refine jr_icmp_ltT (pc' := 30) dX2_waterOn_25 rfl c3 ?_
        refine jr_aload_n (pc' := 31) (i := 0) dX2_waterOn_30 rfl rfl rfl ?_
        refine jr_get (pc' := 34) jK2 (k := 3) (j := 9) (v := .ref 4) wfX2_40 dX2_waterOn_31 rfl (by decide) rfl (by decide) rfl ?_
        refine jr_iload_n (pc' := 35) (i := 1) dX2_waterOn_34 rfl rfl rfl ?_
        refine jr_iald (pc' := 36) (v := h.1 4 x.toNatClampNeg) dX2_waterOn_35 rfl (by decide) rfl (jvb c1 c2 (by decide)) rfl ?_
        refine jr_aload_n (pc' := 37) (i := 0) dX2_waterOn_36 rfl rfl rfl ?_
        refine jr_get (pc' := 40) jK2 (k := 3) (j := 10) (v := .ref 5) wfX2_44 dX2_waterOn_37 rfl (by decide) rfl (by decide) rfl ?_
        refine jr_iload_n (pc' := 41) (i := 3) dX2_waterOn_40 rfl rfl rfl ?_
        refine jr_iald (pc' := 42) (v := h.1 5 ((f_LdtideOf (h.1 3 2) y).toNatClampNeg)) dX2_waterOn_41 rfl (by decide) rfl (b0 c1 c2 c3) rfl ?_
        refine jr_iadd (pc' := 43)  dX2_waterOn_42 rfl  ?_
        refine jr_iconst (pc' := 44) (v := 5) dX2_waterOn_43 rfl (by decide) ?_
        refine jr_isub (pc' := 45)  dX2_waterOn_44 rfl  ?_
        refine jr_istore (pc' := 47) (i := 4) (lv' := [some (.ref 3), some (.int x), some (.int y), some (.int (f_LdtideOf (h.1 3 2) y)), some (.int (((h.1 4 x.toNatClampNeg) + (h.1 5 ((f_LdtideOf (h.1 3 2) y).toNatClampNeg))) - 5))]) dX2_waterOn_45 rfl (by decide) rfl ?_
        refine jr_iload (pc' := 49) (i := 4) dX2_waterOn_47 rfl rfl ?_
        by_cases c4 : (0 : Int32) ≤ (((h.1 4 x.toNatClampNeg) + (h.1 5 ((f_LdtideOf (h.1 3 2) y).toNatClampNeg))) - 5)
        · refine jr_if_geT (pc' := 56) dX2_waterOn_49 rfl c4 ?_
          refine jr_iload (pc' := 58) (i := 4) dX2_waterOn_56 rfl rfl ?_
          exact jr_iret dX2_waterOn_58 rfl rfl (k2 c1 c2 c3 c4)
        · refine jr_if_geF (pc' := 52) (tgt := 56) dX2_waterOn_49 rfl rfl c4 ?_
          refine jr_iconst (pc' := 53) (v := 0) dX2_waterOn_52 rfl (by decide) ?_
          refine jr_goto (pc' := 58) dX2_waterOn_53 rfl ?_
          exact jr_iret dX2_waterOn_58 rfl rfl (k3 c1 c2 c3 c4)
      · refine jr_icmp_ltF (pc' := 28) (tgt := 30) dX2_waterOn_25 rfl rfl c3 ?_
        refine jr_iconst (pc' := 29) (v := 0) dX2_waterOn_28 rfl (by decide) ?_
        exact jr_iret dX2_waterOn_29 rfl rfl (k4 c1 c2 c3)
def f_LdwaterOn (f3_2 : Int32) (r4 : Nat → Int32) (r5 : Nat → Int32) (x : Int32) (y : Int32) : Int32 := (if x < 0 then 0 else (if (36 : Int32) ≤ x then 0 else (if (f_LdtideOf (f3_2) y) < 6 then (if (0 : Int32) ≤ (((r4 x.toNatClampNeg) + (r5 ((f_LdtideOf (f3_2) y).toNatClampNeg))) - 5) then (((r4 x.toNatClampNeg) + (r5 ((f_LdtideOf (f3_2) y).toNatClampNeg))) - 5) else 0) else 0)))
theorem c_LdwaterOn {E : jEnv} {n : Nat} (x : Int32) (y : Int32) (h : HP) (b0 : (¬ x < 0) → (¬ (36 : Int32) ≤ x) → ((f_LdtideOf (h.1 3 2) y) < 6) → vp_in (f_LdtideOf (h.1 3 2) y) 6) : jC E mX2_waterOn (n + 1) [.ref 3, .int x, .int y] h (fun v h2 => v = some (.int (f_LdwaterOn (h.1 3 2) (h.1 4) (h.1 5) x y)) ∧ h2 = h) :=
  jC.of (lv := [some (.ref 3), some (.int x), some (.int y), none, none]) (by decide) (Nat.le_of_ble_eq_true rfl) ⟨rfl, rfl, rfl, trivial⟩ (q_LdwaterOn_0 x y h (fun c1 => ⟨(congrArg (fun z => some (Value.int z)) (Eq.symm (by first | (rw [f_LdwaterOn, if_pos c1]; done) | (simp [f_LdwaterOn, c1]; done)))), rfl⟩) (fun c1 c2 => ⟨(congrArg (fun z => some (Value.int z)) (Eq.symm (by first | (rw [f_LdwaterOn, if_neg c1, if_pos c2]; done) | (simp [f_LdwaterOn, c1, c2]; done)))), rfl⟩) b0 (fun c1 c2 c3 c4 => ⟨(congrArg (fun z => some (Value.int z)) (Eq.symm (by first | (rw [f_LdwaterOn, if_neg c1, if_neg c2, if_pos c3, if_pos c4]; done) | (simp [f_LdwaterOn, c1, c2, c3, c4]; done)))), rfl⟩) (fun c1 c2 c3 c4 => ⟨(congrArg (fun z => some (Value.int z)) (Eq.symm (by first | (rw [f_LdwaterOn, if_neg c1, if_neg c2, if_pos c3, if_neg c4]; done) | (simp [f_LdwaterOn, c1, c2, c3, c4]; done)))), rfl⟩) (fun c1 c2 c3 => ⟨(congrArg (fun z => some (Value.int z)) (Eq.symm (by first | (rw [f_LdwaterOn, if_neg c1, if_neg c2, if_neg c3]; done) | (simp [f_LdwaterOn, c1, c2, c3]; done)))), rfl⟩))

theorem q_LdnameOf_0 {E : jEnv} {n : Nat} {X : State → Prop} {Post : Option Value → HP → Prop} (x : Int32) (h : HP)
    (k0 : Post (some (.int ((10 * (f_LdcolumnOf (h.1 3 0) x)) + (f_LdrowOf (h.1 3 0) x)))) h)
    : jG E mX2_nameOf (n + 1) X Post 0 [some (.ref 3), some (.int x)] [] h := by
  refine jr_bipush (pc' := 2) (v := 10) dX2_nameOf_0 rfl (by decide) ?_
  refine jr_aload_n (pc' := 3) (i := 0) dX2_nameOf_2 rfl rfl rfl ?_
  refine jr_iload_n (pc' := 4) (i := 1) dX2_nameOf_3 rfl rfl rfl ?_
  refine jr_callV (pc' := 7) (k := 3) (av := [.int x]) (st := [.int 10]) sX2_columnOf wmX2_79 dX2_nameOf_4 rfl (by decide) rfl (by decide) rfl rfl rfl (Nat.le_of_ble_eq_true rfl) rfl (c_LdcolumnOf (n := n) x h ) (fun v h2 hp => ?_)
  rw [hp.1, hp.2]
  show jG E mX2_nameOf (n + 1) X Post 7 [some (.ref 3), some (.int x)] [.int (f_LdcolumnOf (h.1 3 0) x), .int 10] h
  refine jr_imul (pc' := 8)  dX2_nameOf_7 rfl  ?_
  refine jr_aload_n (pc' := 9) (i := 0) dX2_nameOf_8 rfl rfl rfl ?_
  refine jr_iload_n (pc' := 10) (i := 1) dX2_nameOf_9 rfl rfl rfl ?_
  refine jr_callV (pc' := 13) (k := 3) (av := [.int x]) (st := [.int (10 * (f_LdcolumnOf (h.1 3 0) x))]) sX2_rowOf wmX2_91 dX2_nameOf_10 rfl (by decide) rfl (by decide) rfl rfl rfl (Nat.le_of_ble_eq_true rfl) rfl (c_LdrowOf (n := n) x h ) (fun v h2 hp => ?_)
  rw [hp.1, hp.2]
  show jG E mX2_nameOf (n + 1) X Post 13 [some (.ref 3), some (.int x)] [.int (f_LdrowOf (h.1 3 0) x), .int (10 * (f_LdcolumnOf (h.1 3 0) x))] h
  refine jr_iadd (pc' := 14)  dX2_nameOf_13 rfl  ?_
  exact jr_iret dX2_nameOf_14 rfl rfl (k0)
def f_LdnameOf (f3_0 : Int32) (x : Int32) : Int32 := ((10 * (f_LdcolumnOf (f3_0) x)) + (f_LdrowOf (f3_0) x))
theorem c_LdnameOf {E : jEnv} {n : Nat} (x : Int32) (h : HP)  : jC E mX2_nameOf (n + 1) [.ref 3, .int x] h (fun v h2 => v = some (.int (f_LdnameOf (h.1 3 0) x)) ∧ h2 = h) :=
  jC.of (lv := [some (.ref 3), some (.int x)]) (by decide) (Nat.le_of_ble_eq_true rfl) ⟨rfl, rfl, trivial⟩ (q_LdnameOf_0 x h (⟨(congrArg (fun z => some (Value.int z)) (Eq.symm rfl)), rfl⟩))

theorem q_StdepthOf_0 {E : jEnv} {n : Nat} {X : State → Prop} {Post : Option Value → HP → Prop} (x : Int32) (y : Int32) (h : HP)
    (b0 : ((f_Shhas (h.2 18 3) x) = 0) → ((¬ x < 0) → (¬ (36 : Int32) ≤ x) → ((f_LdtideOf ((h.1 3 2)) y) < 6) → vp_in (f_LdtideOf ((h.1 3 2)) y) 6))
    (k0 : ((f_Shhas (h.2 18 3) x) = 0) → Post (some (.int (f_LdwaterOn (h.1 3 2) (h.1 4) (h.1 5) x y))) h)
    (k1 : (¬ (f_Shhas (h.2 18 3) x) = 0) → Post (some (.int 0)) h)
    : jG E mX5_depthOf (n + 2) X Post 0 [some (.ref 18), some (.int x), some (.int y)] [] h := by
  refine jr_aload_n (pc' := 1) (i := 0) dX5_depthOf_0 rfl rfl rfl ?_
  refine jr_get (pc' := 4) jK5 (k := 18) (j := 3) (v := .long (h.2 18 3)) wfX5_18 dX5_depthOf_1 rfl (by decide) rfl (by decide) rfl ?_
  refine jr_iload_n (pc' := 5) (i := 1) dX5_depthOf_4 rfl rfl rfl ?_
  refine jr_callSN (pc' := 8) (av := [.long (h.2 18 3), .int x]) (st := []) sX7_has (host := "StiltHeralds") (by decide +kernel) dX5_depthOf_5 rfl rfl (Nat.le_of_ble_eq_true rfl) rfl (c_Shhas (n := n + 1) (h.2 18 3) x h ) (fun v h2 hp => ?_)
  rw [hp.1, hp.2]
  show jG E mX5_depthOf (n + 2) X Post 8 [some (.ref 18), some (.int x), some (.int y)] [.int (f_Shhas (h.2 18 3) x)] h
  by_cases c1 : (f_Shhas (h.2 18 3) x) = 0
  · refine jr_if_eqT (pc' := 15) dX5_depthOf_8 rfl c1 ?_
    refine jr_aload_n (pc' := 16) (i := 0) dX5_depthOf_15 rfl rfl rfl ?_
    refine jr_get (pc' := 19) jK5 (k := 18) (j := 0) (v := .ref 3) wfX5_38 dX5_depthOf_16 rfl (by decide) rfl (by decide) rfl ?_
    refine jr_iload_n (pc' := 20) (i := 1) dX5_depthOf_19 rfl rfl rfl ?_
    refine jr_iload_n (pc' := 21) (i := 2) dX5_depthOf_20 rfl rfl rfl ?_
    refine jr_callV (pc' := 24) (k := 3) (av := [.int x, .int y]) (st := []) sX2_waterOn wmX5_69 dX5_depthOf_21 rfl (by decide) rfl (by decide) rfl rfl rfl (Nat.le_of_ble_eq_true rfl) rfl (c_LdwaterOn (n := n) x y h (b0 c1)) (fun v h2 hp => ?_)
    rw [hp.1, hp.2]
    show jG E mX5_depthOf (n + 2) X Post 24 [some (.ref 18), some (.int x), some (.int y)] [.int (f_LdwaterOn (h.1 3 2) (h.1 4) (h.1 5) x y)] h
    exact jr_iret dX5_depthOf_24 rfl rfl (k0 c1)
  · refine jr_if_eqF (pc' := 11) (tgt := 15) dX5_depthOf_8 rfl rfl c1 ?_
    refine jr_iconst (pc' := 12) (v := 0) dX5_depthOf_11 rfl (by decide) ?_
    refine jr_goto (pc' := 24) dX5_depthOf_12 rfl ?_
    exact jr_iret dX5_depthOf_24 rfl rfl (k1 c1)
def f_StdepthOf (f3_2 : Int32) (g18_3 : Int64) (r4 : Nat → Int32) (r5 : Nat → Int32) (x : Int32) (y : Int32) : Int32 := (if (f_Shhas (g18_3) x) = 0 then (f_LdwaterOn (f3_2) (r4) (r5) x y) else 0)
theorem c_StdepthOf {E : jEnv} {n : Nat} (x : Int32) (y : Int32) (h : HP) (b0 : ((f_Shhas (h.2 18 3) x) = 0) → ((¬ x < 0) → (¬ (36 : Int32) ≤ x) → ((f_LdtideOf ((h.1 3 2)) y) < 6) → vp_in (f_LdtideOf ((h.1 3 2)) y) 6)) : jC E mX5_depthOf (n + 2) [.ref 18, .int x, .int y] h (fun v h2 => v = some (.int (f_StdepthOf (h.1 3 2) (h.2 18 3) (h.1 4) (h.1 5) x y)) ∧ h2 = h) :=
  jC.of (lv := [some (.ref 18), some (.int x), some (.int y)]) (by decide) (Nat.le_of_ble_eq_true rfl) ⟨rfl, rfl, rfl, trivial⟩ (q_StdepthOf_0 x y h b0 (fun c1 => ⟨(congrArg (fun z => some (Value.int z)) (Eq.symm (by first | (rw [f_StdepthOf, if_pos c1]; done) | (simp [f_StdepthOf, c1]; done)))), rfl⟩) (fun c1 => ⟨(congrArg (fun z => some (Value.int z)) (Eq.symm (by first | (rw [f_StdepthOf, if_neg c1]; done) | (simp [f_StdepthOf, c1]; done)))), rfl⟩))

theorem q_StisWet_0 {E : jEnv} {n : Nat} {X : State → Prop} {Post : Option Value → HP → Prop} (x : Int32) (h : HP)
    (b0 : vp_in x 4)
    (b1 : (((f_Shhas ((h.2 18 3)) (h.1 19 x.toNatClampNeg)) = 0) → ((¬ (h.1 19 x.toNatClampNeg) < 0) → (¬ (36 : Int32) ≤ (h.1 19 x.toNatClampNeg)) → ((f_LdtideOf (((h.1 3 2))) (h.1 18 1)) < 6) → vp_in (f_LdtideOf (((h.1 3 2))) (h.1 18 1)) 6)))
    (b2 : vp_in x 4)
    (k0 : ((f_StdepthOf (h.1 3 2) (h.2 18 3) (h.1 4) (h.1 5) (h.1 19 x.toNatClampNeg) (h.1 18 1)) ≤ (h.1 20 x.toNatClampNeg)) → Post (some (.int 0)) h)
    (k1 : (¬ (f_StdepthOf (h.1 3 2) (h.2 18 3) (h.1 4) (h.1 5) (h.1 19 x.toNatClampNeg) (h.1 18 1)) ≤ (h.1 20 x.toNatClampNeg)) → Post (some (.int 1)) h)
    : jG E mX5_isWet (n + 3) X Post 0 [some (.ref 18), some (.int x)] [] h := by
  refine jr_aload_n (pc' := 1) (i := 0) dX5_isWet_0 rfl rfl rfl ?_
  refine jr_aload_n (pc' := 2) (i := 0) dX5_isWet_1 rfl rfl rfl ?_
  refine jr_get (pc' := 5) jK5 (k := 18) (j := 4) (v := .ref 19) wfX5_22 dX5_isWet_2 rfl (by decide) rfl (by decide) rfl ?_
  refine jr_iload_n (pc' := 6) (i := 1) dX5_isWet_5 rfl rfl rfl ?_
  refine jr_iald (pc' := 7) (v := h.1 19 x.toNatClampNeg) dX5_isWet_6 rfl (by decide) rfl (b0) rfl ?_
  refine jr_aload_n (pc' := 8) (i := 0) dX5_isWet_7 rfl rfl rfl ?_
  refine jr_get (pc' := 11) jK5 (k := 18) (j := 1) (v := .int (h.1 18 1)) wfX5_9 dX5_isWet_8 rfl (by decide) rfl (by decide) rfl ?_
  refine jr_callV (pc' := 14) (k := 18) (av := [.int (h.1 19 x.toNatClampNeg), .int (h.1 18 1)]) (st := []) sX5_depthOf wmX5_73 dX5_isWet_11 rfl (by decide) rfl (by decide) rfl rfl rfl (Nat.le_of_ble_eq_true rfl) rfl (c_StdepthOf (n := n) (h.1 19 x.toNatClampNeg) (h.1 18 1) h (b1)) (fun v h2 hp => ?_)
  rw [hp.1, hp.2]
  show jG E mX5_isWet (n + 3) X Post 14 [some (.ref 18), some (.int x)] [.int (f_StdepthOf (h.1 3 2) (h.2 18 3) (h.1 4) (h.1 5) (h.1 19 x.toNatClampNeg) (h.1 18 1))] h
  refine jr_aload_n (pc' := 15) (i := 0) dX5_isWet_14 rfl rfl rfl ?_
  refine jr_get (pc' := 18) jK5 (k := 18) (j := 5) (v := .ref 20) wfX5_26 dX5_isWet_15 rfl (by decide) rfl (by decide) rfl ?_
  refine jr_iload_n (pc' := 19) (i := 1) dX5_isWet_18 rfl rfl rfl ?_
  refine jr_iald (pc' := 20) (v := h.1 20 x.toNatClampNeg) dX5_isWet_19 rfl (by decide) rfl (b2) rfl ?_
  by_cases c1 : (f_StdepthOf (h.1 3 2) (h.2 18 3) (h.1 4) (h.1 5) (h.1 19 x.toNatClampNeg) (h.1 18 1)) ≤ (h.1 20 x.toNatClampNeg)
  · refine jr_icmp_leT (pc' := 27) dX5_isWet_20 rfl c1 ?_
    refine jr_iconst (pc' := 28) (v := 0) dX5_isWet_27 rfl (by decide) ?_
    exact jr_iret dX5_isWet_28 rfl rfl (k0 c1)
  · refine jr_icmp_leF (pc' := 23) (tgt := 27) dX5_isWet_20 rfl rfl c1 ?_
    refine jr_iconst (pc' := 24) (v := 1) dX5_isWet_23 rfl (by decide) ?_
    refine jr_goto (pc' := 28) dX5_isWet_24 rfl ?_
    exact jr_iret dX5_isWet_28 rfl rfl (k1 c1)
def f_StisWet (f18_1 : Int32) (f3_2 : Int32) (g18_3 : Int64) (r19 : Nat → Int32) (r20 : Nat → Int32) (r4 : Nat → Int32) (r5 : Nat → Int32) (x : Int32) : Int32 := (if (f_StdepthOf (f3_2) (g18_3) (r4) (r5) (r19 x.toNatClampNeg) (f18_1)) ≤ (r20 x.toNatClampNeg) then 0 else 1)
theorem c_StisWet {E : jEnv} {n : Nat} (x : Int32) (h : HP) (b0 : vp_in x 4) (b1 : (((f_Shhas ((h.2 18 3)) (h.1 19 x.toNatClampNeg)) = 0) → ((¬ (h.1 19 x.toNatClampNeg) < 0) → (¬ (36 : Int32) ≤ (h.1 19 x.toNatClampNeg)) → ((f_LdtideOf (((h.1 3 2))) (h.1 18 1)) < 6) → vp_in (f_LdtideOf (((h.1 3 2))) (h.1 18 1)) 6))) (b2 : vp_in x 4) : jC E mX5_isWet (n + 3) [.ref 18, .int x] h (fun v h2 => v = some (.int (f_StisWet (h.1 18 1) (h.1 3 2) (h.2 18 3) (h.1 19) (h.1 20) (h.1 4) (h.1 5) x)) ∧ h2 = h) :=
  jC.of (lv := [some (.ref 18), some (.int x)]) (by decide) (Nat.le_of_ble_eq_true rfl) ⟨rfl, rfl, trivial⟩ (q_StisWet_0 x h b0 b1 b2 (fun c1 => ⟨(congrArg (fun z => some (Value.int z)) (Eq.symm (by first | (rw [f_StisWet, if_pos c1]; done) | (simp [f_StisWet, c1]; done)))), rfl⟩) (fun c1 => ⟨(congrArg (fun z => some (Value.int z)) (Eq.symm (by first | (rw [f_StisWet, if_neg c1]; done) | (simp [f_StisWet, c1]; done)))), rfl⟩))

theorem q_Shorder_0 {E : jEnv} {n : Nat} {X : State → Prop} {Post : Option Value → HP → Prop} (x : Int32) (y : Int32) (h : HP)
    (k0 : ((f_LdisMan (h.1 3 3) x) = 0) → Post (some (.int (-1000000001))) h)
    (k1 : (¬ (f_LdisMan (h.1 3 3) x) = 0) → ((f_ShisWay y) = 0) → Post (some (.int (-1000000002))) h)
    (b0 : (¬ (f_LdisMan (h.1 3 3) x) = 0) → (¬ (f_ShisWay y) = 0) → vp_in x 4)
    (b1 : (¬ (f_LdisMan (h.1 3 3) x) = 0) → (¬ (f_ShisWay y) = 0) → vp_in x 4)
    (k2 : (¬ (f_LdisMan (h.1 3 3) x) = 0) → (¬ (f_ShisWay y) = 0) → Post (some (.int (h.1 23 x.toNatClampNeg))) (jPI h 23 x.toNatClampNeg y))
    : jG E mX7_order (n + 1) X Post 0 [some (.ref 0), some (.int x), some (.int y), none] [] h := by
  refine jr_aload_n (pc' := 1) (i := 0) dX7_order_0 rfl rfl rfl ?_
  refine jr_get (pc' := 4) jK7 (k := 0) (j := 1) (v := .ref 3) wfX7_19 dX7_order_1 rfl (by decide) rfl (by decide) rfl ?_
  refine jr_iload_n (pc' := 5) (i := 1) dX7_order_4 rfl rfl rfl ?_
  refine jr_callV (pc' := 8) (k := 3) (av := [.int x]) (st := []) sX2_isMan wmX7_154 dX7_order_5 rfl (by decide) rfl (by decide) rfl rfl rfl (Nat.le_of_ble_eq_true rfl) rfl (c_LdisMan (n := n) x h ) (fun v h2 hp => ?_)
  rw [hp.1, hp.2]
  show jG E mX7_order (n + 1) X Post 8 [some (.ref 0), some (.int x), some (.int y), none] [.int (f_LdisMan (h.1 3 3) x)] h
  by_cases c1 : (f_LdisMan (h.1 3 3) x) = 0
  · refine jr_if_neF (pc' := 11) (tgt := 14) dX7_order_8 rfl rfl c1 ?_
    refine jr_ldc (pc' := 13) (v := (-1000000001)) dX7_order_11 rfl wcX7_146 ?_
    exact jr_iret dX7_order_13 rfl rfl (k0 c1)
  · refine jr_if_neT (pc' := 14) dX7_order_8 rfl c1 ?_
    refine jr_iload_n (pc' := 15) (i := 2) dX7_order_14 rfl rfl rfl ?_
    refine jr_callS (pc' := 18) (av := [.int y]) (st := []) sX7_isWay wmX7_183 dX7_order_15 rfl rfl (Nat.le_of_ble_eq_true rfl) rfl (c_ShisWay (n := n) y h ) (fun v h2 hp => ?_)
    rw [hp.1, hp.2]
    show jG E mX7_order (n + 1) X Post 18 [some (.ref 0), some (.int x), some (.int y), none] [.int (f_ShisWay y)] h
    by_cases c2 : (f_ShisWay y) = 0
    · refine jr_if_neF (pc' := 21) (tgt := 24) dX7_order_18 rfl rfl c2 ?_
      refine jr_ldc (pc' := 23) (v := (-1000000002)) dX7_order_21 rfl wcX7_74 ?_
      exact jr_iret dX7_order_23 rfl rfl (k1 c1 c2)
    · refine jr_if_neT (pc' := 24) dX7_order_18 rfl c2 ?_
      refine jr_aload_n (pc' := 25) (i := 0) dX7_order_24 rfl rfl rfl ?_
      refine jr_get (pc' := 28) jK7 (k := 0) (j := 3) (v := .ref 18) wfX7_37 dX7_order_25 rfl (by decide) rfl (by decide) rfl ?_
      refine jr_get (pc' := 31) jK5 (k := 18) (j := 8) (v := .ref 23) wfX7_180 dX7_order_28 rfl (by decide) rfl (by decide) rfl ?_
      refine jr_iload_n (pc' := 32) (i := 1) dX7_order_31 rfl rfl rfl ?_
      refine jr_iald (pc' := 33) (v := h.1 23 x.toNatClampNeg) dX7_order_32 rfl (by decide) rfl (b0 c1 c2) rfl ?_
      refine jr_istore_n (pc' := 34) (i := 3) (lv' := [some (.ref 0), some (.int x), some (.int y), some (.int (h.1 23 x.toNatClampNeg))]) dX7_order_33 rfl rfl (by decide) rfl ?_
      refine jr_aload_n (pc' := 35) (i := 0) dX7_order_34 rfl rfl rfl ?_
      refine jr_get (pc' := 38) jK7 (k := 0) (j := 3) (v := .ref 18) wfX7_37 dX7_order_35 rfl (by decide) rfl (by decide) rfl ?_
      refine jr_get (pc' := 41) jK5 (k := 18) (j := 8) (v := .ref 23) wfX7_180 dX7_order_38 rfl (by decide) rfl (by decide) rfl ?_
      refine jr_iload_n (pc' := 42) (i := 1) dX7_order_41 rfl rfl rfl ?_
      refine jr_iload_n (pc' := 43) (i := 2) dX7_order_42 rfl rfl rfl ?_
      refine jr_iast (pc' := 44) (j := x.toNatClampNeg) dX7_order_43 rfl (by decide) rfl (b1 c1 c2) rfl ?_
      refine jr_iload_n (pc' := 45) (i := 3) dX7_order_44 rfl rfl rfl ?_
      exact jr_iret dX7_order_45 rfl rfl (k2 c1 c2)
def f_Shorder (f3_3 : Int32) (r23 : Nat → Int32) (x : Int32) (y : Int32) : Int32 := (if (f_LdisMan (f3_3) x) = 0 then (-1000000001) else (if (f_ShisWay y) = 0 then (-1000000002) else r23 x.toNatClampNeg))
def H_Shorder (h : HP) (x : Int32) (y : Int32) : HP := (if (f_LdisMan (h.1 3 3) x) = 0 then h else (if (f_ShisWay y) = 0 then h else (jPI h 23 x.toNatClampNeg y)))
theorem c_Shorder {E : jEnv} {n : Nat} (x : Int32) (y : Int32) (h : HP) (b0 : (¬ (f_LdisMan (h.1 3 3) x) = 0) → (¬ (f_ShisWay y) = 0) → vp_in x 4) (b1 : (¬ (f_LdisMan (h.1 3 3) x) = 0) → (¬ (f_ShisWay y) = 0) → vp_in x 4) : jC E mX7_order (n + 1) [.ref 0, .int x, .int y] h (fun v h2 => v = some (.int (f_Shorder (h.1 3 3) (h.1 23) x y)) ∧ h2 = (H_Shorder h x y)) :=
  jC.of (lv := [some (.ref 0), some (.int x), some (.int y), none]) (by decide) (Nat.le_of_ble_eq_true rfl) ⟨rfl, rfl, rfl, trivial⟩ (q_Shorder_0 x y h (fun c1 => ⟨(congrArg (fun z => some (Value.int z)) (Eq.symm (by first | (rw [f_Shorder, if_pos c1]; done) | (simp [f_Shorder, c1]; done)))), (Eq.symm (by first | (rw [H_Shorder, if_pos c1]; done) | (simp [H_Shorder, c1]; done)))⟩) (fun c1 c2 => ⟨(congrArg (fun z => some (Value.int z)) (Eq.symm (by first | (rw [f_Shorder, if_neg c1, if_pos c2]; done) | (simp [f_Shorder, c1, c2]; done)))), (Eq.symm (by first | (rw [H_Shorder, if_neg c1, if_pos c2]; done) | (simp [H_Shorder, c1, c2]; done)))⟩) b0 b1 (fun c1 c2 => ⟨(congrArg (fun z => some (Value.int z)) (Eq.symm (by first | (rw [f_Shorder, if_neg c1, if_neg c2]; done) | (simp [f_Shorder, c1, c2]; done)))), (Eq.symm (by first | (rw [H_Shorder, if_neg c1, if_neg c2]; done) | (simp [H_Shorder, c1, c2]; done)))⟩))

theorem q_StwayLeads_0 {E : jEnv} {n : Nat} {X : State → Prop} {Post : Option Value → HP → Prop} (x : Int32) (y : Int32) (z : Int32) (u : Int32) (h : HP)
    (k0 : (y = 0) → Post (some (.int x)) h)
    (k1 : (¬ y = 0) → ((f_Ldbeside (h.1 3 0) (h.1 3 1) x y) = (-1)) → Post (some (.int (-1))) h)
    (b0 : (¬ y = 0) → (¬ (f_Ldbeside (h.1 3 0) (h.1 3 1) x y) = (-1)) → (((f_Shhas ((h.2 18 3)) (f_Ldbeside (h.1 3 0) (h.1 3 1) x y)) = 0) → ((¬ (f_Ldbeside (h.1 3 0) (h.1 3 1) x y) < 0) → (¬ (36 : Int32) ≤ (f_Ldbeside (h.1 3 0) (h.1 3 1) x y)) → ((f_LdtideOf (((h.1 3 2))) u) < 6) → vp_in (f_LdtideOf (((h.1 3 2))) u) 6)))
    (k2 : (¬ y = 0) → (¬ (f_Ldbeside (h.1 3 0) (h.1 3 1) x y) = (-1)) → (z < (f_StdepthOf (h.1 3 2) (h.2 18 3) (h.1 4) (h.1 5) (f_Ldbeside (h.1 3 0) (h.1 3 1) x y) u)) → Post (some (.int (-1))) h)
    (k3 : (¬ y = 0) → (¬ (f_Ldbeside (h.1 3 0) (h.1 3 1) x y) = (-1)) → (¬ z < (f_StdepthOf (h.1 3 2) (h.2 18 3) (h.1 4) (h.1 5) (f_Ldbeside (h.1 3 0) (h.1 3 1) x y) u)) → Post (some (.int (f_Ldbeside (h.1 3 0) (h.1 3 1) x y))) h)
    : jG E mX5_wayLeads (n + 3) X Post 0 [some (.ref 18), some (.int x), some (.int y), some (.int z), some (.int u), none] [] h := by
  refine jr_iload_n (pc' := 1) (i := 2) dX5_wayLeads_0 rfl rfl rfl ?_
  by_cases c1 : y = 0
  · refine jr_if_neF (pc' := 4) (tgt := 6) dX5_wayLeads_1 rfl rfl c1 ?_
    refine jr_iload_n (pc' := 5) (i := 1) dX5_wayLeads_4 rfl rfl rfl ?_
    exact jr_iret dX5_wayLeads_5 rfl rfl (k0 c1)
  · refine jr_if_neT (pc' := 6) dX5_wayLeads_1 rfl c1 ?_
    refine jr_aload_n (pc' := 7) (i := 0) dX5_wayLeads_6 rfl rfl rfl ?_
    refine jr_get (pc' := 10) jK5 (k := 18) (j := 0) (v := .ref 3) wfX5_38 dX5_wayLeads_7 rfl (by decide) rfl (by decide) rfl ?_
    refine jr_iload_n (pc' := 11) (i := 1) dX5_wayLeads_10 rfl rfl rfl ?_
    refine jr_iload_n (pc' := 12) (i := 2) dX5_wayLeads_11 rfl rfl rfl ?_
    refine jr_callV (pc' := 15) (k := 3) (av := [.int x, .int y]) (st := []) sX2_beside wmX5_76 dX5_wayLeads_12 rfl (by decide) rfl (by decide) rfl rfl rfl (Nat.le_of_ble_eq_true rfl) rfl (c_Ldbeside (n := n + 1) x y h ) (fun v h2 hp => ?_)
    rw [hp.1, hp.2]
    show jG E mX5_wayLeads (n + 3) X Post 15 [some (.ref 18), some (.int x), some (.int y), some (.int z), some (.int u), none] [.int (f_Ldbeside (h.1 3 0) (h.1 3 1) x y)] h
    refine jr_istore (pc' := 17) (i := 5) (lv' := [some (.ref 18), some (.int x), some (.int y), some (.int z), some (.int u), some (.int (f_Ldbeside (h.1 3 0) (h.1 3 1) x y))]) dX5_wayLeads_15 rfl (by decide) rfl ?_
    refine jr_iload (pc' := 19) (i := 5) dX5_wayLeads_17 rfl rfl ?_
    refine jr_iconst (pc' := 20) (v := (-1)) dX5_wayLeads_19 rfl (by decide) ?_
    by_cases c2 : (f_Ldbeside (h.1 3 0) (h.1 3 1) x y) = (-1)
    · refine jr_icmp_eqT (pc' := 40) dX5_wayLeads_20 rfl c2 ?_
      refine jr_iconst (pc' := 41) (v := (-1)) dX5_wayLeads_40 rfl (by decide) ?_
      exact jr_iret dX5_wayLeads_41 rfl rfl (k1 c1 c2)
    · refine jr_icmp_eqF (pc' := 23) (tgt := 40) dX5_wayLeads_20 rfl rfl c2 ?_
      refine jr_aload_n (pc' := 24) (i := 0) dX5_wayLeads_23 rfl rfl rfl ?_
      refine jr_iload (pc' := 26) (i := 5) dX5_wayLeads_24 rfl rfl ?_
      refine jr_iload (pc' := 28) (i := 4) dX5_wayLeads_26 rfl rfl ?_
      refine jr_callV (pc' := 31) (k := 18) (av := [.int (f_Ldbeside (h.1 3 0) (h.1 3 1) x y), .int u]) (st := []) sX5_depthOf wmX5_73 dX5_wayLeads_28 rfl (by decide) rfl (by decide) rfl rfl rfl (Nat.le_of_ble_eq_true rfl) rfl (c_StdepthOf (n := n) (f_Ldbeside (h.1 3 0) (h.1 3 1) x y) u h (b0 c1 c2)) (fun v h2 hp => ?_)
      rw [hp.1, hp.2]
      show jG E mX5_wayLeads (n + 3) X Post 31 [some (.ref 18), some (.int x), some (.int y), some (.int z), some (.int u), some (.int (f_Ldbeside (h.1 3 0) (h.1 3 1) x y))] [.int (f_StdepthOf (h.1 3 2) (h.2 18 3) (h.1 4) (h.1 5) (f_Ldbeside (h.1 3 0) (h.1 3 1) x y) u)] h
      refine jr_iload_n (pc' := 32) (i := 3) dX5_wayLeads_31 rfl rfl rfl ?_
      by_cases c3 : z < (f_StdepthOf (h.1 3 2) (h.2 18 3) (h.1 4) (h.1 5) (f_Ldbeside (h.1 3 0) (h.1 3 1) x y) u)
      · refine jr_icmp_gtT (pc' := 40) dX5_wayLeads_32 rfl c3 ?_
        refine jr_iconst (pc' := 41) (v := (-1)) dX5_wayLeads_40 rfl (by decide) ?_
        exact jr_iret dX5_wayLeads_41 rfl rfl (k2 c1 c2 c3)
      · refine jr_icmp_gtF (pc' := 35) (tgt := 40) dX5_wayLeads_32 rfl rfl c3 ?_
        refine jr_iload (pc' := 37) (i := 5) dX5_wayLeads_35 rfl rfl ?_
        refine jr_goto (pc' := 41) dX5_wayLeads_37 rfl ?_
        exact jr_iret dX5_wayLeads_41 rfl rfl (k3 c1 c2 c3)
def f_StwayLeads (f3_0 : Int32) (f3_1 : Int32) (f3_2 : Int32) (g18_3 : Int64) (r4 : Nat → Int32) (r5 : Nat → Int32) (x : Int32) (y : Int32) (z : Int32) (u : Int32) : Int32 := (if y = 0 then x else (if (f_Ldbeside (f3_0) (f3_1) x y) = (-1) then (-1) else (if z < (f_StdepthOf (f3_2) (g18_3) (r4) (r5) (f_Ldbeside (f3_0) (f3_1) x y) u) then (-1) else (f_Ldbeside (f3_0) (f3_1) x y))))
theorem c_StwayLeads {E : jEnv} {n : Nat} (x : Int32) (y : Int32) (z : Int32) (u : Int32) (h : HP) (b0 : (¬ y = 0) → (¬ (f_Ldbeside (h.1 3 0) (h.1 3 1) x y) = (-1)) → (((f_Shhas ((h.2 18 3)) (f_Ldbeside (h.1 3 0) (h.1 3 1) x y)) = 0) → ((¬ (f_Ldbeside (h.1 3 0) (h.1 3 1) x y) < 0) → (¬ (36 : Int32) ≤ (f_Ldbeside (h.1 3 0) (h.1 3 1) x y)) → ((f_LdtideOf (((h.1 3 2))) u) < 6) → vp_in (f_LdtideOf (((h.1 3 2))) u) 6))) : jC E mX5_wayLeads (n + 3) [.ref 18, .int x, .int y, .int z, .int u] h (fun v h2 => v = some (.int (f_StwayLeads (h.1 3 0) (h.1 3 1) (h.1 3 2) (h.2 18 3) (h.1 4) (h.1 5) x y z u)) ∧ h2 = h) :=
  jC.of (lv := [some (.ref 18), some (.int x), some (.int y), some (.int z), some (.int u), none]) (by decide) (Nat.le_of_ble_eq_true rfl) ⟨rfl, rfl, rfl, rfl, rfl, trivial⟩ (q_StwayLeads_0 x y z u h (fun c1 => ⟨(congrArg (fun z => some (Value.int z)) (Eq.symm (by first | (rw [f_StwayLeads, if_pos c1]; done) | (simp [f_StwayLeads, c1]; done)))), rfl⟩) (fun c1 c2 => ⟨(congrArg (fun z => some (Value.int z)) (Eq.symm (by first | (rw [f_StwayLeads, if_neg c1, if_pos c2]; done) | (simp [f_StwayLeads, c1, c2]; done)))), rfl⟩) b0 (fun c1 c2 c3 => ⟨(congrArg (fun z => some (Value.int z)) (Eq.symm (by first | (rw [f_StwayLeads, if_neg c1, if_neg c2, if_pos c3]; done) | (simp [f_StwayLeads, c1, c2, c3]; done)))), rfl⟩) (fun c1 c2 c3 => ⟨(congrArg (fun z => some (Value.int z)) (Eq.symm (by first | (rw [f_StwayLeads, if_neg c1, if_neg c2, if_neg c3]; done) | (simp [f_StwayLeads, c1, c2, c3]; done)))), rfl⟩))

theorem q_OlanHourOn_0 {E : jEnv} {n : Nat} {X : State → Prop} {Post : Option Value → HP → Prop} (x : Int32) (y : Int64) (z : Int32) (h : HP)
    (b0 : vp_in x 4)
    (k0 : Post (some (.long (f_Ldspread (h.1 3 0) (h.2 3 7) (h.2 3 8) y ((f_LdcellsFor (h.2 9) (h.1 25 x.toNatClampNeg) (f_LdtideOf (h.1 3 2) ((h.1 18 1) + z))) ||| (h.2 24 3))))) h)
    : jG E mX4_anHourOn (n + 1) X Post 0 [some (.ref 24), some (.int x), some (.long y), none, some (.int z)] [] h := by
  refine jr_aload_n (pc' := 1) (i := 0) dX4_anHourOn_0 rfl rfl rfl ?_
  refine jr_get (pc' := 4) jK4 (k := 24) (j := 0) (v := .ref 3) wfX4_42 dX4_anHourOn_1 rfl (by decide) rfl (by decide) rfl ?_
  refine jr_lload_n (pc' := 5) (i := 2) dX4_anHourOn_4 rfl rfl rfl ?_
  refine jr_aload_n (pc' := 6) (i := 0) dX4_anHourOn_5 rfl rfl rfl ?_
  refine jr_get (pc' := 9) jK4 (k := 24) (j := 0) (v := .ref 3) wfX4_42 dX4_anHourOn_6 rfl (by decide) rfl (by decide) rfl ?_
  refine jr_aload_n (pc' := 10) (i := 0) dX4_anHourOn_9 rfl rfl rfl ?_
  refine jr_get (pc' := 13) jK4 (k := 24) (j := 2) (v := .ref 25) wfX4_9 dX4_anHourOn_10 rfl (by decide) rfl (by decide) rfl ?_
  refine jr_iload_n (pc' := 14) (i := 1) dX4_anHourOn_13 rfl rfl rfl ?_
  refine jr_iald (pc' := 15) (v := h.1 25 x.toNatClampNeg) dX4_anHourOn_14 rfl (by decide) rfl (b0) rfl ?_
  refine jr_aload_n (pc' := 16) (i := 0) dX4_anHourOn_15 rfl rfl rfl ?_
  refine jr_get (pc' := 19) jK4 (k := 24) (j := 0) (v := .ref 3) wfX4_42 dX4_anHourOn_16 rfl (by decide) rfl (by decide) rfl ?_
  refine jr_aload_n (pc' := 20) (i := 0) dX4_anHourOn_19 rfl rfl rfl ?_
  refine jr_get (pc' := 23) jK4 (k := 24) (j := 1) (v := .ref 18) wfX4_46 dX4_anHourOn_20 rfl (by decide) rfl (by decide) rfl ?_
  refine jr_get (pc' := 26) jK5 (k := 18) (j := 1) (v := .int (h.1 18 1)) wfX4_62 dX4_anHourOn_23 rfl (by decide) rfl (by decide) rfl ?_
  refine jr_iload (pc' := 28) (i := 4) dX4_anHourOn_26 rfl rfl ?_
  refine jr_iadd (pc' := 29)  dX4_anHourOn_28 rfl  ?_
  refine jr_callV (pc' := 32) (k := 3) (av := [.int ((h.1 18 1) + z)]) (st := [.int (h.1 25 x.toNatClampNeg), .ref 3, .long y, .ref 3]) sX2_tideOf wmX4_65 dX4_anHourOn_29 rfl (by decide) rfl (by decide) rfl rfl rfl (Nat.le_of_ble_eq_true rfl) rfl (c_LdtideOf (n := n) ((h.1 18 1) + z) h ) (fun v h2 hp => ?_)
  rw [hp.1, hp.2]
  show jG E mX4_anHourOn (n + 1) X Post 32 [some (.ref 24), some (.int x), some (.long y), none, some (.int z)] [.int (f_LdtideOf (h.1 3 2) ((h.1 18 1) + z)), .int (h.1 25 x.toNatClampNeg), .ref 3, .long y, .ref 3] h
  refine jr_callV (pc' := 35) (k := 3) (av := [.int (h.1 25 x.toNatClampNeg), .int (f_LdtideOf (h.1 3 2) ((h.1 18 1) + z))]) (st := [.long y, .ref 3]) sX2_cellsFor wmX4_71 dX4_anHourOn_32 rfl (by decide) rfl (by decide) rfl rfl rfl (Nat.le_of_ble_eq_true rfl) rfl (c_LdcellsFor (n := n) (h.1 25 x.toNatClampNeg) (f_LdtideOf (h.1 3 2) ((h.1 18 1) + z)) h ) (fun v h2 hp => ?_)
  rw [hp.1, hp.2]
  show jG E mX4_anHourOn (n + 1) X Post 35 [some (.ref 24), some (.int x), some (.long y), none, some (.int z)] [.long (f_LdcellsFor (h.2 9) (h.1 25 x.toNatClampNeg) (f_LdtideOf (h.1 3 2) ((h.1 18 1) + z))), .long y, .ref 3] h
  refine jr_aload_n (pc' := 36) (i := 0) dX4_anHourOn_35 rfl rfl rfl ?_
  refine jr_get (pc' := 39) jK4 (k := 24) (j := 3) (v := .long (h.2 24 3)) wfX4_15 dX4_anHourOn_36 rfl (by decide) rfl (by decide) rfl ?_
  refine jr_lor (pc' := 40)  dX4_anHourOn_39 rfl  ?_
  refine jr_callV (pc' := 43) (k := 3) (av := [.long y, .long ((f_LdcellsFor (h.2 9) (h.1 25 x.toNatClampNeg) (f_LdtideOf (h.1 3 2) ((h.1 18 1) + z))) ||| (h.2 24 3))]) (st := []) sX2_spread wmX4_75 dX4_anHourOn_40 rfl (by decide) rfl (by decide) rfl rfl rfl (Nat.le_of_ble_eq_true rfl) rfl (c_Ldspread (n := n) y ((f_LdcellsFor (h.2 9) (h.1 25 x.toNatClampNeg) (f_LdtideOf (h.1 3 2) ((h.1 18 1) + z))) ||| (h.2 24 3)) h ) (fun v h2 hp => ?_)
  rw [hp.1, hp.2]
  show jG E mX4_anHourOn (n + 1) X Post 43 [some (.ref 24), some (.int x), some (.long y), none, some (.int z)] [.long (f_Ldspread (h.1 3 0) (h.2 3 7) (h.2 3 8) y ((f_LdcellsFor (h.2 9) (h.1 25 x.toNatClampNeg) (f_LdtideOf (h.1 3 2) ((h.1 18 1) + z))) ||| (h.2 24 3)))] h
  exact jr_lret dX4_anHourOn_43 rfl (k0)
def f_OlanHourOn (R9 : Nat → Int64) (f18_1 : Int32) (f3_0 : Int32) (f3_2 : Int32) (g24_3 : Int64) (g3_7 : Int64) (g3_8 : Int64) (r25 : Nat → Int32) (x : Int32) (y : Int64) (z : Int32) : Int64 := (f_Ldspread (f3_0) (g3_7) (g3_8) y ((f_LdcellsFor (R9) (r25 x.toNatClampNeg) (f_LdtideOf (f3_2) ((f18_1) + z))) ||| (g24_3)))
theorem c_OlanHourOn {E : jEnv} {n : Nat} (x : Int32) (y : Int64) (z : Int32) (h : HP) (b0 : vp_in x 4) : jC E mX4_anHourOn (n + 1) [.ref 24, .int x, .long y, .int z] h (fun v h2 => v = some (.long (f_OlanHourOn (h.2 9) (h.1 18 1) (h.1 3 0) (h.1 3 2) (h.2 24 3) (h.2 3 7) (h.2 3 8) (h.1 25) x y z)) ∧ h2 = h) :=
  jC.of (lv := [some (.ref 24), some (.int x), some (.long y), none, some (.int z)]) (by decide) (Nat.le_of_ble_eq_true rfl) ⟨rfl, rfl, rfl, rfl, trivial⟩ (q_OlanHourOn_0 x y z h b0 (⟨(congrArg (fun z => some (Value.long z)) (Eq.symm rfl)), rfl⟩))

theorem q_Shtrack_0 {E : jEnv} {n : Nat} {X : State → Prop} {Post : Option Value → HP → Prop} (x : Int32) (y : Int32) (h : HP)
    (k0 : ((f_LdisCell (h.1 3 0) (h.1 3 1) x y) = 0) → Post (some (.int (-1000000001))) h)
    (k1 : (¬ (f_LdisCell (h.1 3 0) (h.1 3 1) x y) = 0) → Post (some (.int (h.1 30 3))) (jPI (jPI h 30 2 (f_LdcellOf3 (h.1 3 0) x y)) 30 3 0))
    : jG E mX7_track (n + 1) X Post 0 [some (.ref 0), some (.int x), some (.int y), none] [] h := by
  refine jr_aload_n (pc' := 1) (i := 0) dX7_track_0 rfl rfl rfl ?_
  refine jr_get (pc' := 4) jK7 (k := 0) (j := 1) (v := .ref 3) wfX7_19 dX7_track_1 rfl (by decide) rfl (by decide) rfl ?_
  refine jr_iload_n (pc' := 5) (i := 1) dX7_track_4 rfl rfl rfl ?_
  refine jr_iload_n (pc' := 6) (i := 2) dX7_track_5 rfl rfl rfl ?_
  refine jr_callV (pc' := 9) (k := 3) (av := [.int x, .int y]) (st := []) sX2_isCell wmX7_142 dX7_track_6 rfl (by decide) rfl (by decide) rfl rfl rfl (Nat.le_of_ble_eq_true rfl) rfl (c_LdisCell (n := n) x y h ) (fun v h2 hp => ?_)
  rw [hp.1, hp.2]
  show jG E mX7_track (n + 1) X Post 9 [some (.ref 0), some (.int x), some (.int y), none] [.int (f_LdisCell (h.1 3 0) (h.1 3 1) x y)] h
  by_cases c1 : (f_LdisCell (h.1 3 0) (h.1 3 1) x y) = 0
  · refine jr_if_neF (pc' := 12) (tgt := 15) dX7_track_9 rfl rfl c1 ?_
    refine jr_ldc (pc' := 14) (v := (-1000000001)) dX7_track_12 rfl wcX7_146 ?_
    exact jr_iret dX7_track_14 rfl rfl (k0 c1)
  · refine jr_if_neT (pc' := 15) dX7_track_9 rfl c1 ?_
    refine jr_aload_n (pc' := 16) (i := 0) dX7_track_15 rfl rfl rfl ?_
    refine jr_get (pc' := 19) jK7 (k := 0) (j := 5) (v := .ref 30) wfX7_53 dX7_track_16 rfl (by decide) rfl (by decide) rfl ?_
    refine jr_get (pc' := 22) jK1 (k := 30) (j := 3) (v := .int (h.1 30 3)) wfX7_138 dX7_track_19 rfl (by decide) rfl (by decide) rfl ?_
    refine jr_istore_n (pc' := 23) (i := 3) (lv' := [some (.ref 0), some (.int x), some (.int y), some (.int (h.1 30 3))]) dX7_track_22 rfl rfl (by decide) rfl ?_
    refine jr_aload_n (pc' := 24) (i := 0) dX7_track_23 rfl rfl rfl ?_
    refine jr_get (pc' := 27) jK7 (k := 0) (j := 5) (v := .ref 30) wfX7_53 dX7_track_24 rfl (by decide) rfl (by decide) rfl ?_
    refine jr_aload_n (pc' := 28) (i := 0) dX7_track_27 rfl rfl rfl ?_
    refine jr_get (pc' := 31) jK7 (k := 0) (j := 1) (v := .ref 3) wfX7_19 dX7_track_28 rfl (by decide) rfl (by decide) rfl ?_
    refine jr_iload_n (pc' := 32) (i := 1) dX7_track_31 rfl rfl rfl ?_
    refine jr_iload_n (pc' := 33) (i := 2) dX7_track_32 rfl rfl rfl ?_
    refine jr_callV (pc' := 36) (k := 3) (av := [.int x, .int y]) (st := [.ref 30]) sX2_cellOf wmX7_147 dX7_track_33 rfl (by decide) rfl (by decide) rfl rfl rfl (Nat.le_of_ble_eq_true rfl) rfl (c_LdcellOf3 (n := n) x y h ) (fun v h2 hp => ?_)
    rw [hp.1, hp.2]
    show jG E mX7_track (n + 1) X Post 36 [some (.ref 0), some (.int x), some (.int y), some (.int (h.1 30 3))] [.int (f_LdcellOf3 (h.1 3 0) x y), .ref 30] h
    refine jr_callV (pc' := 39) (k := 30) (av := [.int (f_LdcellOf3 (h.1 3 0) x y)]) (st := []) sX1_beginAt wmX7_258 dX7_track_36 rfl (by decide) rfl (by decide) rfl rfl rfl (Nat.le_of_ble_eq_true rfl) rfl (c_FsbeginAt (n := n) (f_LdcellOf3 (h.1 3 0) x y) h ) (fun v h2 hp => ?_)
    rw [hp.1, hp.2]
    show jG E mX7_track (n + 1) X Post 39 [some (.ref 0), some (.int x), some (.int y), some (.int (h.1 30 3))] [] (jPI (jPI h 30 2 (f_LdcellOf3 (h.1 3 0) x y)) 30 3 0)
    refine jr_iload_n (pc' := 40) (i := 3) dX7_track_39 rfl rfl rfl ?_
    exact jr_iret dX7_track_40 rfl rfl (k1 c1)
def f_Shtrack (f30_3 : Int32) (f3_0 : Int32) (f3_1 : Int32) (x : Int32) (y : Int32) : Int32 := (if (f_LdisCell (f3_0) (f3_1) x y) = 0 then (-1000000001) else f30_3)
def H_Shtrack (h : HP) (x : Int32) (y : Int32) : HP := (if (f_LdisCell (h.1 3 0) (h.1 3 1) x y) = 0 then h else (jPI (jPI h 30 2 (f_LdcellOf3 (h.1 3 0) x y)) 30 3 0))
theorem c_Shtrack {E : jEnv} {n : Nat} (x : Int32) (y : Int32) (h : HP)  : jC E mX7_track (n + 1) [.ref 0, .int x, .int y] h (fun v h2 => v = some (.int (f_Shtrack (h.1 30 3) (h.1 3 0) (h.1 3 1) x y)) ∧ h2 = (H_Shtrack h x y)) :=
  jC.of (lv := [some (.ref 0), some (.int x), some (.int y), none]) (by decide) (Nat.le_of_ble_eq_true rfl) ⟨rfl, rfl, rfl, trivial⟩ (q_Shtrack_0 x y h (fun c1 => ⟨(congrArg (fun z => some (Value.int z)) (Eq.symm (by first | (rw [f_Shtrack, if_pos c1]; done) | (simp [f_Shtrack, c1]; done)))), (Eq.symm (by first | (rw [H_Shtrack, if_pos c1]; done) | (simp [H_Shtrack, c1]; done)))⟩) (fun c1 => ⟨(congrArg (fun z => some (Value.int z)) (Eq.symm (by first | (rw [f_Shtrack, if_neg c1]; done) | (simp [f_Shtrack, c1]; done)))), (Eq.symm (by first | (rw [H_Shtrack, if_neg c1]; done) | (simp [H_Shtrack, c1]; done)))⟩))

theorem q_Shkeep0_0 {E : jEnv} {n : Nat} {X : State → Prop} {Post : Option Value → HP → Prop}  (h : HP)
    (k0 : ((f_ShisImage 0) = 0) → Post (some (.int (-1000000001))) h)
    (k1 : (¬ (f_ShisImage 0) = 0) → Post (some (.int 1)) (jPI (jPA (jPA (jPA (jPA (jPA (jPL (jPI (jPI h 40 1 (h.1 18 1)) 40 2 (h.1 18 2)) 40 3 (h.2 18 3)) 41 (va_cpy ((h.1 19)) ((h.1 41)) (0 : Int32).toNatClampNeg (0 : Int32).toNatClampNeg (4 : Int32).toNatClampNeg)) 42 (va_cpy ((h.1 20)) ((h.1 42)) (0 : Int32).toNatClampNeg (0 : Int32).toNatClampNeg (4 : Int32).toNatClampNeg)) 43 (va_cpy ((h.1 21)) ((h.1 43)) (0 : Int32).toNatClampNeg (0 : Int32).toNatClampNeg (4 : Int32).toNatClampNeg)) 44 (va_cpy ((h.1 22)) ((h.1 44)) (0 : Int32).toNatClampNeg (0 : Int32).toNatClampNeg (4 : Int32).toNatClampNeg)) 45 (va_cpy ((h.1 23)) ((h.1 45)) (0 : Int32).toNatClampNeg (0 : Int32).toNatClampNeg (4 : Int32).toNatClampNeg)) 39 0 (vp_nar .boolean 1)))
    : jG E mX7_keep (n + 2) X Post 0 [some (.ref 0), some (.int 0)] [] h := by
  refine jr_iload_n (pc' := 1) (i := 1) dX7_keep_0 rfl rfl rfl ?_
  refine jr_callS (pc' := 4) (av := [.int 0]) (st := []) sX7_isImage wmX7_276 dX7_keep_1 rfl rfl (Nat.le_of_ble_eq_true rfl) rfl (c_ShisImage (n := n + 1) 0 h ) (fun v h2 hp => ?_)
  rw [hp.1, hp.2]
  show jG E mX7_keep (n + 2) X Post 4 [some (.ref 0), some (.int 0)] [.int (f_ShisImage 0)] h
  by_cases c1 : (f_ShisImage 0) = 0
  · refine jr_if_neF (pc' := 7) (tgt := 10) dX7_keep_4 rfl rfl c1 ?_
    refine jr_ldc (pc' := 9) (v := (-1000000001)) dX7_keep_7 rfl wcX7_146 ?_
    exact jr_iret dX7_keep_9 rfl rfl (k0 c1)
  · refine jr_if_neT (pc' := 10) dX7_keep_4 rfl c1 ?_
    refine jr_aload_n (pc' := 11) (i := 0) dX7_keep_10 rfl rfl rfl ?_
    refine jr_get (pc' := 14) jK7 (k := 0) (j := 7) (v := .ref 38) wfX7_66 dX7_keep_11 rfl (by decide) rfl (by decide) rfl ?_
    refine jr_iload_n (pc' := 15) (i := 1) dX7_keep_14 rfl rfl rfl ?_
    refine jr_aald (pc' := 16) (v := 40) dX7_keep_15 rfl (by decide) rfl (jvin (by decide)) ((congrArg (jRef 38) (by decide : (0 : Int32).toNatClampNeg = 0)).trans rfl) ?_
    refine jr_aload_n (pc' := 17) (i := 0) dX7_keep_16 rfl rfl rfl ?_
    refine jr_get (pc' := 20) jK7 (k := 0) (j := 3) (v := .ref 18) wfX7_37 dX7_keep_17 rfl (by decide) rfl (by decide) rfl ?_
    refine jr_callV (pc' := 23) (k := 40) (av := [.ref 18]) (st := []) sX5_become wmX7_279 dX7_keep_20 rfl (by decide) rfl (by decide) rfl rfl rfl (Nat.le_of_ble_eq_true rfl) rfl (c_Stbecome40_18 (n := n)  h ) (fun v h2 hp => ?_)
    rw [hp.1, hp.2]
    show jG E mX7_keep (n + 2) X Post 23 [some (.ref 0), some (.int 0)] [] (jPA (jPA (jPA (jPA (jPA (jPL (jPI (jPI h 40 1 (h.1 18 1)) 40 2 (h.1 18 2)) 40 3 (h.2 18 3)) 41 (va_cpy ((h.1 19)) ((h.1 41)) (0 : Int32).toNatClampNeg (0 : Int32).toNatClampNeg (4 : Int32).toNatClampNeg)) 42 (va_cpy ((h.1 20)) ((h.1 42)) (0 : Int32).toNatClampNeg (0 : Int32).toNatClampNeg (4 : Int32).toNatClampNeg)) 43 (va_cpy ((h.1 21)) ((h.1 43)) (0 : Int32).toNatClampNeg (0 : Int32).toNatClampNeg (4 : Int32).toNatClampNeg)) 44 (va_cpy ((h.1 22)) ((h.1 44)) (0 : Int32).toNatClampNeg (0 : Int32).toNatClampNeg (4 : Int32).toNatClampNeg)) 45 (va_cpy ((h.1 23)) ((h.1 45)) (0 : Int32).toNatClampNeg (0 : Int32).toNatClampNeg (4 : Int32).toNatClampNeg))
    refine jr_aload_n (pc' := 24) (i := 0) dX7_keep_23 rfl rfl rfl ?_
    refine jr_get (pc' := 27) jK7 (k := 0) (j := 8) (v := .ref 39) wfX7_70 dX7_keep_24 rfl (by decide) rfl (by decide) rfl ?_
    refine jr_iload_n (pc' := 28) (i := 1) dX7_keep_27 rfl rfl rfl ?_
    refine jr_iconst (pc' := 29) (v := 1) dX7_keep_28 rfl (by decide) ?_
    refine jr_zast (pc' := 30) (j := 0) dX7_keep_29 rfl (by decide) rfl (jvin (by decide)) (by decide) ?_
    refine jr_iconst (pc' := 31) (v := 1) dX7_keep_30 rfl (by decide) ?_
    exact jr_iret dX7_keep_31 rfl rfl (k1 c1)
def f_Shkeep0   : Int32 := (if (f_ShisImage 0) = 0 then (-1000000001) else 1)
def H_Shkeep0 (h : HP)  : HP := (if (f_ShisImage 0) = 0 then h else (jPI (jPA (jPA (jPA (jPA (jPA (jPL (jPI (jPI h 40 1 (h.1 18 1)) 40 2 (h.1 18 2)) 40 3 (h.2 18 3)) 41 (va_cpy ((h.1 19)) ((h.1 41)) (0 : Int32).toNatClampNeg (0 : Int32).toNatClampNeg (4 : Int32).toNatClampNeg)) 42 (va_cpy ((h.1 20)) ((h.1 42)) (0 : Int32).toNatClampNeg (0 : Int32).toNatClampNeg (4 : Int32).toNatClampNeg)) 43 (va_cpy ((h.1 21)) ((h.1 43)) (0 : Int32).toNatClampNeg (0 : Int32).toNatClampNeg (4 : Int32).toNatClampNeg)) 44 (va_cpy ((h.1 22)) ((h.1 44)) (0 : Int32).toNatClampNeg (0 : Int32).toNatClampNeg (4 : Int32).toNatClampNeg)) 45 (va_cpy ((h.1 23)) ((h.1 45)) (0 : Int32).toNatClampNeg (0 : Int32).toNatClampNeg (4 : Int32).toNatClampNeg)) 39 0 (vp_nar .boolean 1)))
theorem c_Shkeep0 {E : jEnv} {n : Nat}  (h : HP)  : jC E mX7_keep (n + 2) [.ref 0, .int 0] h (fun v h2 => v = some (.int (f_Shkeep0)) ∧ h2 = (H_Shkeep0 h )) :=
  jC.of (lv := [some (.ref 0), some (.int 0)]) (by decide) (Nat.le_of_ble_eq_true rfl) ⟨rfl, rfl, trivial⟩ (q_Shkeep0_0  h (fun c1 => ⟨(congrArg (fun z => some (Value.int z)) (Eq.symm (by first | (rw [f_Shkeep0, if_pos c1]; done) | (simp [f_Shkeep0, c1]; done)))), (Eq.symm (by first | (rw [H_Shkeep0, if_pos c1]; done) | (simp [H_Shkeep0, c1]; done)))⟩) (fun c1 => ⟨(congrArg (fun z => some (Value.int z)) (Eq.symm (by first | (rw [f_Shkeep0, if_neg c1]; done) | (simp [f_Shkeep0, c1]; done)))), (Eq.symm (by first | (rw [H_Shkeep0, if_neg c1]; done) | (simp [H_Shkeep0, c1]; done)))⟩))

theorem q_Shkeep1_0 {E : jEnv} {n : Nat} {X : State → Prop} {Post : Option Value → HP → Prop}  (h : HP)
    (k0 : ((f_ShisImage 1) = 0) → Post (some (.int (-1000000001))) h)
    (k1 : (¬ (f_ShisImage 1) = 0) → Post (some (.int 1)) (jPI (jPA (jPA (jPA (jPA (jPA (jPL (jPI (jPI h 46 1 (h.1 18 1)) 46 2 (h.1 18 2)) 46 3 (h.2 18 3)) 47 (va_cpy ((h.1 19)) ((h.1 47)) (0 : Int32).toNatClampNeg (0 : Int32).toNatClampNeg (4 : Int32).toNatClampNeg)) 48 (va_cpy ((h.1 20)) ((h.1 48)) (0 : Int32).toNatClampNeg (0 : Int32).toNatClampNeg (4 : Int32).toNatClampNeg)) 49 (va_cpy ((h.1 21)) ((h.1 49)) (0 : Int32).toNatClampNeg (0 : Int32).toNatClampNeg (4 : Int32).toNatClampNeg)) 50 (va_cpy ((h.1 22)) ((h.1 50)) (0 : Int32).toNatClampNeg (0 : Int32).toNatClampNeg (4 : Int32).toNatClampNeg)) 51 (va_cpy ((h.1 23)) ((h.1 51)) (0 : Int32).toNatClampNeg (0 : Int32).toNatClampNeg (4 : Int32).toNatClampNeg)) 39 1 (vp_nar .boolean 1)))
    : jG E mX7_keep (n + 2) X Post 0 [some (.ref 0), some (.int 1)] [] h := by
  refine jr_iload_n (pc' := 1) (i := 1) dX7_keep_0 rfl rfl rfl ?_
  refine jr_callS (pc' := 4) (av := [.int 1]) (st := []) sX7_isImage wmX7_276 dX7_keep_1 rfl rfl (Nat.le_of_ble_eq_true rfl) rfl (c_ShisImage (n := n + 1) 1 h ) (fun v h2 hp => ?_)
  rw [hp.1, hp.2]
  show jG E mX7_keep (n + 2) X Post 4 [some (.ref 0), some (.int 1)] [.int (f_ShisImage 1)] h
  by_cases c1 : (f_ShisImage 1) = 0
  · refine jr_if_neF (pc' := 7) (tgt := 10) dX7_keep_4 rfl rfl c1 ?_
    refine jr_ldc (pc' := 9) (v := (-1000000001)) dX7_keep_7 rfl wcX7_146 ?_
    exact jr_iret dX7_keep_9 rfl rfl (k0 c1)
  · refine jr_if_neT (pc' := 10) dX7_keep_4 rfl c1 ?_
    refine jr_aload_n (pc' := 11) (i := 0) dX7_keep_10 rfl rfl rfl ?_
    refine jr_get (pc' := 14) jK7 (k := 0) (j := 7) (v := .ref 38) wfX7_66 dX7_keep_11 rfl (by decide) rfl (by decide) rfl ?_
    refine jr_iload_n (pc' := 15) (i := 1) dX7_keep_14 rfl rfl rfl ?_
    refine jr_aald (pc' := 16) (v := 46) dX7_keep_15 rfl (by decide) rfl (jvin (by decide)) ((congrArg (jRef 38) (by decide : (1 : Int32).toNatClampNeg = 1)).trans rfl) ?_
    refine jr_aload_n (pc' := 17) (i := 0) dX7_keep_16 rfl rfl rfl ?_
    refine jr_get (pc' := 20) jK7 (k := 0) (j := 3) (v := .ref 18) wfX7_37 dX7_keep_17 rfl (by decide) rfl (by decide) rfl ?_
    refine jr_callV (pc' := 23) (k := 46) (av := [.ref 18]) (st := []) sX5_become wmX7_279 dX7_keep_20 rfl (by decide) rfl (by decide) rfl rfl rfl (Nat.le_of_ble_eq_true rfl) rfl (c_Stbecome46_18 (n := n)  h ) (fun v h2 hp => ?_)
    rw [hp.1, hp.2]
    show jG E mX7_keep (n + 2) X Post 23 [some (.ref 0), some (.int 1)] [] (jPA (jPA (jPA (jPA (jPA (jPL (jPI (jPI h 46 1 (h.1 18 1)) 46 2 (h.1 18 2)) 46 3 (h.2 18 3)) 47 (va_cpy ((h.1 19)) ((h.1 47)) (0 : Int32).toNatClampNeg (0 : Int32).toNatClampNeg (4 : Int32).toNatClampNeg)) 48 (va_cpy ((h.1 20)) ((h.1 48)) (0 : Int32).toNatClampNeg (0 : Int32).toNatClampNeg (4 : Int32).toNatClampNeg)) 49 (va_cpy ((h.1 21)) ((h.1 49)) (0 : Int32).toNatClampNeg (0 : Int32).toNatClampNeg (4 : Int32).toNatClampNeg)) 50 (va_cpy ((h.1 22)) ((h.1 50)) (0 : Int32).toNatClampNeg (0 : Int32).toNatClampNeg (4 : Int32).toNatClampNeg)) 51 (va_cpy ((h.1 23)) ((h.1 51)) (0 : Int32).toNatClampNeg (0 : Int32).toNatClampNeg (4 : Int32).toNatClampNeg))
    refine jr_aload_n (pc' := 24) (i := 0) dX7_keep_23 rfl rfl rfl ?_
    refine jr_get (pc' := 27) jK7 (k := 0) (j := 8) (v := .ref 39) wfX7_70 dX7_keep_24 rfl (by decide) rfl (by decide) rfl ?_
    refine jr_iload_n (pc' := 28) (i := 1) dX7_keep_27 rfl rfl rfl ?_
    refine jr_iconst (pc' := 29) (v := 1) dX7_keep_28 rfl (by decide) ?_
    refine jr_zast (pc' := 30) (j := 1) dX7_keep_29 rfl (by decide) rfl (jvin (by decide)) (by decide) ?_
    refine jr_iconst (pc' := 31) (v := 1) dX7_keep_30 rfl (by decide) ?_
    exact jr_iret dX7_keep_31 rfl rfl (k1 c1)
def f_Shkeep1   : Int32 := (if (f_ShisImage 1) = 0 then (-1000000001) else 1)
def H_Shkeep1 (h : HP)  : HP := (if (f_ShisImage 1) = 0 then h else (jPI (jPA (jPA (jPA (jPA (jPA (jPL (jPI (jPI h 46 1 (h.1 18 1)) 46 2 (h.1 18 2)) 46 3 (h.2 18 3)) 47 (va_cpy ((h.1 19)) ((h.1 47)) (0 : Int32).toNatClampNeg (0 : Int32).toNatClampNeg (4 : Int32).toNatClampNeg)) 48 (va_cpy ((h.1 20)) ((h.1 48)) (0 : Int32).toNatClampNeg (0 : Int32).toNatClampNeg (4 : Int32).toNatClampNeg)) 49 (va_cpy ((h.1 21)) ((h.1 49)) (0 : Int32).toNatClampNeg (0 : Int32).toNatClampNeg (4 : Int32).toNatClampNeg)) 50 (va_cpy ((h.1 22)) ((h.1 50)) (0 : Int32).toNatClampNeg (0 : Int32).toNatClampNeg (4 : Int32).toNatClampNeg)) 51 (va_cpy ((h.1 23)) ((h.1 51)) (0 : Int32).toNatClampNeg (0 : Int32).toNatClampNeg (4 : Int32).toNatClampNeg)) 39 1 (vp_nar .boolean 1)))
theorem c_Shkeep1 {E : jEnv} {n : Nat}  (h : HP)  : jC E mX7_keep (n + 2) [.ref 0, .int 1] h (fun v h2 => v = some (.int (f_Shkeep1)) ∧ h2 = (H_Shkeep1 h )) :=
  jC.of (lv := [some (.ref 0), some (.int 1)]) (by decide) (Nat.le_of_ble_eq_true rfl) ⟨rfl, rfl, trivial⟩ (q_Shkeep1_0  h (fun c1 => ⟨(congrArg (fun z => some (Value.int z)) (Eq.symm (by first | (rw [f_Shkeep1, if_pos c1]; done) | (simp [f_Shkeep1, c1]; done)))), (Eq.symm (by first | (rw [H_Shkeep1, if_pos c1]; done) | (simp [H_Shkeep1, c1]; done)))⟩) (fun c1 => ⟨(congrArg (fun z => some (Value.int z)) (Eq.symm (by first | (rw [f_Shkeep1, if_neg c1]; done) | (simp [f_Shkeep1, c1]; done)))), (Eq.symm (by first | (rw [H_Shkeep1, if_neg c1]; done) | (simp [H_Shkeep1, c1]; done)))⟩))

theorem q_Modepth_0 {E : jEnv} {n : Nat} {X : State → Prop} {Post : Option Value → HP → Prop} (x : Int32) (y : Int32) (z : Int32) (h : HP)
    (k0 : ((f_Mocell (h.1 52 0) (h.1 52 1) x y) = (-1)) → Post (some (.int (-1000000001))) h)
    (k1 : (¬ (f_Mocell (h.1 52 0) (h.1 52 1) x y) = (-1)) → ((f_Moin z.toInt64 0 99) = 0) → Post (some (.int (-1000000002))) h)
    (b0 : (¬ (f_Mocell (h.1 52 0) (h.1 52 1) x y) = (-1)) → (¬ (f_Moin z.toInt64 0 99) = 0) → (vp_in (f_Mocell (h.1 52 0) (h.1 52 1) x y) 36))
    (b1 : (¬ (f_Mocell (h.1 52 0) (h.1 52 1) x y) = (-1)) → (¬ (f_Moin z.toInt64 0 99) = 0) → (¬ ((h.1 52 4)) = 0))
    (b2 : (¬ (f_Mocell (h.1 52 0) (h.1 52 1) x y) = (-1)) → (¬ (f_Moin z.toInt64 0 99) = 0) → (vp_in (((h.1 56 0) + z) - ((h.1 56 0) + z) / ((h.1 52 4)) * ((h.1 52 4))) 6))
    (b3 : (¬ (f_Mocell (h.1 52 0) (h.1 52 1) x y) = (-1)) → (¬ (f_Moin z.toInt64 0 99) = 0) → (vp_in (26 + (f_Mocell (h.1 52 0) (h.1 52 1) x y)) 62))
    (k2 : (¬ (f_Mocell (h.1 52 0) (h.1 52 1) x y) = (-1)) → (¬ (f_Moin z.toInt64 0 99) = 0) → Post (some (.int (f_ModepthOf (h.1 52 4) (h.1 53) (h.1 54) (h.1 56) (f_Mocell (h.1 52 0) (h.1 52 1) x y) ((h.1 56 0) + z)))) h)
    : jG E mX8_depth (n + 2) X Post 0 [some (.ref 52), some (.int x), some (.int y), some (.int z)] [] h := by
  refine jr_aload_n (pc' := 1) (i := 0) dX8_depth_0 rfl rfl rfl ?_
  refine jr_iload_n (pc' := 2) (i := 1) dX8_depth_1 rfl rfl rfl ?_
  refine jr_iload_n (pc' := 3) (i := 2) dX8_depth_2 rfl rfl rfl ?_
  refine jr_callV (pc' := 6) (k := 52) (av := [.int x, .int y]) (st := []) sX8_cell wmX8_227 dX8_depth_3 rfl (by decide) rfl (by decide) rfl rfl rfl (Nat.le_of_ble_eq_true rfl) rfl (c_Mocell (n := n) x y h ) (fun v h2 hp => ?_)
  rw [hp.1, hp.2]
  show jG E mX8_depth (n + 2) X Post 6 [some (.ref 52), some (.int x), some (.int y), some (.int z)] [.int (f_Mocell (h.1 52 0) (h.1 52 1) x y)] h
  refine jr_iconst (pc' := 7) (v := (-1)) dX8_depth_6 rfl (by decide) ?_
  by_cases c1 : (f_Mocell (h.1 52 0) (h.1 52 1) x y) = (-1)
  · refine jr_icmp_neF (pc' := 10) (tgt := 13) dX8_depth_7 rfl rfl c1 ?_
    refine jr_ldc (pc' := 12) (v := (-1000000001)) dX8_depth_10 rfl wcX8_249 ?_
    exact jr_iret dX8_depth_12 rfl rfl (k0 c1)
  · refine jr_icmp_neT (pc' := 13) dX8_depth_7 rfl c1 ?_
    refine jr_iload_n (pc' := 14) (i := 3) dX8_depth_13 rfl rfl rfl ?_
    refine jr_i2l (pc' := 15)  dX8_depth_14 rfl  ?_
    refine jr_lconst (pc' := 16) (v := 0) dX8_depth_15 rfl (by decide) ?_
    refine jr_ldc2 (pc' := 19) (v := 99) dX8_depth_16 rfl wcX8_250 ?_
    refine jr_callS (pc' := 22) (av := [.long z.toInt64, .long 0, .long 99]) (st := []) sX8_in wmX8_79 dX8_depth_19 rfl rfl (Nat.le_of_ble_eq_true rfl) rfl (c_Moin (n := n + 1) z.toInt64 0 99 h ) (fun v h2 hp => ?_)
    rw [hp.1, hp.2]
    show jG E mX8_depth (n + 2) X Post 22 [some (.ref 52), some (.int x), some (.int y), some (.int z)] [.int (f_Moin z.toInt64 0 99)] h
    by_cases c2 : (f_Moin z.toInt64 0 99) = 0
    · refine jr_if_eqT (pc' := 46) dX8_depth_22 rfl c2 ?_
      refine jr_ldc (pc' := 48) (v := (-1000000002)) dX8_depth_46 rfl wcX8_94 ?_
      exact jr_iret dX8_depth_48 rfl rfl (k1 c1 c2)
    · refine jr_if_eqF (pc' := 25) (tgt := 46) dX8_depth_22 rfl rfl c2 ?_
      refine jr_aload_n (pc' := 26) (i := 0) dX8_depth_25 rfl rfl rfl ?_
      refine jr_aload_n (pc' := 27) (i := 0) dX8_depth_26 rfl rfl rfl ?_
      refine jr_iload_n (pc' := 28) (i := 1) dX8_depth_27 rfl rfl rfl ?_
      refine jr_iload_n (pc' := 29) (i := 2) dX8_depth_28 rfl rfl rfl ?_
      refine jr_callV (pc' := 32) (k := 52) (av := [.int x, .int y]) (st := [.ref 52]) sX8_cell wmX8_227 dX8_depth_29 rfl (by decide) rfl (by decide) rfl rfl rfl (Nat.le_of_ble_eq_true rfl) rfl (c_Mocell (n := n) x y h ) (fun v h2 hp => ?_)
      rw [hp.1, hp.2]
      show jG E mX8_depth (n + 2) X Post 32 [some (.ref 52), some (.int x), some (.int y), some (.int z)] [.int (f_Mocell (h.1 52 0) (h.1 52 1) x y), .ref 52] h
      refine jr_aload_n (pc' := 33) (i := 0) dX8_depth_32 rfl rfl rfl ?_
      refine jr_get (pc' := 36) jK8 (k := 52) (j := 9) (v := .ref 56) wfX8_19 dX8_depth_33 rfl (by decide) rfl (by decide) rfl ?_
      refine jr_iconst (pc' := 37) (v := 0) dX8_depth_36 rfl (by decide) ?_
      refine jr_iald (pc' := 38) (v := h.1 56 0) dX8_depth_37 rfl (by decide) rfl (jvin (by decide)) ((congrArg (h.1 56) (by decide : (0 : Int32).toNatClampNeg = 0)).trans rfl) ?_
      refine jr_iload_n (pc' := 39) (i := 3) dX8_depth_38 rfl rfl rfl ?_
      refine jr_iadd (pc' := 40)  dX8_depth_39 rfl  ?_
      refine jr_callV (pc' := 43) (k := 52) (av := [.int (f_Mocell (h.1 52 0) (h.1 52 1) x y), .int ((h.1 56 0) + z)]) (st := []) sX8_depthOf wmX8_234 dX8_depth_40 rfl (by decide) rfl (by decide) rfl rfl rfl (Nat.le_of_ble_eq_true rfl) rfl (c_ModepthOf (n := n + 1) (f_Mocell (h.1 52 0) (h.1 52 1) x y) ((h.1 56 0) + z) h (b0 c1 c2) (b1 c1 c2) (b2 c1 c2) (b3 c1 c2)) (fun v h2 hp => ?_)
      rw [hp.1, hp.2]
      show jG E mX8_depth (n + 2) X Post 43 [some (.ref 52), some (.int x), some (.int y), some (.int z)] [.int (f_ModepthOf (h.1 52 4) (h.1 53) (h.1 54) (h.1 56) (f_Mocell (h.1 52 0) (h.1 52 1) x y) ((h.1 56 0) + z))] h
      refine jr_goto (pc' := 48) dX8_depth_43 rfl ?_
      exact jr_iret dX8_depth_48 rfl rfl (k2 c1 c2)
def f_Modepth (f52_0 : Int32) (f52_1 : Int32) (f52_4 : Int32) (r53 : Nat → Int32) (r54 : Nat → Int32) (r56 : Nat → Int32) (x : Int32) (y : Int32) (z : Int32) : Int32 := (if (f_Mocell (f52_0) (f52_1) x y) = (-1) then (-1000000001) else (if (f_Moin z.toInt64 0 99) = 0 then (-1000000002) else (f_ModepthOf (f52_4) (r53) (r54) (r56) (f_Mocell (f52_0) (f52_1) x y) ((r56 0) + z))))
theorem c_Modepth {E : jEnv} {n : Nat} (x : Int32) (y : Int32) (z : Int32) (h : HP) (b0 : (¬ (f_Mocell (h.1 52 0) (h.1 52 1) x y) = (-1)) → (¬ (f_Moin z.toInt64 0 99) = 0) → (vp_in (f_Mocell (h.1 52 0) (h.1 52 1) x y) 36)) (b1 : (¬ (f_Mocell (h.1 52 0) (h.1 52 1) x y) = (-1)) → (¬ (f_Moin z.toInt64 0 99) = 0) → (¬ ((h.1 52 4)) = 0)) (b2 : (¬ (f_Mocell (h.1 52 0) (h.1 52 1) x y) = (-1)) → (¬ (f_Moin z.toInt64 0 99) = 0) → (vp_in (((h.1 56 0) + z) - ((h.1 56 0) + z) / ((h.1 52 4)) * ((h.1 52 4))) 6)) (b3 : (¬ (f_Mocell (h.1 52 0) (h.1 52 1) x y) = (-1)) → (¬ (f_Moin z.toInt64 0 99) = 0) → (vp_in (26 + (f_Mocell (h.1 52 0) (h.1 52 1) x y)) 62)) : jC E mX8_depth (n + 2) [.ref 52, .int x, .int y, .int z] h (fun v h2 => v = some (.int (f_Modepth (h.1 52 0) (h.1 52 1) (h.1 52 4) (h.1 53) (h.1 54) (h.1 56) x y z)) ∧ h2 = h) :=
  jC.of (lv := [some (.ref 52), some (.int x), some (.int y), some (.int z)]) (by decide) (Nat.le_of_ble_eq_true rfl) ⟨rfl, rfl, rfl, rfl, trivial⟩ (q_Modepth_0 x y z h (fun c1 => ⟨(congrArg (fun z => some (Value.int z)) (Eq.symm (by first | (rw [f_Modepth, if_pos c1]; done) | (simp [f_Modepth, c1]; done)))), rfl⟩) (fun c1 c2 => ⟨(congrArg (fun z => some (Value.int z)) (Eq.symm (by first | (rw [f_Modepth, if_neg c1, if_pos c2]; done) | (simp [f_Modepth, c1, c2]; done)))), rfl⟩) b0 b1 b2 b3 (fun c1 c2 => ⟨(congrArg (fun z => some (Value.int z)) (Eq.symm (by first | (rw [f_Modepth, if_neg c1, if_neg c2]; done) | (simp [f_Modepth, c1, c2]; done)))), rfl⟩))

set_option maxRecDepth 4000 in
theorem q_Moman_0 {E : jEnv} {n : Nat} {X : State → Prop} {Post : Option Value → HP → Prop} (x : Int32) (y : Int32) (h : HP)
    (k0 : ((f_MoisMan (h.1 52 5) x) = 0) → Post (some (.int (-1000000001))) h)
    (k1 : (¬ (f_MoisMan (h.1 52 5) x) = 0) → ((f_Moin y.toInt64 0 6) = 0) → Post (some (.int (-1000000002))) h)
    (b0 : (¬ (f_MoisMan (h.1 52 5) x) = 0) → (¬ (f_Moin y.toInt64 0 6) = 0) → ((5 : Int32) ≤ y) → (y = 5) → (vp_in ((2 + (6 * x)) + 1) 62))
    (b1 : (¬ (f_MoisMan (h.1 52 5) x) = 0) → (¬ (f_Moin y.toInt64 0 6) = 0) → ((5 : Int32) ≤ y) → (y = 5) → (vp_in (2 + (6 * x)) 62))
    (b2 : (¬ (f_MoisMan (h.1 52 5) x) = 0) → (¬ (f_Moin y.toInt64 0 6) = 0) → ((5 : Int32) ≤ y) → (y = 5) → (vp_in (f_MospotOf ((h.1 52 0)) ((h.1 56)) x) 36))
    (b3 : (¬ (f_MoisMan (h.1 52 5) x) = 0) → (¬ (f_Moin y.toInt64 0 6) = 0) → ((5 : Int32) ≤ y) → (y = 5) → (¬ (((h.1 52 4))) = 0))
    (b4 : (¬ (f_MoisMan (h.1 52 5) x) = 0) → (¬ (f_Moin y.toInt64 0 6) = 0) → ((5 : Int32) ≤ y) → (y = 5) → (vp_in (((h.1 56) 0) - ((h.1 56) 0) / (((h.1 52 4))) * (((h.1 52 4)))) 6))
    (b5 : (¬ (f_MoisMan (h.1 52 5) x) = 0) → (¬ (f_Moin y.toInt64 0 6) = 0) → ((5 : Int32) ≤ y) → (y = 5) → (vp_in (26 + (f_MospotOf ((h.1 52 0)) ((h.1 56)) x)) 62))
    (b6 : (¬ (f_MoisMan (h.1 52 5) x) = 0) → (¬ (f_Moin y.toInt64 0 6) = 0) → ((5 : Int32) ≤ y) → (y = 5) → (vp_in ((2 + (6 * x)) + 2) 62))
    (k2 : (¬ (f_MoisMan (h.1 52 5) x) = 0) → (¬ (f_Moin y.toInt64 0 6) = 0) → ((5 : Int32) ≤ y) → (y = 5) → ((f_MoisWet (h.1 52 0) (h.1 52 4) (h.1 53) (h.1 54) (h.1 56) x) = 0) → Post (some (.int 0)) h)
    (k3 : (¬ (f_MoisMan (h.1 52 5) x) = 0) → (¬ (f_Moin y.toInt64 0 6) = 0) → ((5 : Int32) ≤ y) → (y = 5) → (¬ (f_MoisWet (h.1 52 0) (h.1 52 4) (h.1 53) (h.1 54) (h.1 56) x) = 0) → Post (some (.int 1)) h)
    (b7 : (¬ (f_MoisMan (h.1 52 5) x) = 0) → (¬ (f_Moin y.toInt64 0 6) = 0) → ((5 : Int32) ≤ y) → (¬ y = 5) → vp_in ((2 + (6 * x)) + 5) 62)
    (k4 : (¬ (f_MoisMan (h.1 52 5) x) = 0) → (¬ (f_Moin y.toInt64 0 6) = 0) → ((5 : Int32) ≤ y) → (¬ y = 5) → Post (some (.int (h.1 56 (((2 + (6 * x)) + 5).toNatClampNeg)))) h)
    (b8 : (¬ (f_MoisMan (h.1 52 5) x) = 0) → (¬ (f_Moin y.toInt64 0 6) = 0) → (¬ (5 : Int32) ≤ y) → vp_in ((2 + (6 * x)) + y) 62)
    (k5 : (¬ (f_MoisMan (h.1 52 5) x) = 0) → (¬ (f_Moin y.toInt64 0 6) = 0) → (¬ (5 : Int32) ≤ y) → Post (some (.int (h.1 56 (((2 + (6 * x)) + y).toNatClampNeg)))) h)
    : jG E mX8_man (n + 2) X Post 0 [some (.ref 52), some (.int x), some (.int y)] [] h := by
  refine jr_aload_n (pc' := 1) (i := 0) dX8_man_0 rfl rfl rfl ?_
  refine jr_iload_n (pc' := 2) (i := 1) dX8_man_1 rfl rfl rfl ?_
  refine jr_callV (pc' := 5) (k := 52) (av := [.int x]) (st := []) sX8_isMan wmX8_252 dX8_man_2 rfl (by decide) rfl (by decide) rfl rfl rfl (Nat.le_of_ble_eq_true rfl) rfl (c_MoisMan (n := n) x h ) (fun v h2 hp => ?_)
  rw [hp.1, hp.2]
  show jG E mX8_man (n + 2) X Post 5 [some (.ref 52), some (.int x), some (.int y)] [.int (f_MoisMan (h.1 52 5) x)] h
  by_cases c1 : (f_MoisMan (h.1 52 5) x) = 0
  · refine jr_if_neF (pc' := 8) (tgt := 11) dX8_man_5 rfl rfl c1 ?_
    refine jr_ldc (pc' := 10) (v := (-1000000001)) dX8_man_8 rfl wcX8_249 ?_
    exact jr_iret dX8_man_10 rfl rfl (k0 c1)
  · refine jr_if_neT (pc' := 11) dX8_man_5 rfl c1 ?_
    refine jr_iload_n (pc' := 12) (i := 2) dX8_man_11 rfl rfl rfl ?_
    refine jr_i2l (pc' := 13)  dX8_man_12 rfl  ?_
    refine jr_lconst (pc' := 14) (v := 0) dX8_man_13 rfl (by decide) ?_
    refine jr_ldc2 (pc' := 17) (v := 6) dX8_man_14 rfl wcX8_255 ?_
    refine jr_callS (pc' := 20) (av := [.long y.toInt64, .long 0, .long 6]) (st := []) sX8_in wmX8_79 dX8_man_17 rfl rfl (Nat.le_of_ble_eq_true rfl) rfl (c_Moin (n := n + 1) y.toInt64 0 6 h ) (fun v h2 hp => ?_)
    rw [hp.1, hp.2]
    show jG E mX8_man (n + 2) X Post 20 [some (.ref 52), some (.int x), some (.int y)] [.int (f_Moin y.toInt64 0 6)] h
    by_cases c2 : (f_Moin y.toInt64 0 6) = 0
    · refine jr_if_neF (pc' := 23) (tgt := 26) dX8_man_20 rfl rfl c2 ?_
      refine jr_ldc (pc' := 25) (v := (-1000000002)) dX8_man_23 rfl wcX8_94 ?_
      exact jr_iret dX8_man_25 rfl rfl (k1 c1 c2)
    · refine jr_if_neT (pc' := 26) dX8_man_20 rfl c2 ?_
      refine jr_iload_n (pc' := 27) (i := 2) dX8_man_26 rfl rfl rfl ?_
      refine jr_iconst (pc' := 28) (v := 5) dX8_man_27 rfl (by decide) ?_
      by_cases c3 : (5 : Int32) ≤ y
      · refine jr_icmp_geT (pc' := 47) dX8_man_28 rfl c3 ?_
        refine jr_iload_n (pc' := 48) (i := 2) dX8_man_47 rfl rfl rfl ?_
        refine jr_iconst (pc' := 49) (v := 5) dX8_man_48 rfl (by decide) ?_
        by_cases c4 : y = 5
        · refine jr_icmp_neF (pc' := 52) (tgt := 68) dX8_man_49 rfl rfl c4 ?_
          refine jr_aload_n (pc' := 53) (i := 0) dX8_man_52 rfl rfl rfl ?_
          refine jr_iload_n (pc' := 54) (i := 1) dX8_man_53 rfl rfl rfl ?_
          refine jr_callV (pc' := 57) (k := 52) (av := [.int x]) (st := []) sX8_isWet wmX8_241 dX8_man_54 rfl (by decide) rfl (by decide) rfl rfl rfl (Nat.le_of_ble_eq_true rfl) rfl (c_MoisWet (n := n) x h (b0 c1 c2 c3 c4) (b1 c1 c2 c3 c4) (b2 c1 c2 c3 c4) (b3 c1 c2 c3 c4) (b4 c1 c2 c3 c4) (b5 c1 c2 c3 c4) (b6 c1 c2 c3 c4)) (fun v h2 hp => ?_)
          rw [hp.1, hp.2]
          show jG E mX8_man (n + 2) X Post 57 [some (.ref 52), some (.int x), some (.int y)] [.int (f_MoisWet (h.1 52 0) (h.1 52 4) (h.1 53) (h.1 54) (h.1 56) x)] h
          by_cases c5 : (f_MoisWet (h.1 52 0) (h.1 52 4) (h.1 53) (h.1 54) (h.1 56) x) = 0
          · refine jr_if_eqT (pc' := 64) dX8_man_57 rfl c5 ?_
            refine jr_iconst (pc' := 65) (v := 0) dX8_man_64 rfl (by decide) ?_
            refine jr_goto (pc' := 81) dX8_man_65 rfl ?_
            exact jr_iret dX8_man_81 rfl rfl (k2 c1 c2 c3 c4 c5)
          · refine jr_if_eqF (pc' := 60) (tgt := 64) dX8_man_57 rfl rfl c5 ?_
            refine jr_iconst (pc' := 61) (v := 1) dX8_man_60 rfl (by decide) ?_
            refine jr_goto (pc' := 81) dX8_man_61 rfl ?_
            exact jr_iret dX8_man_81 rfl rfl (k3 c1 c2 c3 c4 c5)
        · refine jr_icmp_neT (pc' := 68) dX8_man_49 rfl c4 ?_
          refine jr_aload_n (pc' := 69) (i := 0) dX8_man_68 rfl rfl rfl ?_
          refine jr_get (pc' := 72) jK8 (k := 52) (j := 9) (v := .ref 56) wfX8_19 dX8_man_69 rfl (by decide) rfl (by decide) rfl ?_
          refine jr_iconst (pc' := 73) (v := 2) dX8_man_72 rfl (by decide) ?_
          refine jr_bipush (pc' := 75) (v := 6) dX8_man_73 rfl (by decide) ?_
          refine jr_iload_n (pc' := 76) (i := 1) dX8_man_75 rfl rfl rfl ?_
          refine jr_imul (pc' := 77)  dX8_man_76 rfl  ?_
          refine jr_iadd (pc' := 78)  dX8_man_77 rfl  ?_
          refine jr_iconst (pc' := 79) (v := 5) dX8_man_78 rfl (by decide) ?_
          refine jr_iadd (pc' := 80)  dX8_man_79 rfl  ?_
          refine jr_iald (pc' := 81) (v := h.1 56 (((2 + (6 * x)) + 5).toNatClampNeg)) dX8_man_80 rfl (by decide) rfl (b7 c1 c2 c3 c4) rfl ?_
          exact jr_iret dX8_man_81 rfl rfl (k4 c1 c2 c3 c4)
      · refine jr_icmp_geF (pc' := 31) (tgt := 47) dX8_man_28 rfl rfl c3 ?_
        refine jr_aload_n (pc' := 32) (i := 0) dX8_man_31 rfl rfl rfl ?_
        refine jr_get (pc' := 35) jK8 (k := 52) (j := 9) (v := .ref 56) wfX8_19 dX8_man_32 rfl (by decide) rfl (by decide) rfl ?_
        refine jr_iconst (pc' := 36) (v := 2) dX8_man_35 rfl (by decide) ?_
        refine jr_bipush (pc' := 38) (v := 6) dX8_man_36 rfl (by decide) ?_
        refine jr_iload_n (pc' := 39) (i := 1) dX8_man_38 rfl rfl rfl ?_
        refine jr_imul (pc' := 40)  dX8_man_39 rfl  ?_
        refine jr_iadd (pc' := 41)  dX8_man_40 rfl  ?_
        refine jr_iload_n (pc' := 42) (i := 2) dX8_man_41 rfl rfl rfl ?_
        refine jr_iadd (pc' := 43)  dX8_man_42 rfl  ?_
        refine jr_iald (pc' := 44) (v := h.1 56 (((2 + (6 * x)) + y).toNatClampNeg)) dX8_man_43 rfl (by decide) rfl (b8 c1 c2 c3) rfl ?_
        refine jr_goto (pc' := 81) dX8_man_44 rfl ?_
        exact jr_iret dX8_man_81 rfl rfl (k5 c1 c2 c3)
def f_Moman (f52_0 : Int32) (f52_4 : Int32) (f52_5 : Int32) (r53 : Nat → Int32) (r54 : Nat → Int32) (r56 : Nat → Int32) (x : Int32) (y : Int32) : Int32 := (if (f_MoisMan (f52_5) x) = 0 then (-1000000001) else (if (f_Moin y.toInt64 0 6) = 0 then (-1000000002) else (if (5 : Int32) ≤ y then (if y = 5 then (if (f_MoisWet (f52_0) (f52_4) (r53) (r54) (r56) x) = 0 then 0 else 1) else r56 (((2 + (6 * x)) + 5).toNatClampNeg)) else r56 (((2 + (6 * x)) + y).toNatClampNeg))))
theorem c_Moman {E : jEnv} {n : Nat} (x : Int32) (y : Int32) (h : HP) (b0 : (¬ (f_MoisMan (h.1 52 5) x) = 0) → (¬ (f_Moin y.toInt64 0 6) = 0) → ((5 : Int32) ≤ y) → (y = 5) → (vp_in ((2 + (6 * x)) + 1) 62)) (b1 : (¬ (f_MoisMan (h.1 52 5) x) = 0) → (¬ (f_Moin y.toInt64 0 6) = 0) → ((5 : Int32) ≤ y) → (y = 5) → (vp_in (2 + (6 * x)) 62)) (b2 : (¬ (f_MoisMan (h.1 52 5) x) = 0) → (¬ (f_Moin y.toInt64 0 6) = 0) → ((5 : Int32) ≤ y) → (y = 5) → (vp_in (f_MospotOf ((h.1 52 0)) ((h.1 56)) x) 36)) (b3 : (¬ (f_MoisMan (h.1 52 5) x) = 0) → (¬ (f_Moin y.toInt64 0 6) = 0) → ((5 : Int32) ≤ y) → (y = 5) → (¬ (((h.1 52 4))) = 0)) (b4 : (¬ (f_MoisMan (h.1 52 5) x) = 0) → (¬ (f_Moin y.toInt64 0 6) = 0) → ((5 : Int32) ≤ y) → (y = 5) → (vp_in (((h.1 56) 0) - ((h.1 56) 0) / (((h.1 52 4))) * (((h.1 52 4)))) 6)) (b5 : (¬ (f_MoisMan (h.1 52 5) x) = 0) → (¬ (f_Moin y.toInt64 0 6) = 0) → ((5 : Int32) ≤ y) → (y = 5) → (vp_in (26 + (f_MospotOf ((h.1 52 0)) ((h.1 56)) x)) 62)) (b6 : (¬ (f_MoisMan (h.1 52 5) x) = 0) → (¬ (f_Moin y.toInt64 0 6) = 0) → ((5 : Int32) ≤ y) → (y = 5) → (vp_in ((2 + (6 * x)) + 2) 62)) (b7 : (¬ (f_MoisMan (h.1 52 5) x) = 0) → (¬ (f_Moin y.toInt64 0 6) = 0) → ((5 : Int32) ≤ y) → (¬ y = 5) → vp_in ((2 + (6 * x)) + 5) 62) (b8 : (¬ (f_MoisMan (h.1 52 5) x) = 0) → (¬ (f_Moin y.toInt64 0 6) = 0) → (¬ (5 : Int32) ≤ y) → vp_in ((2 + (6 * x)) + y) 62) : jC E mX8_man (n + 2) [.ref 52, .int x, .int y] h (fun v h2 => v = some (.int (f_Moman (h.1 52 0) (h.1 52 4) (h.1 52 5) (h.1 53) (h.1 54) (h.1 56) x y)) ∧ h2 = h) :=
  jC.of (lv := [some (.ref 52), some (.int x), some (.int y)]) (by decide) (Nat.le_of_ble_eq_true rfl) ⟨rfl, rfl, rfl, trivial⟩ (q_Moman_0 x y h (fun c1 => ⟨(congrArg (fun z => some (Value.int z)) (Eq.symm (by first | (rw [f_Moman, if_pos c1]; done) | (simp [f_Moman, c1]; done)))), rfl⟩) (fun c1 c2 => ⟨(congrArg (fun z => some (Value.int z)) (Eq.symm (by first | (rw [f_Moman, if_neg c1, if_pos c2]; done) | (simp [f_Moman, c1, c2]; done)))), rfl⟩) b0 b1 b2 b3 b4 b5 b6 (fun c1 c2 c3 c4 c5 => ⟨(congrArg (fun z => some (Value.int z)) (Eq.symm (by first | (rw [f_Moman, if_neg c1, if_neg c2, if_pos c3, if_pos c4, if_pos c5]; done) | (simp [f_Moman, c1, c2, c3, c4, c5]; done)))), rfl⟩) (fun c1 c2 c3 c4 c5 => ⟨(congrArg (fun z => some (Value.int z)) (Eq.symm (by first | (rw [f_Moman, if_neg c1, if_neg c2, if_pos c3, if_pos c4, if_neg c5]; done) | (simp [f_Moman, c1, c2, c3, c4, c5]; done)))), rfl⟩) b7 (fun c1 c2 c3 c4 => ⟨(congrArg (fun z => some (Value.int z)) (Eq.symm (by first | (rw [f_Moman, if_neg c1, if_neg c2, if_pos c3, if_neg c4]; done) | (simp [f_Moman, c1, c2, c3, c4]; done)))), rfl⟩) b8 (fun c1 c2 c3 => ⟨(congrArg (fun z => some (Value.int z)) (Eq.symm (by first | (rw [f_Moman, if_neg c1, if_neg c2, if_neg c3]; done) | (simp [f_Moman, c1, c2, c3]; done)))), rfl⟩))

theorem q_MomayGo_0 {E : jEnv} {n : Nat} {X : State → Prop} {Post : Option Value → HP → Prop} (x : Int32) (y : Int32) (z : Int32) (u : Int32) (h : HP)
    (b0 : (¬ ((h.1 52 0)) = 0))
    (b1 : ((y = 2) → ¬ ((h.1 52 0)) = 0))
    (b2 : ((¬ y = 2) → (y = 4) → ¬ ((h.1 52 0)) = 0))
    (b3 : ((¬ y = 2) → (¬ y = 4) → ¬ ((h.1 52 0)) = 0))
    (k0 : (y = 0) → Post (some (.int 1)) h)
    (k1 : (¬ y = 0) → ((f_Moled (h.1 52 0) (h.1 52 1) x y) = (-1)) → Post (some (.int 0)) h)
    (b4 : (¬ y = 0) → (¬ (f_Moled (h.1 52 0) (h.1 52 1) x y) = (-1)) → (vp_in (f_Moled (h.1 52 0) (h.1 52 1) x y) 36))
    (b5 : (¬ y = 0) → (¬ (f_Moled (h.1 52 0) (h.1 52 1) x y) = (-1)) → (¬ ((h.1 52 4)) = 0))
    (b6 : (¬ y = 0) → (¬ (f_Moled (h.1 52 0) (h.1 52 1) x y) = (-1)) → (vp_in (u - u / ((h.1 52 4)) * ((h.1 52 4))) 6))
    (b7 : (¬ y = 0) → (¬ (f_Moled (h.1 52 0) (h.1 52 1) x y) = (-1)) → (vp_in (26 + (f_Moled (h.1 52 0) (h.1 52 1) x y)) 62))
    (k2 : (¬ y = 0) → (¬ (f_Moled (h.1 52 0) (h.1 52 1) x y) = (-1)) → (z < (f_ModepthOf (h.1 52 4) (h.1 53) (h.1 54) (h.1 56) (f_Moled (h.1 52 0) (h.1 52 1) x y) u)) → Post (some (.int 0)) h)
    (k3 : (¬ y = 0) → (¬ (f_Moled (h.1 52 0) (h.1 52 1) x y) = (-1)) → (¬ z < (f_ModepthOf (h.1 52 4) (h.1 53) (h.1 54) (h.1 56) (f_Moled (h.1 52 0) (h.1 52 1) x y) u)) → Post (some (.int 1)) h)
    : jG E mX8_mayGo (n + 3) X Post 0 [some (.ref 52), some (.int x), some (.int y), some (.int z), some (.int u), none] [] h := by
  refine jr_aload_n (pc' := 1) (i := 0) dX8_mayGo_0 rfl rfl rfl ?_
  refine jr_iload_n (pc' := 2) (i := 1) dX8_mayGo_1 rfl rfl rfl ?_
  refine jr_iload_n (pc' := 3) (i := 2) dX8_mayGo_2 rfl rfl rfl ?_
  refine jr_callV (pc' := 6) (k := 52) (av := [.int x, .int y]) (st := []) sX8_led wmX8_231 dX8_mayGo_3 rfl (by decide) rfl (by decide) rfl rfl rfl (Nat.le_of_ble_eq_true rfl) rfl (c_Moled (n := n) x y h (b0) (b1) (b2) (b3)) (fun v h2 hp => ?_)
  rw [hp.1, hp.2]
  show jG E mX8_mayGo (n + 3) X Post 6 [some (.ref 52), some (.int x), some (.int y), some (.int z), some (.int u), none] [.int (f_Moled (h.1 52 0) (h.1 52 1) x y)] h
  refine jr_istore (pc' := 8) (i := 5) (lv' := [some (.ref 52), some (.int x), some (.int y), some (.int z), some (.int u), some (.int (f_Moled (h.1 52 0) (h.1 52 1) x y))]) dX8_mayGo_6 rfl (by decide) rfl ?_
  refine jr_iload_n (pc' := 9) (i := 2) dX8_mayGo_8 rfl rfl rfl ?_
  by_cases c1 : y = 0
  · refine jr_if_eqT (pc' := 30) dX8_mayGo_9 rfl c1 ?_
    refine jr_iconst (pc' := 31) (v := 1) dX8_mayGo_30 rfl (by decide) ?_
    refine jr_goto (pc' := 35) dX8_mayGo_31 rfl ?_
    exact jr_iret dX8_mayGo_35 rfl rfl (k0 c1)
  · refine jr_if_eqF (pc' := 12) (tgt := 30) dX8_mayGo_9 rfl rfl c1 ?_
    refine jr_iload (pc' := 14) (i := 5) dX8_mayGo_12 rfl rfl ?_
    refine jr_iconst (pc' := 15) (v := (-1)) dX8_mayGo_14 rfl (by decide) ?_
    by_cases c2 : (f_Moled (h.1 52 0) (h.1 52 1) x y) = (-1)
    · refine jr_icmp_eqT (pc' := 34) dX8_mayGo_15 rfl c2 ?_
      refine jr_iconst (pc' := 35) (v := 0) dX8_mayGo_34 rfl (by decide) ?_
      exact jr_iret dX8_mayGo_35 rfl rfl (k1 c1 c2)
    · refine jr_icmp_eqF (pc' := 18) (tgt := 34) dX8_mayGo_15 rfl rfl c2 ?_
      refine jr_aload_n (pc' := 19) (i := 0) dX8_mayGo_18 rfl rfl rfl ?_
      refine jr_iload (pc' := 21) (i := 5) dX8_mayGo_19 rfl rfl ?_
      refine jr_iload (pc' := 23) (i := 4) dX8_mayGo_21 rfl rfl ?_
      refine jr_callV (pc' := 26) (k := 52) (av := [.int (f_Moled (h.1 52 0) (h.1 52 1) x y), .int u]) (st := []) sX8_depthOf wmX8_234 dX8_mayGo_23 rfl (by decide) rfl (by decide) rfl rfl rfl (Nat.le_of_ble_eq_true rfl) rfl (c_ModepthOf (n := n + 2) (f_Moled (h.1 52 0) (h.1 52 1) x y) u h (b4 c1 c2) (b5 c1 c2) (b6 c1 c2) (b7 c1 c2)) (fun v h2 hp => ?_)
      rw [hp.1, hp.2]
      show jG E mX8_mayGo (n + 3) X Post 26 [some (.ref 52), some (.int x), some (.int y), some (.int z), some (.int u), some (.int (f_Moled (h.1 52 0) (h.1 52 1) x y))] [.int (f_ModepthOf (h.1 52 4) (h.1 53) (h.1 54) (h.1 56) (f_Moled (h.1 52 0) (h.1 52 1) x y) u)] h
      refine jr_iload_n (pc' := 27) (i := 3) dX8_mayGo_26 rfl rfl rfl ?_
      by_cases c3 : z < (f_ModepthOf (h.1 52 4) (h.1 53) (h.1 54) (h.1 56) (f_Moled (h.1 52 0) (h.1 52 1) x y) u)
      · refine jr_icmp_gtT (pc' := 34) dX8_mayGo_27 rfl c3 ?_
        refine jr_iconst (pc' := 35) (v := 0) dX8_mayGo_34 rfl (by decide) ?_
        exact jr_iret dX8_mayGo_35 rfl rfl (k2 c1 c2 c3)
      · refine jr_icmp_gtF (pc' := 30) (tgt := 34) dX8_mayGo_27 rfl rfl c3 ?_
        refine jr_iconst (pc' := 31) (v := 1) dX8_mayGo_30 rfl (by decide) ?_
        refine jr_goto (pc' := 35) dX8_mayGo_31 rfl ?_
        exact jr_iret dX8_mayGo_35 rfl rfl (k3 c1 c2 c3)
def f_MomayGo (f52_0 : Int32) (f52_1 : Int32) (f52_4 : Int32) (r53 : Nat → Int32) (r54 : Nat → Int32) (r56 : Nat → Int32) (x : Int32) (y : Int32) (z : Int32) (u : Int32) : Int32 := (if y = 0 then 1 else (if (f_Moled (f52_0) (f52_1) x y) = (-1) then 0 else (if z < (f_ModepthOf (f52_4) (r53) (r54) (r56) (f_Moled (f52_0) (f52_1) x y) u) then 0 else 1)))
theorem c_MomayGo {E : jEnv} {n : Nat} (x : Int32) (y : Int32) (z : Int32) (u : Int32) (h : HP) (b0 : (¬ ((h.1 52 0)) = 0)) (b1 : ((y = 2) → ¬ ((h.1 52 0)) = 0)) (b2 : ((¬ y = 2) → (y = 4) → ¬ ((h.1 52 0)) = 0)) (b3 : ((¬ y = 2) → (¬ y = 4) → ¬ ((h.1 52 0)) = 0)) (b4 : (¬ y = 0) → (¬ (f_Moled (h.1 52 0) (h.1 52 1) x y) = (-1)) → (vp_in (f_Moled (h.1 52 0) (h.1 52 1) x y) 36)) (b5 : (¬ y = 0) → (¬ (f_Moled (h.1 52 0) (h.1 52 1) x y) = (-1)) → (¬ ((h.1 52 4)) = 0)) (b6 : (¬ y = 0) → (¬ (f_Moled (h.1 52 0) (h.1 52 1) x y) = (-1)) → (vp_in (u - u / ((h.1 52 4)) * ((h.1 52 4))) 6)) (b7 : (¬ y = 0) → (¬ (f_Moled (h.1 52 0) (h.1 52 1) x y) = (-1)) → (vp_in (26 + (f_Moled (h.1 52 0) (h.1 52 1) x y)) 62)) : jC E mX8_mayGo (n + 3) [.ref 52, .int x, .int y, .int z, .int u] h (fun v h2 => v = some (.int (f_MomayGo (h.1 52 0) (h.1 52 1) (h.1 52 4) (h.1 53) (h.1 54) (h.1 56) x y z u)) ∧ h2 = h) :=
  jC.of (lv := [some (.ref 52), some (.int x), some (.int y), some (.int z), some (.int u), none]) (by decide) (Nat.le_of_ble_eq_true rfl) ⟨rfl, rfl, rfl, rfl, rfl, trivial⟩ (q_MomayGo_0 x y z u h b0 b1 b2 b3 (fun c1 => ⟨(congrArg (fun z => some (Value.int z)) (Eq.symm (by first | (rw [f_MomayGo, if_pos c1]; done) | (simp [f_MomayGo, c1]; done)))), rfl⟩) (fun c1 c2 => ⟨(congrArg (fun z => some (Value.int z)) (Eq.symm (by first | (rw [f_MomayGo, if_neg c1, if_pos c2]; done) | (simp [f_MomayGo, c1, c2]; done)))), rfl⟩) b4 b5 b6 b7 (fun c1 c2 c3 => ⟨(congrArg (fun z => some (Value.int z)) (Eq.symm (by first | (rw [f_MomayGo, if_neg c1, if_neg c2, if_pos c3]; done) | (simp [f_MomayGo, c1, c2, c3]; done)))), rfl⟩) (fun c1 c2 c3 => ⟨(congrArg (fun z => some (Value.int z)) (Eq.symm (by first | (rw [f_MomayGo, if_neg c1, if_neg c2, if_neg c3]; done) | (simp [f_MomayGo, c1, c2, c3]; done)))), rfl⟩))

theorem q_Shdepth_0 {E : jEnv} {n : Nat} {X : State → Prop} {Post : Option Value → HP → Prop} (x : Int32) (y : Int32) (z : Int32) (h : HP)
    (k0 : ((f_LdisCell (h.1 3 0) (h.1 3 1) x y) = 0) → Post (some (.int (-1000000001))) h)
    (k1 : (¬ (f_LdisCell (h.1 3 0) (h.1 3 1) x y) = 0) → (z < 0) → Post (some (.int (-1000000002))) h)
    (b0 : (¬ (f_LdisCell (h.1 3 0) (h.1 3 1) x y) = 0) → (¬ z < 0) → (z ≤ 99) → (((f_Shhas ((h.2 18 3)) (f_LdcellOf3 (h.1 3 0) x y)) = 0) → ((¬ (f_LdcellOf3 (h.1 3 0) x y) < 0) → (¬ (36 : Int32) ≤ (f_LdcellOf3 (h.1 3 0) x y)) → ((f_LdtideOf (((h.1 3 2))) ((h.1 18 1) + z)) < 6) → vp_in (f_LdtideOf (((h.1 3 2))) ((h.1 18 1) + z)) 6)))
    (k2 : (¬ (f_LdisCell (h.1 3 0) (h.1 3 1) x y) = 0) → (¬ z < 0) → (z ≤ 99) → Post (some (.int (f_StdepthOf (h.1 3 2) (h.2 18 3) (h.1 4) (h.1 5) (f_LdcellOf3 (h.1 3 0) x y) ((h.1 18 1) + z)))) h)
    (k3 : (¬ (f_LdisCell (h.1 3 0) (h.1 3 1) x y) = 0) → (¬ z < 0) → (¬ z ≤ 99) → Post (some (.int (-1000000002))) h)
    : jG E mX7_depth (n + 3) X Post 0 [some (.ref 0), some (.int x), some (.int y), some (.int z)] [] h := by
  refine jr_aload_n (pc' := 1) (i := 0) dX7_depth_0 rfl rfl rfl ?_
  refine jr_get (pc' := 4) jK7 (k := 0) (j := 1) (v := .ref 3) wfX7_19 dX7_depth_1 rfl (by decide) rfl (by decide) rfl ?_
  refine jr_iload_n (pc' := 5) (i := 1) dX7_depth_4 rfl rfl rfl ?_
  refine jr_iload_n (pc' := 6) (i := 2) dX7_depth_5 rfl rfl rfl ?_
  refine jr_callV (pc' := 9) (k := 3) (av := [.int x, .int y]) (st := []) sX2_isCell wmX7_142 dX7_depth_6 rfl (by decide) rfl (by decide) rfl rfl rfl (Nat.le_of_ble_eq_true rfl) rfl (c_LdisCell (n := n + 2) x y h ) (fun v h2 hp => ?_)
  rw [hp.1, hp.2]
  show jG E mX7_depth (n + 3) X Post 9 [some (.ref 0), some (.int x), some (.int y), some (.int z)] [.int (f_LdisCell (h.1 3 0) (h.1 3 1) x y)] h
  by_cases c1 : (f_LdisCell (h.1 3 0) (h.1 3 1) x y) = 0
  · refine jr_if_neF (pc' := 12) (tgt := 15) dX7_depth_9 rfl rfl c1 ?_
    refine jr_ldc (pc' := 14) (v := (-1000000001)) dX7_depth_12 rfl wcX7_146 ?_
    exact jr_iret dX7_depth_14 rfl rfl (k0 c1)
  · refine jr_if_neT (pc' := 15) dX7_depth_9 rfl c1 ?_
    refine jr_iload_n (pc' := 16) (i := 3) dX7_depth_15 rfl rfl rfl ?_
    by_cases c2 : z < 0
    · refine jr_if_ltT (pc' := 25) dX7_depth_16 rfl c2 ?_
      refine jr_ldc (pc' := 27) (v := (-1000000002)) dX7_depth_25 rfl wcX7_74 ?_
      exact jr_iret dX7_depth_27 rfl rfl (k1 c1 c2)
    · refine jr_if_ltF (pc' := 19) (tgt := 25) dX7_depth_16 rfl rfl c2 ?_
      refine jr_iload_n (pc' := 20) (i := 3) dX7_depth_19 rfl rfl rfl ?_
      refine jr_bipush (pc' := 22) (v := 99) dX7_depth_20 rfl (by decide) ?_
      by_cases c3 : z ≤ 99
      · refine jr_icmp_leT (pc' := 28) dX7_depth_22 rfl c3 ?_
        refine jr_aload_n (pc' := 29) (i := 0) dX7_depth_28 rfl rfl rfl ?_
        refine jr_get (pc' := 32) jK7 (k := 0) (j := 3) (v := .ref 18) wfX7_37 dX7_depth_29 rfl (by decide) rfl (by decide) rfl ?_
        refine jr_aload_n (pc' := 33) (i := 0) dX7_depth_32 rfl rfl rfl ?_
        refine jr_get (pc' := 36) jK7 (k := 0) (j := 1) (v := .ref 3) wfX7_19 dX7_depth_33 rfl (by decide) rfl (by decide) rfl ?_
        refine jr_iload_n (pc' := 37) (i := 1) dX7_depth_36 rfl rfl rfl ?_
        refine jr_iload_n (pc' := 38) (i := 2) dX7_depth_37 rfl rfl rfl ?_
        refine jr_callV (pc' := 41) (k := 3) (av := [.int x, .int y]) (st := [.ref 18]) sX2_cellOf wmX7_147 dX7_depth_38 rfl (by decide) rfl (by decide) rfl rfl rfl (Nat.le_of_ble_eq_true rfl) rfl (c_LdcellOf3 (n := n + 2) x y h ) (fun v h2 hp => ?_)
        rw [hp.1, hp.2]
        show jG E mX7_depth (n + 3) X Post 41 [some (.ref 0), some (.int x), some (.int y), some (.int z)] [.int (f_LdcellOf3 (h.1 3 0) x y), .ref 18] h
        refine jr_aload_n (pc' := 42) (i := 0) dX7_depth_41 rfl rfl rfl ?_
        refine jr_get (pc' := 45) jK7 (k := 0) (j := 3) (v := .ref 18) wfX7_37 dX7_depth_42 rfl (by decide) rfl (by decide) rfl ?_
        refine jr_get (pc' := 48) jK5 (k := 18) (j := 1) (v := .int (h.1 18 1)) wfX7_128 dX7_depth_45 rfl (by decide) rfl (by decide) rfl ?_
        refine jr_iload_n (pc' := 49) (i := 3) dX7_depth_48 rfl rfl rfl ?_
        refine jr_iadd (pc' := 50)  dX7_depth_49 rfl  ?_
        refine jr_callV (pc' := 53) (k := 18) (av := [.int (f_LdcellOf3 (h.1 3 0) x y), .int ((h.1 18 1) + z)]) (st := []) sX5_depthOf wmX7_151 dX7_depth_50 rfl (by decide) rfl (by decide) rfl rfl rfl (Nat.le_of_ble_eq_true rfl) rfl (c_StdepthOf (n := n) (f_LdcellOf3 (h.1 3 0) x y) ((h.1 18 1) + z) h (b0 c1 c2 c3)) (fun v h2 hp => ?_)
        rw [hp.1, hp.2]
        show jG E mX7_depth (n + 3) X Post 53 [some (.ref 0), some (.int x), some (.int y), some (.int z)] [.int (f_StdepthOf (h.1 3 2) (h.2 18 3) (h.1 4) (h.1 5) (f_LdcellOf3 (h.1 3 0) x y) ((h.1 18 1) + z))] h
        exact jr_iret dX7_depth_53 rfl rfl (k2 c1 c2 c3)
      · refine jr_icmp_leF (pc' := 25) (tgt := 28) dX7_depth_22 rfl rfl c3 ?_
        refine jr_ldc (pc' := 27) (v := (-1000000002)) dX7_depth_25 rfl wcX7_74 ?_
        exact jr_iret dX7_depth_27 rfl rfl (k3 c1 c2 c3)
def f_Shdepth (f18_1 : Int32) (f3_0 : Int32) (f3_1 : Int32) (f3_2 : Int32) (g18_3 : Int64) (r4 : Nat → Int32) (r5 : Nat → Int32) (x : Int32) (y : Int32) (z : Int32) : Int32 := (if (f_LdisCell (f3_0) (f3_1) x y) = 0 then (-1000000001) else (if z < 0 then (-1000000002) else (if z ≤ 99 then (f_StdepthOf (f3_2) (g18_3) (r4) (r5) (f_LdcellOf3 (f3_0) x y) ((f18_1) + z)) else (-1000000002))))
theorem c_Shdepth {E : jEnv} {n : Nat} (x : Int32) (y : Int32) (z : Int32) (h : HP) (b0 : (¬ (f_LdisCell (h.1 3 0) (h.1 3 1) x y) = 0) → (¬ z < 0) → (z ≤ 99) → (((f_Shhas ((h.2 18 3)) (f_LdcellOf3 (h.1 3 0) x y)) = 0) → ((¬ (f_LdcellOf3 (h.1 3 0) x y) < 0) → (¬ (36 : Int32) ≤ (f_LdcellOf3 (h.1 3 0) x y)) → ((f_LdtideOf (((h.1 3 2))) ((h.1 18 1) + z)) < 6) → vp_in (f_LdtideOf (((h.1 3 2))) ((h.1 18 1) + z)) 6))) : jC E mX7_depth (n + 3) [.ref 0, .int x, .int y, .int z] h (fun v h2 => v = some (.int (f_Shdepth (h.1 18 1) (h.1 3 0) (h.1 3 1) (h.1 3 2) (h.2 18 3) (h.1 4) (h.1 5) x y z)) ∧ h2 = h) :=
  jC.of (lv := [some (.ref 0), some (.int x), some (.int y), some (.int z)]) (by decide) (Nat.le_of_ble_eq_true rfl) ⟨rfl, rfl, rfl, rfl, trivial⟩ (q_Shdepth_0 x y z h (fun c1 => ⟨(congrArg (fun z => some (Value.int z)) (Eq.symm (by first | (rw [f_Shdepth, if_pos c1]; done) | (simp [f_Shdepth, c1]; done)))), rfl⟩) (fun c1 c2 => ⟨(congrArg (fun z => some (Value.int z)) (Eq.symm (by first | (rw [f_Shdepth, if_neg c1, if_pos c2]; done) | (simp [f_Shdepth, c1, c2]; done)))), rfl⟩) b0 (fun c1 c2 c3 => ⟨(congrArg (fun z => some (Value.int z)) (Eq.symm (by first | (rw [f_Shdepth, if_neg c1, if_neg c2, if_pos c3]; done) | (simp [f_Shdepth, c1, c2, c3]; done)))), rfl⟩) (fun c1 c2 c3 => ⟨(congrArg (fun z => some (Value.int z)) (Eq.symm (by first | (rw [f_Shdepth, if_neg c1, if_neg c2, if_neg c3]; done) | (simp [f_Shdepth, c1, c2, c3]; done)))), rfl⟩))

set_option maxRecDepth 4000 in
theorem q_Shman_0 {E : jEnv} {n : Nat} {X : State → Prop} {Post : Option Value → HP → Prop} (x : Int32) (y : Int32) (h : HP)
    (k0 : ((f_LdisMan (h.1 3 3) x) = 0) → Post (some (.int (-1000000001))) h)
    (k1 : (¬ (f_LdisMan (h.1 3 3) x) = 0) → (y.toInt < 0 ∨ 6 < y.toInt) → Post (some (.int (-1000000002))) h)
    (b0 : (¬ (f_LdisMan (h.1 3 3) x) = 0) → (y.toInt = 0) → vp_in x 4)
    (k2 : (¬ (f_LdisMan (h.1 3 3) x) = 0) → (y.toInt = 0) → Post (some (.int (f_LdcolumnOf (h.1 3 0) (h.1 19 x.toNatClampNeg)))) h)
    (b1 : (¬ (f_LdisMan (h.1 3 3) x) = 0) → (y.toInt = 1) → vp_in x 4)
    (k3 : (¬ (f_LdisMan (h.1 3 3) x) = 0) → (y.toInt = 1) → Post (some (.int (f_LdrowOf (h.1 3 0) (h.1 19 x.toNatClampNeg)))) h)
    (b2 : (¬ (f_LdisMan (h.1 3 3) x) = 0) → (y.toInt = 2) → vp_in x 4)
    (k4 : (¬ (f_LdisMan (h.1 3 3) x) = 0) → (y.toInt = 2) → Post (some (.int (h.1 20 x.toNatClampNeg))) h)
    (b3 : (¬ (f_LdisMan (h.1 3 3) x) = 0) → (y.toInt = 3) → vp_in x 4)
    (k5 : (¬ (f_LdisMan (h.1 3 3) x) = 0) → (y.toInt = 3) → Post (some (.int (h.1 21 x.toNatClampNeg))) h)
    (b4 : (¬ (f_LdisMan (h.1 3 3) x) = 0) → (y.toInt = 4) → vp_in x 4)
    (k6 : (¬ (f_LdisMan (h.1 3 3) x) = 0) → (y.toInt = 4) → Post (some (.int (h.1 22 x.toNatClampNeg))) h)
    (b5 : (¬ (f_LdisMan (h.1 3 3) x) = 0) → (y.toInt = 5) → (vp_in x 4))
    (b6 : (¬ (f_LdisMan (h.1 3 3) x) = 0) → (y.toInt = 5) → (((f_Shhas (((h.2 18 3))) ((h.1 19) x.toNatClampNeg)) = 0) → ((¬ ((h.1 19) x.toNatClampNeg) < 0) → (¬ (36 : Int32) ≤ ((h.1 19) x.toNatClampNeg)) → ((f_LdtideOf ((((h.1 3 2)))) ((h.1 18 1))) < 6) → vp_in (f_LdtideOf ((((h.1 3 2)))) ((h.1 18 1))) 6)))
    (b7 : (¬ (f_LdisMan (h.1 3 3) x) = 0) → (y.toInt = 5) → (vp_in x 4))
    (k7 : (¬ (f_LdisMan (h.1 3 3) x) = 0) → (y.toInt = 5) → ((f_StisWet (h.1 18 1) (h.1 3 2) (h.2 18 3) (h.1 19) (h.1 20) (h.1 4) (h.1 5) x) = 0) → Post (some (.int 0)) h)
    (k8 : (¬ (f_LdisMan (h.1 3 3) x) = 0) → (y.toInt = 5) → (¬ (f_StisWet (h.1 18 1) (h.1 3 2) (h.2 18 3) (h.1 19) (h.1 20) (h.1 4) (h.1 5) x) = 0) → Post (some (.int 1)) h)
    (b8 : (¬ (f_LdisMan (h.1 3 3) x) = 0) → (y.toInt = 6) → vp_in x 4)
    (k9 : (¬ (f_LdisMan (h.1 3 3) x) = 0) → (y.toInt = 6) → Post (some (.int (h.1 23 x.toNatClampNeg))) h)
    : jG E mX7_man (n + 4) X Post 0 [some (.ref 0), some (.int x), some (.int y)] [] h := by
  refine jr_aload_n (pc' := 1) (i := 0) dX7_man_0 rfl rfl rfl ?_
  refine jr_get (pc' := 4) jK7 (k := 0) (j := 1) (v := .ref 3) wfX7_19 dX7_man_1 rfl (by decide) rfl (by decide) rfl ?_
  refine jr_iload_n (pc' := 5) (i := 1) dX7_man_4 rfl rfl rfl ?_
  refine jr_callV (pc' := 8) (k := 3) (av := [.int x]) (st := []) sX2_isMan wmX7_154 dX7_man_5 rfl (by decide) rfl (by decide) rfl rfl rfl (Nat.le_of_ble_eq_true rfl) rfl (c_LdisMan (n := n + 3) x h ) (fun v h2 hp => ?_)
  rw [hp.1, hp.2]
  show jG E mX7_man (n + 4) X Post 8 [some (.ref 0), some (.int x), some (.int y)] [.int (f_LdisMan (h.1 3 3) x)] h
  by_cases c1 : (f_LdisMan (h.1 3 3) x) = 0
  · refine jr_if_neF (pc' := 11) (tgt := 14) dX7_man_8 rfl rfl c1 ?_
    refine jr_ldc (pc' := 13) (v := (-1000000001)) dX7_man_11 rfl wcX7_146 ?_
    exact jr_iret dX7_man_13 rfl rfl (k0 c1)
  · refine jr_if_neT (pc' := 14) dX7_man_8 rfl c1 ?_
    refine jr_iload_n (pc' := 15) (i := 2) dX7_man_14 rfl rfl rfl ?_
    by_cases c2 : y.toInt < 0 ∨ 6 < y.toInt
    · refine jr_tabOut (pc' := 147) dX7_man_15 c2 rfl ?_
      refine jr_ldc (pc' := 149) (v := (-1000000002)) dX7_man_147 rfl wcX7_74 ?_
      exact jr_iret dX7_man_149 rfl rfl (k1 c1 c2)
    · have c2x : y.toInt = 0 ∨ y.toInt = 1 ∨ y.toInt = 2 ∨ y.toInt = 3 ∨ y.toInt = 4 ∨ y.toInt = 5 ∨ y.toInt = 6 := by omega
      rcases c2x with c2x | c2x | c2x | c2x | c2x | c2x | c2x
      · refine jr_tabIn (pc' := 56) (off := 41) dX7_man_15 (by omega) (by omega) (by rw [c2x]; rfl) rfl ?_
        refine jr_aload_n (pc' := 57) (i := 0) dX7_man_56 rfl rfl rfl ?_
        refine jr_get (pc' := 60) jK7 (k := 0) (j := 1) (v := .ref 3) wfX7_19 dX7_man_57 rfl (by decide) rfl (by decide) rfl ?_
        refine jr_aload_n (pc' := 61) (i := 0) dX7_man_60 rfl rfl rfl ?_
        refine jr_get (pc' := 64) jK7 (k := 0) (j := 3) (v := .ref 18) wfX7_37 dX7_man_61 rfl (by decide) rfl (by decide) rfl ?_
        refine jr_get (pc' := 67) jK5 (k := 18) (j := 4) (v := .ref 19) wfX7_158 dX7_man_64 rfl (by decide) rfl (by decide) rfl ?_
        refine jr_iload_n (pc' := 68) (i := 1) dX7_man_67 rfl rfl rfl ?_
        refine jr_iald (pc' := 69) (v := h.1 19 x.toNatClampNeg) dX7_man_68 rfl (by decide) rfl (b0 c1 c2x) rfl ?_
        refine jr_callV (pc' := 72) (k := 3) (av := [.int (h.1 19 x.toNatClampNeg)]) (st := []) sX2_columnOf wmX7_162 dX7_man_69 rfl (by decide) rfl (by decide) rfl rfl rfl (Nat.le_of_ble_eq_true rfl) rfl (c_LdcolumnOf (n := n + 3) (h.1 19 x.toNatClampNeg) h ) (fun v h2 hp => ?_)
        rw [hp.1, hp.2]
        show jG E mX7_man (n + 4) X Post 72 [some (.ref 0), some (.int x), some (.int y)] [.int (f_LdcolumnOf (h.1 3 0) (h.1 19 x.toNatClampNeg))] h
        exact jr_iret dX7_man_72 rfl rfl (k2 c1 c2x)
      · refine jr_tabIn (pc' := 73) (off := 58) dX7_man_15 (by omega) (by omega) (by rw [c2x]; rfl) rfl ?_
        refine jr_aload_n (pc' := 74) (i := 0) dX7_man_73 rfl rfl rfl ?_
        refine jr_get (pc' := 77) jK7 (k := 0) (j := 1) (v := .ref 3) wfX7_19 dX7_man_74 rfl (by decide) rfl (by decide) rfl ?_
        refine jr_aload_n (pc' := 78) (i := 0) dX7_man_77 rfl rfl rfl ?_
        refine jr_get (pc' := 81) jK7 (k := 0) (j := 3) (v := .ref 18) wfX7_37 dX7_man_78 rfl (by decide) rfl (by decide) rfl ?_
        refine jr_get (pc' := 84) jK5 (k := 18) (j := 4) (v := .ref 19) wfX7_158 dX7_man_81 rfl (by decide) rfl (by decide) rfl ?_
        refine jr_iload_n (pc' := 85) (i := 1) dX7_man_84 rfl rfl rfl ?_
        refine jr_iald (pc' := 86) (v := h.1 19 x.toNatClampNeg) dX7_man_85 rfl (by decide) rfl (b1 c1 c2x) rfl ?_
        refine jr_callV (pc' := 89) (k := 3) (av := [.int (h.1 19 x.toNatClampNeg)]) (st := []) sX2_rowOf wmX7_165 dX7_man_86 rfl (by decide) rfl (by decide) rfl rfl rfl (Nat.le_of_ble_eq_true rfl) rfl (c_LdrowOf (n := n + 3) (h.1 19 x.toNatClampNeg) h ) (fun v h2 hp => ?_)
        rw [hp.1, hp.2]
        show jG E mX7_man (n + 4) X Post 89 [some (.ref 0), some (.int x), some (.int y)] [.int (f_LdrowOf (h.1 3 0) (h.1 19 x.toNatClampNeg))] h
        exact jr_iret dX7_man_89 rfl rfl (k3 c1 c2x)
      · refine jr_tabIn (pc' := 90) (off := 75) dX7_man_15 (by omega) (by omega) (by rw [c2x]; rfl) rfl ?_
        refine jr_aload_n (pc' := 91) (i := 0) dX7_man_90 rfl rfl rfl ?_
        refine jr_get (pc' := 94) jK7 (k := 0) (j := 3) (v := .ref 18) wfX7_37 dX7_man_91 rfl (by decide) rfl (by decide) rfl ?_
        refine jr_get (pc' := 97) jK5 (k := 18) (j := 5) (v := .ref 20) wfX7_168 dX7_man_94 rfl (by decide) rfl (by decide) rfl ?_
        refine jr_iload_n (pc' := 98) (i := 1) dX7_man_97 rfl rfl rfl ?_
        refine jr_iald (pc' := 99) (v := h.1 20 x.toNatClampNeg) dX7_man_98 rfl (by decide) rfl (b2 c1 c2x) rfl ?_
        exact jr_iret dX7_man_99 rfl rfl (k4 c1 c2x)
      · refine jr_tabIn (pc' := 100) (off := 85) dX7_man_15 (by omega) (by omega) (by rw [c2x]; rfl) rfl ?_
        refine jr_aload_n (pc' := 101) (i := 0) dX7_man_100 rfl rfl rfl ?_
        refine jr_get (pc' := 104) jK7 (k := 0) (j := 3) (v := .ref 18) wfX7_37 dX7_man_101 rfl (by decide) rfl (by decide) rfl ?_
        refine jr_get (pc' := 107) jK5 (k := 18) (j := 6) (v := .ref 21) wfX7_171 dX7_man_104 rfl (by decide) rfl (by decide) rfl ?_
        refine jr_iload_n (pc' := 108) (i := 1) dX7_man_107 rfl rfl rfl ?_
        refine jr_iald (pc' := 109) (v := h.1 21 x.toNatClampNeg) dX7_man_108 rfl (by decide) rfl (b3 c1 c2x) rfl ?_
        exact jr_iret dX7_man_109 rfl rfl (k5 c1 c2x)
      · refine jr_tabIn (pc' := 110) (off := 95) dX7_man_15 (by omega) (by omega) (by rw [c2x]; rfl) rfl ?_
        refine jr_aload_n (pc' := 111) (i := 0) dX7_man_110 rfl rfl rfl ?_
        refine jr_get (pc' := 114) jK7 (k := 0) (j := 3) (v := .ref 18) wfX7_37 dX7_man_111 rfl (by decide) rfl (by decide) rfl ?_
        refine jr_get (pc' := 117) jK5 (k := 18) (j := 7) (v := .ref 22) wfX7_174 dX7_man_114 rfl (by decide) rfl (by decide) rfl ?_
        refine jr_iload_n (pc' := 118) (i := 1) dX7_man_117 rfl rfl rfl ?_
        refine jr_iald (pc' := 119) (v := h.1 22 x.toNatClampNeg) dX7_man_118 rfl (by decide) rfl (b4 c1 c2x) rfl ?_
        exact jr_iret dX7_man_119 rfl rfl (k6 c1 c2x)
      · refine jr_tabIn (pc' := 120) (off := 105) dX7_man_15 (by omega) (by omega) (by rw [c2x]; rfl) rfl ?_
        refine jr_aload_n (pc' := 121) (i := 0) dX7_man_120 rfl rfl rfl ?_
        refine jr_get (pc' := 124) jK7 (k := 0) (j := 3) (v := .ref 18) wfX7_37 dX7_man_121 rfl (by decide) rfl (by decide) rfl ?_
        refine jr_iload_n (pc' := 125) (i := 1) dX7_man_124 rfl rfl rfl ?_
        refine jr_callV (pc' := 128) (k := 18) (av := [.int x]) (st := []) sX5_isWet wmX7_177 dX7_man_125 rfl (by decide) rfl (by decide) rfl rfl rfl (Nat.le_of_ble_eq_true rfl) rfl (c_StisWet (n := n) x h (b5 c1 c2x) (b6 c1 c2x) (b7 c1 c2x)) (fun v h2 hp => ?_)
        rw [hp.1, hp.2]
        show jG E mX7_man (n + 4) X Post 128 [some (.ref 0), some (.int x), some (.int y)] [.int (f_StisWet (h.1 18 1) (h.1 3 2) (h.2 18 3) (h.1 19) (h.1 20) (h.1 4) (h.1 5) x)] h
        by_cases c3 : (f_StisWet (h.1 18 1) (h.1 3 2) (h.2 18 3) (h.1 19) (h.1 20) (h.1 4) (h.1 5) x) = 0
        · refine jr_if_eqT (pc' := 135) dX7_man_128 rfl c3 ?_
          refine jr_iconst (pc' := 136) (v := 0) dX7_man_135 rfl (by decide) ?_
          exact jr_iret dX7_man_136 rfl rfl (k7 c1 c2x c3)
        · refine jr_if_eqF (pc' := 131) (tgt := 135) dX7_man_128 rfl rfl c3 ?_
          refine jr_iconst (pc' := 132) (v := 1) dX7_man_131 rfl (by decide) ?_
          refine jr_goto (pc' := 136) dX7_man_132 rfl ?_
          exact jr_iret dX7_man_136 rfl rfl (k8 c1 c2x c3)
      · refine jr_tabIn (pc' := 137) (off := 122) dX7_man_15 (by omega) (by omega) (by rw [c2x]; rfl) rfl ?_
        refine jr_aload_n (pc' := 138) (i := 0) dX7_man_137 rfl rfl rfl ?_
        refine jr_get (pc' := 141) jK7 (k := 0) (j := 3) (v := .ref 18) wfX7_37 dX7_man_138 rfl (by decide) rfl (by decide) rfl ?_
        refine jr_get (pc' := 144) jK5 (k := 18) (j := 8) (v := .ref 23) wfX7_180 dX7_man_141 rfl (by decide) rfl (by decide) rfl ?_
        refine jr_iload_n (pc' := 145) (i := 1) dX7_man_144 rfl rfl rfl ?_
        refine jr_iald (pc' := 146) (v := h.1 23 x.toNatClampNeg) dX7_man_145 rfl (by decide) rfl (b8 c1 c2x) rfl ?_
        exact jr_iret dX7_man_146 rfl rfl (k9 c1 c2x)
def f_Shman (f18_1 : Int32) (f3_0 : Int32) (f3_2 : Int32) (f3_3 : Int32) (g18_3 : Int64) (r19 : Nat → Int32) (r20 : Nat → Int32) (r21 : Nat → Int32) (r22 : Nat → Int32) (r23 : Nat → Int32) (r4 : Nat → Int32) (r5 : Nat → Int32) (x : Int32) (y : Int32) : Int32 := (if (f_LdisMan (f3_3) x) = 0 then (-1000000001) else (if y.toInt < 0 ∨ 6 < y.toInt then (-1000000002) else (if y.toInt = 0 then (f_LdcolumnOf (f3_0) (r19 x.toNatClampNeg)) else (if y.toInt = 1 then (f_LdrowOf (f3_0) (r19 x.toNatClampNeg)) else (if y.toInt = 2 then r20 x.toNatClampNeg else (if y.toInt = 3 then r21 x.toNatClampNeg else (if y.toInt = 4 then r22 x.toNatClampNeg else (if y.toInt = 5 then (if (f_StisWet (f18_1) (f3_2) (g18_3) (r19) (r20) (r4) (r5) x) = 0 then 0 else 1) else r23 x.toNatClampNeg))))))))
theorem c_Shman {E : jEnv} {n : Nat} (x : Int32) (y : Int32) (h : HP) (b0 : (¬ (f_LdisMan (h.1 3 3) x) = 0) → (y.toInt = 0) → vp_in x 4) (b1 : (¬ (f_LdisMan (h.1 3 3) x) = 0) → (y.toInt = 1) → vp_in x 4) (b2 : (¬ (f_LdisMan (h.1 3 3) x) = 0) → (y.toInt = 2) → vp_in x 4) (b3 : (¬ (f_LdisMan (h.1 3 3) x) = 0) → (y.toInt = 3) → vp_in x 4) (b4 : (¬ (f_LdisMan (h.1 3 3) x) = 0) → (y.toInt = 4) → vp_in x 4) (b5 : (¬ (f_LdisMan (h.1 3 3) x) = 0) → (y.toInt = 5) → (vp_in x 4)) (b6 : (¬ (f_LdisMan (h.1 3 3) x) = 0) → (y.toInt = 5) → (((f_Shhas (((h.2 18 3))) ((h.1 19) x.toNatClampNeg)) = 0) → ((¬ ((h.1 19) x.toNatClampNeg) < 0) → (¬ (36 : Int32) ≤ ((h.1 19) x.toNatClampNeg)) → ((f_LdtideOf ((((h.1 3 2)))) ((h.1 18 1))) < 6) → vp_in (f_LdtideOf ((((h.1 3 2)))) ((h.1 18 1))) 6))) (b7 : (¬ (f_LdisMan (h.1 3 3) x) = 0) → (y.toInt = 5) → (vp_in x 4)) (b8 : (¬ (f_LdisMan (h.1 3 3) x) = 0) → (y.toInt = 6) → vp_in x 4) : jC E mX7_man (n + 4) [.ref 0, .int x, .int y] h (fun v h2 => v = some (.int (f_Shman (h.1 18 1) (h.1 3 0) (h.1 3 2) (h.1 3 3) (h.2 18 3) (h.1 19) (h.1 20) (h.1 21) (h.1 22) (h.1 23) (h.1 4) (h.1 5) x y)) ∧ h2 = h) :=
  jC.of (lv := [some (.ref 0), some (.int x), some (.int y)]) (by decide) (Nat.le_of_ble_eq_true rfl) ⟨rfl, rfl, rfl, trivial⟩ (q_Shman_0 x y h (fun c1 => ⟨(congrArg (fun z => some (Value.int z)) (Eq.symm (by first | (rw [f_Shman, if_pos c1]; done) | (simp [f_Shman, c1]; done)))), rfl⟩) (fun c1 c2 => ⟨(congrArg (fun z => some (Value.int z)) (Eq.symm (by first | (rw [f_Shman, if_neg c1, if_pos c2]; done) | (simp [f_Shman, c1, c2]; done)))), rfl⟩) b0 (fun c1 c2x => ⟨(congrArg (fun z => some (Value.int z)) (Eq.symm (by first | (rw [f_Shman, if_neg c1, if_pos c2x]; done) | (simp [f_Shman, c1, c2x]; done)))), rfl⟩) b1 (fun c1 c2x => ⟨(congrArg (fun z => some (Value.int z)) (Eq.symm (by first | (rw [f_Shman, if_neg c1, if_pos c2x]; done) | (simp [f_Shman, c1, c2x]; done)))), rfl⟩) b2 (fun c1 c2x => ⟨(congrArg (fun z => some (Value.int z)) (Eq.symm (by first | (rw [f_Shman, if_neg c1, if_pos c2x]; done) | (simp [f_Shman, c1, c2x]; done)))), rfl⟩) b3 (fun c1 c2x => ⟨(congrArg (fun z => some (Value.int z)) (Eq.symm (by first | (rw [f_Shman, if_neg c1, if_pos c2x]; done) | (simp [f_Shman, c1, c2x]; done)))), rfl⟩) b4 (fun c1 c2x => ⟨(congrArg (fun z => some (Value.int z)) (Eq.symm (by first | (rw [f_Shman, if_neg c1, if_pos c2x]; done) | (simp [f_Shman, c1, c2x]; done)))), rfl⟩) b5 b6 b7 (fun c1 c2x c3 => ⟨(congrArg (fun z => some (Value.int z)) (Eq.symm (by first | (rw [f_Shman, if_neg c1, if_pos c2x, if_pos c3]; done) | (simp [f_Shman, c1, c2x, c3]; done)))), rfl⟩) (fun c1 c2x c3 => ⟨(congrArg (fun z => some (Value.int z)) (Eq.symm (by first | (rw [f_Shman, if_neg c1, if_pos c2x, if_neg c3]; done) | (simp [f_Shman, c1, c2x, c3]; done)))), rfl⟩) b8 (fun c1 c2x => ⟨(congrArg (fun z => some (Value.int z)) (Eq.symm (by first | (rw [f_Shman, if_neg c1, if_pos c2x]; done) | (simp [f_Shman, c1, c2x]; done)))), rfl⟩))

