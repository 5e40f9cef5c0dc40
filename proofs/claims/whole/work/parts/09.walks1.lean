/-- a call: some contract of the callee, and what follows out of it -/
def jCall (E : jEnv) (M : jM) (n : Nat) (av : List Value) (h : HP) (K : Option Value → HP → Prop) : Prop := ∃ P1 : Option Value → HP → Prop, jC E M n av h P1 ∧ ∀ (v : Option Value) (h2 : HP), P1 v h2 → K v h2
theorem q_isCell3_0 {E : jEnv} {n : Nat} {X : State → Prop} {Post : Option Value → HP → Prop} (x : Int32) (y : Int32) (h : HP)
    (k0 : (x < 0) → Post (some (.int 0)) h)
    (k1 : (¬ x < 0) → ((h.1 3 0) ≤ x) → Post (some (.int 0)) h)
    (k2 : (¬ x < 0) → (¬ (h.1 3 0) ≤ x) → (y < 0) → Post (some (.int 0)) h)
    (k3 : (¬ x < 0) → (¬ (h.1 3 0) ≤ x) → (¬ y < 0) → ((h.1 3 1) ≤ y) → Post (some (.int 0)) h)
    (k4 : (¬ x < 0) → (¬ (h.1 3 0) ≤ x) → (¬ y < 0) → (¬ (h.1 3 1) ≤ y) → Post (some (.int 1)) h)
    : jG E mX2_isCell n X Post 0 [some (.ref 3), some (.int x), some (.int y)] [] h := by
  refine jr_iload_n (pc' := 1) (i := 1) dX2_isCell_0 rfl rfl rfl ?_
  by_cases c1 : x < 0
  · refine jr_if_ltT (pc' := 28) dX2_isCell_1 rfl c1 ?_
    refine jr_iconst (pc' := 29) (v := 0) dX2_isCell_28 rfl (by decide) ?_
    exact jr_iret dX2_isCell_29 rfl rfl (k0 c1)
  · refine jr_if_ltF (pc' := 4) (tgt := 28) dX2_isCell_1 rfl rfl c1 ?_
    refine jr_iload_n (pc' := 5) (i := 1) dX2_isCell_4 rfl rfl rfl ?_
    refine jr_aload_n (pc' := 6) (i := 0) dX2_isCell_5 rfl rfl rfl ?_
    refine jr_get (pc' := 9) jK2 (k := 3) (j := 0) (v := .int (h.1 3 0)) wfX2_9 dX2_isCell_6 rfl (by decide) rfl (by decide) rfl ?_
    by_cases c2 : (h.1 3 0) ≤ x
    · refine jr_icmp_geT (pc' := 28) dX2_isCell_9 rfl c2 ?_
      refine jr_iconst (pc' := 29) (v := 0) dX2_isCell_28 rfl (by decide) ?_
      exact jr_iret dX2_isCell_29 rfl rfl (k1 c1 c2)
    · refine jr_icmp_geF (pc' := 12) (tgt := 28) dX2_isCell_9 rfl rfl c2 ?_
      refine jr_iload_n (pc' := 13) (i := 2) dX2_isCell_12 rfl rfl rfl ?_
      by_cases c3 : y < 0
      · refine jr_if_ltT (pc' := 28) dX2_isCell_13 rfl c3 ?_
        refine jr_iconst (pc' := 29) (v := 0) dX2_isCell_28 rfl (by decide) ?_
        exact jr_iret dX2_isCell_29 rfl rfl (k2 c1 c2 c3)
      · refine jr_if_ltF (pc' := 16) (tgt := 28) dX2_isCell_13 rfl rfl c3 ?_
        refine jr_iload_n (pc' := 17) (i := 2) dX2_isCell_16 rfl rfl rfl ?_
        refine jr_aload_n (pc' := 18) (i := 0) dX2_isCell_17 rfl rfl rfl ?_
        refine jr_get (pc' := 21) jK2 (k := 3) (j := 1) (v := .int (h.1 3 1)) wfX2_15 dX2_isCell_18 rfl (by decide) rfl (by decide) rfl ?_
        by_cases c4 : (h.1 3 1) ≤ y
        · refine jr_icmp_geT (pc' := 28) dX2_isCell_21 rfl c4 ?_
          refine jr_iconst (pc' := 29) (v := 0) dX2_isCell_28 rfl (by decide) ?_
          exact jr_iret dX2_isCell_29 rfl rfl (k3 c1 c2 c3 c4)
        · refine jr_icmp_geF (pc' := 24) (tgt := 28) dX2_isCell_21 rfl rfl c4 ?_
          refine jr_iconst (pc' := 25) (v := 1) dX2_isCell_24 rfl (by decide) ?_
          refine jr_goto (pc' := 29) dX2_isCell_25 rfl ?_
          exact jr_iret dX2_isCell_29 rfl rfl (k4 c1 c2 c3 c4)

theorem q_cells3_0 {E : jEnv} {n : Nat} {X : State → Prop} {Post : Option Value → HP → Prop}  (h : HP)
    (k0 : Post (some (.int ((h.1 3 0) * (h.1 3 1)))) h)
    : jG E mX2_cells n X Post 0 [some (.ref 3)] [] h := by
  refine jr_aload_n (pc' := 1) (i := 0) dX2_cells_0 rfl rfl rfl ?_
  refine jr_get (pc' := 4) jK2 (k := 3) (j := 0) (v := .int (h.1 3 0)) wfX2_9 dX2_cells_1 rfl (by decide) rfl (by decide) rfl ?_
  refine jr_aload_n (pc' := 5) (i := 0) dX2_cells_4 rfl rfl rfl ?_
  refine jr_get (pc' := 8) jK2 (k := 3) (j := 1) (v := .int (h.1 3 1)) wfX2_15 dX2_cells_5 rfl (by decide) rfl (by decide) rfl ?_
  refine jr_imul (pc' := 9)  dX2_cells_8 rfl  ?_
  exact jr_iret dX2_cells_9 rfl rfl (k0)

theorem q_isMan3_0 {E : jEnv} {n : Nat} {X : State → Prop} {Post : Option Value → HP → Prop} (x : Int32) (h : HP)
    (k0 : (x < 0) → Post (some (.int 0)) h)
    (k1 : (¬ x < 0) → ((h.1 3 3) ≤ x) → Post (some (.int 0)) h)
    (k2 : (¬ x < 0) → (¬ (h.1 3 3) ≤ x) → Post (some (.int 1)) h)
    : jG E mX2_isMan n X Post 0 [some (.ref 3), some (.int x)] [] h := by
  refine jr_iload_n (pc' := 1) (i := 1) dX2_isMan_0 rfl rfl rfl ?_
  by_cases c1 : x < 0
  · refine jr_if_ltT (pc' := 16) dX2_isMan_1 rfl c1 ?_
    refine jr_iconst (pc' := 17) (v := 0) dX2_isMan_16 rfl (by decide) ?_
    exact jr_iret dX2_isMan_17 rfl rfl (k0 c1)
  · refine jr_if_ltF (pc' := 4) (tgt := 16) dX2_isMan_1 rfl rfl c1 ?_
    refine jr_iload_n (pc' := 5) (i := 1) dX2_isMan_4 rfl rfl rfl ?_
    refine jr_aload_n (pc' := 6) (i := 0) dX2_isMan_5 rfl rfl rfl ?_
    refine jr_get (pc' := 9) jK2 (k := 3) (j := 3) (v := .int (h.1 3 3)) wfX2_21 dX2_isMan_6 rfl (by decide) rfl (by decide) rfl ?_
    by_cases c2 : (h.1 3 3) ≤ x
    · refine jr_icmp_geT (pc' := 16) dX2_isMan_9 rfl c2 ?_
      refine jr_iconst (pc' := 17) (v := 0) dX2_isMan_16 rfl (by decide) ?_
      exact jr_iret dX2_isMan_17 rfl rfl (k1 c1 c2)
    · refine jr_icmp_geF (pc' := 12) (tgt := 16) dX2_isMan_9 rfl rfl c2 ?_
      refine jr_iconst (pc' := 13) (v := 1) dX2_isMan_12 rfl (by decide) ?_
      refine jr_goto (pc' := 17) dX2_isMan_13 rfl ?_
      exact jr_iret dX2_isMan_17 rfl rfl (k2 c1 c2)

theorem q_isNews3_0 {E : jEnv} {n : Nat} {X : State → Prop} {Post : Option Value → HP → Prop} (x : Int32) (h : HP)
    (k0 : (x < 0) → Post (some (.int 0)) h)
    (k1 : (¬ x < 0) → ((h.1 3 4) ≤ x) → Post (some (.int 0)) h)
    (k2 : (¬ x < 0) → (¬ (h.1 3 4) ≤ x) → Post (some (.int 1)) h)
    : jG E mX2_isNews n X Post 0 [some (.ref 3), some (.int x)] [] h := by
  refine jr_iload_n (pc' := 1) (i := 1) dX2_isNews_0 rfl rfl rfl ?_
  by_cases c1 : x < 0
  · refine jr_if_ltT (pc' := 16) dX2_isNews_1 rfl c1 ?_
    refine jr_iconst (pc' := 17) (v := 0) dX2_isNews_16 rfl (by decide) ?_
    exact jr_iret dX2_isNews_17 rfl rfl (k0 c1)
  · refine jr_if_ltF (pc' := 4) (tgt := 16) dX2_isNews_1 rfl rfl c1 ?_
    refine jr_iload_n (pc' := 5) (i := 1) dX2_isNews_4 rfl rfl rfl ?_
    refine jr_aload_n (pc' := 6) (i := 0) dX2_isNews_5 rfl rfl rfl ?_
    refine jr_get (pc' := 9) jK2 (k := 3) (j := 4) (v := .int (h.1 3 4)) wfX2_24 dX2_isNews_6 rfl (by decide) rfl (by decide) rfl ?_
    by_cases c2 : (h.1 3 4) ≤ x
    · refine jr_icmp_geT (pc' := 16) dX2_isNews_9 rfl c2 ?_
      refine jr_iconst (pc' := 17) (v := 0) dX2_isNews_16 rfl (by decide) ?_
      exact jr_iret dX2_isNews_17 rfl rfl (k1 c1 c2)
    · refine jr_icmp_geF (pc' := 12) (tgt := 16) dX2_isNews_9 rfl rfl c2 ?_
      refine jr_iconst (pc' := 13) (v := 1) dX2_isNews_12 rfl (by decide) ?_
      refine jr_goto (pc' := 17) dX2_isNews_13 rfl ?_
      exact jr_iret dX2_isNews_17 rfl rfl (k2 c1 c2)

theorem q_cellOf3_0 {E : jEnv} {n : Nat} {X : State → Prop} {Post : Option Value → HP → Prop} (x : Int32) (y : Int32) (h : HP)
    (k0 : Post (some (.int ((y * (h.1 3 0)) + x))) h)
    : jG E mX2_cellOf n X Post 0 [some (.ref 3), some (.int x), some (.int y)] [] h := by
  refine jr_iload_n (pc' := 1) (i := 2) dX2_cellOf_0 rfl rfl rfl ?_
  refine jr_aload_n (pc' := 2) (i := 0) dX2_cellOf_1 rfl rfl rfl ?_
  refine jr_get (pc' := 5) jK2 (k := 3) (j := 0) (v := .int (h.1 3 0)) wfX2_9 dX2_cellOf_2 rfl (by decide) rfl (by decide) rfl ?_
  refine jr_imul (pc' := 6)  dX2_cellOf_5 rfl  ?_
  refine jr_iload_n (pc' := 7) (i := 1) dX2_cellOf_6 rfl rfl rfl ?_
  refine jr_iadd (pc' := 8)  dX2_cellOf_7 rfl  ?_
  exact jr_iret dX2_cellOf_8 rfl rfl (k0)

theorem q_cellOf11_0 {E : jEnv} {n : Nat} {X : State → Prop} {Post : Option Value → HP → Prop} (x : Int32) (y : Int32) (h : HP)
    (k0 : Post (some (.int ((y * (h.1 11 0)) + x))) h)
    : jG E mX2_cellOf n X Post 0 [some (.ref 11), some (.int x), some (.int y)] [] h := by
  refine jr_iload_n (pc' := 1) (i := 2) dX2_cellOf_0 rfl rfl rfl ?_
  refine jr_aload_n (pc' := 2) (i := 0) dX2_cellOf_1 rfl rfl rfl ?_
  refine jr_get (pc' := 5) jK2 (k := 11) (j := 0) (v := .int (h.1 11 0)) wfX2_9 dX2_cellOf_2 rfl (by decide) rfl (by decide) rfl ?_
  refine jr_imul (pc' := 6)  dX2_cellOf_5 rfl  ?_
  refine jr_iload_n (pc' := 7) (i := 1) dX2_cellOf_6 rfl rfl rfl ?_
  refine jr_iadd (pc' := 8)  dX2_cellOf_7 rfl  ?_
  exact jr_iret dX2_cellOf_8 rfl rfl (k0)

theorem q_columnOf3_0 {E : jEnv} {n : Nat} {X : State → Prop} {Post : Option Value → HP → Prop} (x : Int32) (h : HP)
    (k0 : ((h.1 3 0) ≤ 0) → Post (some (.int 0)) h)
    (b0 : (¬ (h.1 3 0) ≤ 0) → ¬ (h.1 3 0) = 0)
    (k1 : (¬ (h.1 3 0) ≤ 0) → Post (some (.int (x - x / (h.1 3 0) * (h.1 3 0)))) h)
    : jG E mX2_columnOf n X Post 0 [some (.ref 3), some (.int x)] [] h := by
  refine jr_aload_n (pc' := 1) (i := 0) dX2_columnOf_0 rfl rfl rfl ?_
  refine jr_get (pc' := 4) jK2 (k := 3) (j := 0) (v := .int (h.1 3 0)) wfX2_9 dX2_columnOf_1 rfl (by decide) rfl (by decide) rfl ?_
  by_cases c1 : (h.1 3 0) ≤ 0
  · refine jr_if_leT (pc' := 16) dX2_columnOf_4 rfl c1 ?_
    refine jr_iconst (pc' := 17) (v := 0) dX2_columnOf_16 rfl (by decide) ?_
    exact jr_iret dX2_columnOf_17 rfl rfl (k0 c1)
  · refine jr_if_leF (pc' := 7) (tgt := 16) dX2_columnOf_4 rfl rfl c1 ?_
    refine jr_iload_n (pc' := 8) (i := 1) dX2_columnOf_7 rfl rfl rfl ?_
    refine jr_aload_n (pc' := 9) (i := 0) dX2_columnOf_8 rfl rfl rfl ?_
    refine jr_get (pc' := 12) jK2 (k := 3) (j := 0) (v := .int (h.1 3 0)) wfX2_9 dX2_columnOf_9 rfl (by decide) rfl (by decide) rfl ?_
    refine jr_irem (pc' := 13)  dX2_columnOf_12 rfl (b0 c1) ?_
    refine jr_goto (pc' := 17) dX2_columnOf_13 rfl ?_
    exact jr_iret dX2_columnOf_17 rfl rfl (k1 c1)

theorem q_rowOf3_0 {E : jEnv} {n : Nat} {X : State → Prop} {Post : Option Value → HP → Prop} (x : Int32) (h : HP)
    (k0 : ((h.1 3 0) ≤ 0) → Post (some (.int 0)) h)
    (b0 : (¬ (h.1 3 0) ≤ 0) → ¬ (h.1 3 0) = 0)
    (k1 : (¬ (h.1 3 0) ≤ 0) → Post (some (.int (x / (h.1 3 0)))) h)
    : jG E mX2_rowOf n X Post 0 [some (.ref 3), some (.int x)] [] h := by
  refine jr_aload_n (pc' := 1) (i := 0) dX2_rowOf_0 rfl rfl rfl ?_
  refine jr_get (pc' := 4) jK2 (k := 3) (j := 0) (v := .int (h.1 3 0)) wfX2_9 dX2_rowOf_1 rfl (by decide) rfl (by decide) rfl ?_
  by_cases c1 : (h.1 3 0) ≤ 0
  · refine jr_if_leT (pc' := 16) dX2_rowOf_4 rfl c1 ?_
    refine jr_iconst (pc' := 17) (v := 0) dX2_rowOf_16 rfl (by decide) ?_
    exact jr_iret dX2_rowOf_17 rfl rfl (k0 c1)
  · refine jr_if_leF (pc' := 7) (tgt := 16) dX2_rowOf_4 rfl rfl c1 ?_
    refine jr_iload_n (pc' := 8) (i := 1) dX2_rowOf_7 rfl rfl rfl ?_
    refine jr_aload_n (pc' := 9) (i := 0) dX2_rowOf_8 rfl rfl rfl ?_
    refine jr_get (pc' := 12) jK2 (k := 3) (j := 0) (v := .int (h.1 3 0)) wfX2_9 dX2_rowOf_9 rfl (by decide) rfl (by decide) rfl ?_
    refine jr_idiv (pc' := 13)  dX2_rowOf_12 rfl (b0 c1) ?_
    refine jr_goto (pc' := 17) dX2_rowOf_13 rfl ?_
    exact jr_iret dX2_rowOf_17 rfl rfl (k1 c1)

theorem q_has_0 {E : jEnv} {n : Nat} {X : State → Prop} {Post : Option Value → HP → Prop} (x : Int64) (k : Int32) (h : HP)
    (k0 : ((lg_cmp ((x >>> (k.toInt64 &&& 63)) &&& 1) 0) = 0) → Post (some (.int 0)) h)
    (k1 : (¬ (lg_cmp ((x >>> (k.toInt64 &&& 63)) &&& 1) 0) = 0) → Post (some (.int 1)) h)
    : jG E mX7_has n X Post 0 [some (.long x), none, some (.int k)] [] h := by
  refine jr_lload_n (pc' := 1) (i := 0) dX7_has_0 rfl rfl rfl ?_
  refine jr_iload_n (pc' := 2) (i := 2) dX7_has_1 rfl rfl rfl ?_
  refine jr_lshr (pc' := 3)  dX7_has_2 rfl  ?_
  refine jr_lconst (pc' := 4) (v := 1) dX7_has_3 rfl (by decide) ?_
  refine jr_land (pc' := 5)  dX7_has_4 rfl  ?_
  refine jr_lconst (pc' := 6) (v := 0) dX7_has_5 rfl (by decide) ?_
  refine jr_lcmp (pc' := 7)  dX7_has_6 rfl  ?_
  by_cases c1 : (lg_cmp ((x >>> (k.toInt64 &&& 63)) &&& 1) 0) = 0
  · refine jr_if_eqT (pc' := 14) dX7_has_7 rfl c1 ?_
    refine jr_iconst (pc' := 15) (v := 0) dX7_has_14 rfl (by decide) ?_
    exact jr_iret dX7_has_15 rfl rfl (k0 c1)
  · refine jr_if_eqF (pc' := 10) (tgt := 14) dX7_has_7 rfl rfl c1 ?_
    refine jr_iconst (pc' := 11) (v := 1) dX7_has_10 rfl (by decide) ?_
    refine jr_goto (pc' := 15) dX7_has_11 rfl ?_
    exact jr_iret dX7_has_15 rfl rfl (k1 c1)

theorem q_tideOf3_0 {E : jEnv} {n : Nat} {X : State → Prop} {Post : Option Value → HP → Prop} (x : Int32) (h : HP)
    (k0 : ((h.1 3 2) ≤ 0) → Post (some (.int 0)) h)
    (k1 : (¬ (h.1 3 2) ≤ 0) → (x ≤ 0) → Post (some (.int 0)) h)
    (b0 : (¬ (h.1 3 2) ≤ 0) → (¬ x ≤ 0) → ¬ (h.1 3 2) = 0)
    (k2 : (¬ (h.1 3 2) ≤ 0) → (¬ x ≤ 0) → Post (some (.int (x - x / (h.1 3 2) * (h.1 3 2)))) h)
    : jG E mX2_tideOf n X Post 0 [some (.ref 3), some (.int x)] [] h := by
  refine jr_aload_n (pc' := 1) (i := 0) dX2_tideOf_0 rfl rfl rfl ?_
  refine jr_get (pc' := 4) jK2 (k := 3) (j := 2) (v := .int (h.1 3 2)) wfX2_18 dX2_tideOf_1 rfl (by decide) rfl (by decide) rfl ?_
  by_cases c1 : (h.1 3 2) ≤ 0
  · refine jr_if_leT (pc' := 20) dX2_tideOf_4 rfl c1 ?_
    refine jr_iconst (pc' := 21) (v := 0) dX2_tideOf_20 rfl (by decide) ?_
    exact jr_iret dX2_tideOf_21 rfl rfl (k0 c1)
  · refine jr_if_leF (pc' := 7) (tgt := 20) dX2_tideOf_4 rfl rfl c1 ?_
    refine jr_iload_n (pc' := 8) (i := 1) dX2_tideOf_7 rfl rfl rfl ?_
    by_cases c2 : x ≤ 0
    · refine jr_if_leT (pc' := 20) dX2_tideOf_8 rfl c2 ?_
      refine jr_iconst (pc' := 21) (v := 0) dX2_tideOf_20 rfl (by decide) ?_
      exact jr_iret dX2_tideOf_21 rfl rfl (k1 c1 c2)
    · refine jr_if_leF (pc' := 11) (tgt := 20) dX2_tideOf_8 rfl rfl c2 ?_
      refine jr_iload_n (pc' := 12) (i := 1) dX2_tideOf_11 rfl rfl rfl ?_
      refine jr_aload_n (pc' := 13) (i := 0) dX2_tideOf_12 rfl rfl rfl ?_
      refine jr_get (pc' := 16) jK2 (k := 3) (j := 2) (v := .int (h.1 3 2)) wfX2_18 dX2_tideOf_13 rfl (by decide) rfl (by decide) rfl ?_
      refine jr_irem (pc' := 17)  dX2_tideOf_16 rfl (b0 c1 c2) ?_
      refine jr_goto (pc' := 21) dX2_tideOf_17 rfl ?_
      exact jr_iret dX2_tideOf_21 rfl rfl (k2 c1 c2)

theorem q_waterOn3_0 {E : jEnv} {n : Nat} {X : State → Prop} {Post : Option Value → HP → Prop} (x : Int32) (t : Int32) (h : HP)
    (k0 : jCall E mX2_tideOf n [.ref 3, .int t] h (fun v h2 => jG E mX2_waterOn (n + 1) X Post 5 [some (.ref 3), some (.int x), none, none, none] (v.toList ++ []) h2))
    : jG E mX2_waterOn (n + 1) X Post 0 [some (.ref 3), some (.int x), some (.int t), none, none] [] h := by
  refine jr_aload_n (pc' := 1) (i := 0) dX2_waterOn_0 rfl rfl rfl ?_
  refine jr_iload_n (pc' := 2) (i := 2) dX2_waterOn_1 rfl rfl rfl ?_
  obtain ⟨P1, hC1, hK1⟩ := k0
  exact jr_callV (pc' := 5) (k := 3) (av := [.int t]) (st := []) sX2_tideOf wmX2_101 dX2_waterOn_2 rfl (by decide) rfl (by decide) rfl rfl rfl (by decide) rfl hC1 (fun v h2 hp => jG.weak (lv' := [some (.ref 3), some (.int x), none, none, none]) ⟨rfl, rfl, trivial⟩ (hK1 v h2 hp))

theorem q_waterOn3_5 {E : jEnv} {n : Nat} {X : State → Prop} {Post : Option Value → HP → Prop} (a1 : Int32) (s0 : Int32) (h : HP)
    (k0 : (a1 < 0) → Post (some (.int 0)) h)
    (k1 : (¬ a1 < 0) → ((36 : Int32) ≤ a1) → Post (some (.int 0)) h)
    (b0 : (¬ a1 < 0) → (¬ (36 : Int32) ≤ a1) → (s0 < 6) → vp_in a1 36)
    (b1 : (¬ a1 < 0) → (¬ (36 : Int32) ≤ a1) → (s0 < 6) → vp_in s0 6)
    (k2 : (¬ a1 < 0) → (¬ (36 : Int32) ≤ a1) → (s0 < 6) → ((0 : Int32) ≤ (((h.1 4 a1.toNatClampNeg) + (h.1 5 s0.toNatClampNeg)) - 5)) → Post (some (.int (((h.1 4 a1.toNatClampNeg) + (h.1 5 s0.toNatClampNeg)) - 5))) h)
    (k3 : (¬ a1 < 0) → (¬ (36 : Int32) ≤ a1) → (s0 < 6) → (¬ (0 : Int32) ≤ (((h.1 4 a1.toNatClampNeg) + (h.1 5 s0.toNatClampNeg)) - 5)) → Post (some (.int 0)) h)
    (k4 : (¬ a1 < 0) → (¬ (36 : Int32) ≤ a1) → (¬ s0 < 6) → Post (some (.int 0)) h)
    : jG E mX2_waterOn (n + 1) X Post 5 [some (.ref 3), some (.int a1), none, none, none] [.int s0] h := by
  refine jr_istore_n (pc' := 6) (i := 3) (lv' := [some (.ref 3), some (.int a1), none, some (.int s0), none]) dX2_waterOn_5 rfl rfl (by decide) rfl ?_
  refine jr_iload_n (pc' := 7) (i := 1) dX2_waterOn_6 rfl rfl rfl ?_
  by_cases c1 : a1 < 0
  · refine jr_if_ltT (pc' := 28) dX2_waterOn_7 rfl c1 ?_
    refine jr_iconst (pc' := 29) (v := 0) dX2_waterOn_28 rfl (by decide) ?_
    exact jr_iret dX2_waterOn_29 rfl rfl (k0 c1)
  · refine jr_if_ltF (pc' := 10) (tgt := 28) dX2_waterOn_7 rfl rfl c1 ?_
    refine jr_iload_n (pc' := 11) (i := 1) dX2_waterOn_10 rfl rfl rfl ?_
    refine jr_aload_n (pc' := 12) (i := 0) dX2_waterOn_11 rfl rfl rfl ?_
    refine jr_get (pc' := 15) jK2 (k := 3) (j := 9) (v := .ref 4) wfX2_40 dX2_waterOn_12 rfl (by decide) rfl (by decide) rfl ?_
    refine jr_alen (pc' := 16) (v := 36) dX2_waterOn_15 rfl (by decide) (by decide) (by decide) ?_
    by_cases c2 : (36 : Int32) ≤ a1
    · refine jr_icmp_geT (pc' := 28) dX2_waterOn_16 rfl c2 ?_
      refine jr_iconst (pc' := 29) (v := 0) dX2_waterOn_28 rfl (by decide) ?_
      exact jr_iret dX2_waterOn_29 rfl rfl (k1 c1 c2)
    · refine jr_icmp_geF (pc' := 19) (tgt := 28) dX2_waterOn_16 rfl rfl c2 ?_
      refine jr_iload_n (pc' := 20) (i := 3) dX2_waterOn_19 rfl rfl rfl ?_
      refine jr_aload_n (pc' := 21) (i := 0) dX2_waterOn_20 rfl rfl rfl ?_
      refine jr_get (pc' := 24) jK2 (k := 3) (j := 10) (v := .ref 5) wfX2_44 dX2_waterOn_21 rfl (by decide) rfl (by decide) rfl ?_
      refine jr_alen (pc' := 25) (v := 6) dX2_waterOn_24 rfl (by decide) (by decide) (by decide) ?_
      by_cases c3 : s0 < 6
      · refine jr_icmp_ltT (pc' := 30) dX2_waterOn_25 rfl c3 ?_
        refine jr_aload_n (pc' := 31) (i := 0) dX2_waterOn_30 rfl rfl rfl ?_
        refine jr_get (pc' := 34) jK2 (k := 3) (j := 9) (v := .ref 4) wfX2_40 dX2_waterOn_31 rfl (by decide) rfl (by decide) rfl ?_
        refine jr_iload_n (pc' := 35) (i := 1) dX2_waterOn_34 rfl rfl rfl ?_
        refine jr_iald (pc' := 36) (v := h.1 4 a1.toNatClampNeg) dX2_waterOn_35 rfl (by decide) rfl (b0 c1 c2 c3) rfl ?_
        refine jr_aload_n (pc' := 37) (i := 0) dX2_waterOn_36 rfl rfl rfl ?_
        refine jr_get (pc' := 40) jK2 (k := 3) (j := 10) (v := .ref 5) wfX2_44 dX2_waterOn_37 rfl (by decide) rfl (by decide) rfl ?_
        refine jr_iload_n (pc' := 41) (i := 3) dX2_waterOn_40 rfl rfl rfl ?_
        refine jr_iald (pc' := 42) (v := h.1 5 s0.toNatClampNeg) dX2_waterOn_41 rfl (by decide) rfl (b1 c1 c2 c3) rfl ?_
        refine jr_iadd (pc' := 43)  dX2_waterOn_42 rfl  ?_
        refine jr_iconst (pc' := 44) (v := 5) dX2_waterOn_43 rfl (by decide) ?_
        refine jr_isub (pc' := 45)  dX2_waterOn_44 rfl  ?_
        refine jr_istore (pc' := 47) (i := 4) (lv' := [some (.ref 3), some (.int a1), none, some (.int s0), some (.int (((h.1 4 a1.toNatClampNeg) + (h.1 5 s0.toNatClampNeg)) - 5))]) dX2_waterOn_45 rfl (by decide) rfl ?_
        refine jr_iload (pc' := 49) (i := 4) dX2_waterOn_47 rfl rfl ?_
        by_cases c4 : (0 : Int32) ≤ (((h.1 4 a1.toNatClampNeg) + (h.1 5 s0.toNatClampNeg)) - 5)
        · refine jr_if_geT (pc' := 56) dX2_waterOn_49 rfl c4 ?_
          refine jr_iload (pc' := 58) (i := 4) dX2_waterOn_56 rfl rfl ?_
          exact jr_iret dX2_waterOn_58 rfl rfl (k2 c1 c2 c3 c4)
        · refine jr_if_geF (pc' := 52) (tgt := 56) dX2_waterOn_49 rfl rfl c4 ?_
          refine jr_iconst (pc' := 53) (v := 0) dX2_waterOn_52 rfl (by decide) ?_
          refine jr_goto (pc' := 58) dX2_waterOn_53 rfl ?_
          exact jr_iret dX2_waterOn_58 rfl rfl (k3 c1 c2 c3 c4)
      · refine jr_icmp_ltF (pc' := 28) (tgt := 30) dX2_waterOn_25 rfl rfl c3 ?_
        refine jr_iconst (pc' := 29) (v := 0) dX2_waterOn_28 rfl (by decide) ?_
        exact jr_iret dX2_waterOn_29 rfl rfl (k4 c1 c2 c3)

theorem q_depthOf18_0 {E : jEnv} {n : Nat} {X : State → Prop} {Post : Option Value → HP → Prop} (x : Int32) (t : Int32) (h : HP)
    (k0 : jCall E mX7_has n [.long (h.2 18 3), .int x] h (fun v h2 => jG E mX5_depthOf (n + 1) X Post 8 [some (.ref 18), some (.int x), some (.int t)] (v.toList ++ []) h2))
    : jG E mX5_depthOf (n + 1) X Post 0 [some (.ref 18), some (.int x), some (.int t)] [] h := by
  refine jr_aload_n (pc' := 1) (i := 0) dX5_depthOf_0 rfl rfl rfl ?_
  refine jr_get (pc' := 4) jK5 (k := 18) (j := 3) (v := .long (h.2 18 3)) wfX5_18 dX5_depthOf_1 rfl (by decide) rfl (by decide) rfl ?_
  refine jr_iload_n (pc' := 5) (i := 1) dX5_depthOf_4 rfl rfl rfl ?_
  obtain ⟨P1, hC1, hK1⟩ := k0
  exact jr_callSN (pc' := 8) (av := [.long (h.2 18 3), .int x]) (st := []) sX7_has (host := "StiltHeralds") (by decide +kernel) dX5_depthOf_5 rfl rfl (by decide) rfl hC1 (fun v h2 hp => jG.weak (lv' := [some (.ref 18), some (.int x), some (.int t)]) ⟨rfl, rfl, rfl, trivial⟩ (hK1 v h2 hp))

theorem q_depthOf18_8 {E : jEnv} {n : Nat} {X : State → Prop} {Post : Option Value → HP → Prop} (a1 : Int32) (a2 : Int32) (s0 : Int32) (h : HP)
    (k0 : (s0 = 0) → jCall E mX2_waterOn n [.ref 3, .int a1, .int a2] h (fun v h2 => jG E mX5_depthOf (n + 1) X Post 24 [none, none, none] (v.toList ++ []) h2))
    (k1 : (¬ s0 = 0) → Post (some (.int 0)) h)
    : jG E mX5_depthOf (n + 1) X Post 8 [some (.ref 18), some (.int a1), some (.int a2)] [.int s0] h := by
  by_cases c1 : s0 = 0
  · refine jr_if_eqT (pc' := 15) dX5_depthOf_8 rfl c1 ?_
    refine jr_aload_n (pc' := 16) (i := 0) dX5_depthOf_15 rfl rfl rfl ?_
    refine jr_get (pc' := 19) jK5 (k := 18) (j := 0) (v := .ref 3) wfX5_38 dX5_depthOf_16 rfl (by decide) rfl (by decide) rfl ?_
    refine jr_iload_n (pc' := 20) (i := 1) dX5_depthOf_19 rfl rfl rfl ?_
    refine jr_iload_n (pc' := 21) (i := 2) dX5_depthOf_20 rfl rfl rfl ?_
    obtain ⟨P1, hC1, hK1⟩ := k0 c1
    exact jr_callV (pc' := 24) (k := 3) (av := [.int a1, .int a2]) (st := []) sX2_waterOn wmX5_69 dX5_depthOf_21 rfl (by decide) rfl (by decide) rfl rfl rfl (by decide) rfl hC1 (fun v h2 hp => jG.weak (lv' := [none, none, none]) trivial (hK1 v h2 hp))
  · refine jr_if_eqF (pc' := 11) (tgt := 15) dX5_depthOf_8 rfl rfl c1 ?_
    refine jr_iconst (pc' := 12) (v := 0) dX5_depthOf_11 rfl (by decide) ?_
    refine jr_goto (pc' := 24) dX5_depthOf_12 rfl ?_
    exact jr_iret dX5_depthOf_24 rfl rfl (k1 c1)

theorem q_depthOf18_24 {E : jEnv} {n : Nat} {X : State → Prop} {Post : Option Value → HP → Prop} (s0 : Int32) (h : HP)
    (k0 : Post (some (.int s0)) h)
    : jG E mX5_depthOf (n + 1) X Post 24 [none, none, none] [.int s0] h := by
  exact jr_iret dX5_depthOf_24 rfl rfl (k0)

theorem q_knownAt18_0 {E : jEnv} {n : Nat} {X : State → Prop} {Post : Option Value → HP → Prop} (x : Int32) (h : HP)
    (k0 : jG E mX5_knownAt n X Post 4 [some (.ref 18), some (.int x), some (.int 0), some (.int 0)] [] h)
    : jG E mX5_knownAt n X Post 0 [some (.ref 18), some (.int x), none, none] [] h := by
  refine jr_iconst (pc' := 1) (v := 0) dX5_knownAt_0 rfl (by decide) ?_
  refine jr_istore_n (pc' := 2) (i := 2) (lv' := [some (.ref 18), some (.int x), some (.int 0), none]) dX5_knownAt_1 rfl rfl (by decide) rfl ?_
  refine jr_iconst (pc' := 3) (v := 0) dX5_knownAt_2 rfl (by decide) ?_
  refine jr_istore_n (pc' := 4) (i := 3) (lv' := [some (.ref 18), some (.int x), some (.int 0), some (.int 0)]) dX5_knownAt_3 rfl rfl (by decide) rfl ?_
  exact jG.weak (lv' := [some (.ref 18), some (.int x), some (.int 0), some (.int 0)]) ⟨rfl, rfl, rfl, rfl, trivial⟩ (k0)

theorem q_knownAt18_4 {E : jEnv} {n : Nat} {X : State → Prop} {Post : Option Value → HP → Prop} (a1 : Int32) (a2 : Int32) (a3 : Int32) (h : HP)
    (k0 : ((h.1 3 3) ≤ a3) → Post (some (.int a2)) h)
    (b0 : (¬ (h.1 3 3) ≤ a3) → vp_in a3 4)
    (b1 : (¬ (h.1 3 3) ≤ a3) → ((h.1 19 a3.toNatClampNeg) = a1) → vp_in a3 4)
    (k1 : (¬ (h.1 3 3) ≤ a3) → ((h.1 19 a3.toNatClampNeg) = a1) → jG E mX5_knownAt n X Post 4 [some (.ref 18), some (.int a1), some (.int (a2 ||| (h.1 21 a3.toNatClampNeg))), some (.int (a3 + 1))] [] h)
    (k2 : (¬ (h.1 3 3) ≤ a3) → (¬ (h.1 19 a3.toNatClampNeg) = a1) → jG E mX5_knownAt n X Post 4 [some (.ref 18), some (.int a1), some (.int a2), some (.int (a3 + 1))] [] h)
    : jG E mX5_knownAt n X Post 4 [some (.ref 18), some (.int a1), some (.int a2), some (.int a3)] [] h := by
  refine jr_iload_n (pc' := 5) (i := 3) dX5_knownAt_4 rfl rfl rfl ?_
  refine jr_aload_n (pc' := 6) (i := 0) dX5_knownAt_5 rfl rfl rfl ?_
  refine jr_get (pc' := 9) jK5 (k := 18) (j := 0) (v := .ref 3) wfX5_38 dX5_knownAt_6 rfl (by decide) rfl (by decide) rfl ?_
  refine jr_get (pc' := 12) jK2 (k := 3) (j := 3) (v := .int (h.1 3 3)) wfX5_79 dX5_knownAt_9 rfl (by decide) rfl (by decide) rfl ?_
  by_cases c1 : (h.1 3 3) ≤ a3
  · refine jr_icmp_geT (pc' := 40) dX5_knownAt_12 rfl c1 ?_
    refine jr_iload_n (pc' := 41) (i := 2) dX5_knownAt_40 rfl rfl rfl ?_
    exact jr_iret dX5_knownAt_41 rfl rfl (k0 c1)
  · refine jr_icmp_geF (pc' := 15) (tgt := 40) dX5_knownAt_12 rfl rfl c1 ?_
    refine jr_aload_n (pc' := 16) (i := 0) dX5_knownAt_15 rfl rfl rfl ?_
    refine jr_get (pc' := 19) jK5 (k := 18) (j := 4) (v := .ref 19) wfX5_22 dX5_knownAt_16 rfl (by decide) rfl (by decide) rfl ?_
    refine jr_iload_n (pc' := 20) (i := 3) dX5_knownAt_19 rfl rfl rfl ?_
    refine jr_iald (pc' := 21) (v := h.1 19 a3.toNatClampNeg) dX5_knownAt_20 rfl (by decide) rfl (b0 c1) rfl ?_
    refine jr_iload_n (pc' := 22) (i := 1) dX5_knownAt_21 rfl rfl rfl ?_
    by_cases c2 : (h.1 19 a3.toNatClampNeg) = a1
    · refine jr_icmp_neF (pc' := 25) (tgt := 34) dX5_knownAt_22 rfl rfl c2 ?_
      refine jr_iload_n (pc' := 26) (i := 2) dX5_knownAt_25 rfl rfl rfl ?_
      refine jr_aload_n (pc' := 27) (i := 0) dX5_knownAt_26 rfl rfl rfl ?_
      refine jr_get (pc' := 30) jK5 (k := 18) (j := 6) (v := .ref 21) wfX5_29 dX5_knownAt_27 rfl (by decide) rfl (by decide) rfl ?_
      refine jr_iload_n (pc' := 31) (i := 3) dX5_knownAt_30 rfl rfl rfl ?_
      refine jr_iald (pc' := 32) (v := h.1 21 a3.toNatClampNeg) dX5_knownAt_31 rfl (by decide) rfl (b1 c1 c2) rfl ?_
      refine jr_ior (pc' := 33)  dX5_knownAt_32 rfl  ?_
      refine jr_istore_n (pc' := 34) (i := 2) (lv' := [some (.ref 18), some (.int a1), some (.int (a2 ||| (h.1 21 a3.toNatClampNeg))), some (.int a3)]) dX5_knownAt_33 rfl rfl (by decide) rfl ?_
      refine jr_iinc (pc' := 37) (i := 3) (v := (a3 + 1)) (lv' := [some (.ref 18), some (.int a1), some (.int (a2 ||| (h.1 21 a3.toNatClampNeg))), some (.int (a3 + 1))]) dX5_knownAt_34 rfl rfl (congrArg (a3 + ·) (by decide)) (by decide) rfl ?_
      refine jr_goto (pc' := 4) dX5_knownAt_37 rfl ?_
      exact jG.weak (lv' := [some (.ref 18), some (.int a1), some (.int (a2 ||| (h.1 21 a3.toNatClampNeg))), some (.int (a3 + 1))]) ⟨rfl, rfl, rfl, rfl, trivial⟩ (k1 c1 c2)
    · refine jr_icmp_neT (pc' := 34) dX5_knownAt_22 rfl c2 ?_
      refine jr_iinc (pc' := 37) (i := 3) (v := (a3 + 1)) (lv' := [some (.ref 18), some (.int a1), some (.int a2), some (.int (a3 + 1))]) dX5_knownAt_34 rfl rfl (congrArg (a3 + ·) (by decide)) (by decide) rfl ?_
      refine jr_goto (pc' := 4) dX5_knownAt_37 rfl ?_
      exact jG.weak (lv' := [some (.ref 18), some (.int a1), some (.int a2), some (.int (a3 + 1))]) ⟨rfl, rfl, rfl, rfl, trivial⟩ (k2 c1 c2)

