theorem q_MocodeOf_0 {E : jEnv} {n : Nat} {X : State → Prop} {Post : Option Value → HP → Prop} (x : Int32) (h : HP)
    (b0 : ¬ (h.1 52 0) = 0)
    (b1 : ¬ (h.1 52 0) = 0)
    (k0 : Post (some (.int ((10 * (x - x / (h.1 52 0) * (h.1 52 0))) + (x / (h.1 52 0))))) h)
    : jG E mX8_codeOf n X Post 0 [some (.ref 52), some (.int x)] [] h := by
  refine jr_bipush (pc' := 2) (v := 10) dX8_codeOf_0 rfl (by decide) ?_
  refine jr_iload_n (pc' := 3) (i := 1) dX8_codeOf_2 rfl rfl rfl ?_
  refine jr_aload_n (pc' := 4) (i := 0) dX8_codeOf_3 rfl rfl rfl ?_
  refine jr_get (pc' := 7) jK8 (k := 52) (j := 0) (v := .int (h.1 52 0)) wfX8_76 dX8_codeOf_4 rfl (by decide) rfl (by decide) rfl ?_
  refine jr_irem (pc' := 8)  dX8_codeOf_7 rfl (b0) ?_
  refine jr_imul (pc' := 9)  dX8_codeOf_8 rfl  ?_
  refine jr_iload_n (pc' := 10) (i := 1) dX8_codeOf_9 rfl rfl rfl ?_
  refine jr_aload_n (pc' := 11) (i := 0) dX8_codeOf_10 rfl rfl rfl ?_
  refine jr_get (pc' := 14) jK8 (k := 52) (j := 0) (v := .int (h.1 52 0)) wfX8_76 dX8_codeOf_11 rfl (by decide) rfl (by decide) rfl ?_
  refine jr_idiv (pc' := 15)  dX8_codeOf_14 rfl (b1) ?_
  refine jr_iadd (pc' := 16)  dX8_codeOf_15 rfl  ?_
  exact jr_iret dX8_codeOf_16 rfl rfl (k0)

theorem q_Modepth_0 {E : jEnv} {n : Nat} {X : State → Prop} {Post : Option Value → HP → Prop} (x : Int32) (y : Int32) (z : Int32) (h : HP)
    (k0 : jCall E mX8_cell n [.ref 52, .int x, .int y] h (fun v h2 => jG E mX8_depth (n + 1) X Post 6 [some (.ref 52), some (.int x), some (.int y), some (.int z)] (v.toList ++ []) h2))
    : jG E mX8_depth (n + 1) X Post 0 [some (.ref 52), some (.int x), some (.int y), some (.int z)] [] h := by
  refine jr_aload_n (pc' := 1) (i := 0) dX8_depth_0 rfl rfl rfl ?_
  refine jr_iload_n (pc' := 2) (i := 1) dX8_depth_1 rfl rfl rfl ?_
  refine jr_iload_n (pc' := 3) (i := 2) dX8_depth_2 rfl rfl rfl ?_
  obtain ⟨P1, hC1, hK1⟩ := k0
  exact jr_callV (pc' := 6) (k := 52) (av := [.int x, .int y]) (st := []) sX8_cell wmX8_227 dX8_depth_3 rfl (by decide) rfl (by decide) rfl rfl rfl (Nat.le_of_ble_eq_true rfl) rfl hC1 (fun v h2 hp => jG.weak (lv' := [some (.ref 52), some (.int x), some (.int y), some (.int z)]) ⟨rfl, rfl, rfl, rfl, trivial⟩ (hK1 v h2 hp))

theorem q_Modepth_6 {E : jEnv} {n : Nat} {X : State → Prop} {Post : Option Value → HP → Prop} (a1 : Int32) (a2 : Int32) (a3 : Int32) (s0 : Int32) (h : HP)
    (k0 : (s0 = (-1)) → Post (some (.int (-1000000001))) h)
    (k1 : (¬ s0 = (-1)) → jCall E mX8_in n [.long a3.toInt64, .long 0, .long 99] h (fun v h2 => jG E mX8_depth (n + 1) X Post 22 [some (.ref 52), some (.int a1), some (.int a2), some (.int a3)] (v.toList ++ []) h2))
    : jG E mX8_depth (n + 1) X Post 6 [some (.ref 52), some (.int a1), some (.int a2), some (.int a3)] [.int s0] h := by
  refine jr_iconst (pc' := 7) (v := (-1)) dX8_depth_6 rfl (by decide) ?_
  by_cases c1 : s0 = (-1)
  · refine jr_icmp_neF (pc' := 10) (tgt := 13) dX8_depth_7 rfl rfl c1 ?_
    refine jr_ldc (pc' := 12) (v := (-1000000001)) dX8_depth_10 rfl wcX8_249 ?_
    exact jr_iret dX8_depth_12 rfl rfl (k0 c1)
  · refine jr_icmp_neT (pc' := 13) dX8_depth_7 rfl c1 ?_
    refine jr_iload_n (pc' := 14) (i := 3) dX8_depth_13 rfl rfl rfl ?_
    refine jr_i2l (pc' := 15)  dX8_depth_14 rfl  ?_
    refine jr_lconst (pc' := 16) (v := 0) dX8_depth_15 rfl (by decide) ?_
    refine jr_ldc2 (pc' := 19) (v := 99) dX8_depth_16 rfl wcX8_250 ?_
    obtain ⟨P1, hC1, hK1⟩ := k1 c1
    exact jr_callS (pc' := 22) (av := [.long a3.toInt64, .long 0, .long 99]) (st := []) sX8_in wmX8_79 dX8_depth_19 rfl rfl (Nat.le_of_ble_eq_true rfl) rfl hC1 (fun v h2 hp => jG.weak (lv' := [some (.ref 52), some (.int a1), some (.int a2), some (.int a3)]) ⟨rfl, rfl, rfl, rfl, trivial⟩ (hK1 v h2 hp))

theorem q_Modepth_22 {E : jEnv} {n : Nat} {X : State → Prop} {Post : Option Value → HP → Prop} (a1 : Int32) (a2 : Int32) (a3 : Int32) (s0 : Int32) (h : HP)
    (k0 : (s0 = 0) → Post (some (.int (-1000000002))) h)
    (k1 : (¬ s0 = 0) → jCall E mX8_cell n [.ref 52, .int a1, .int a2] h (fun v h2 => jG E mX8_depth (n + 1) X Post 32 [some (.ref 52), none, none, some (.int a3)] (v.toList ++ [.ref 52]) h2))
    : jG E mX8_depth (n + 1) X Post 22 [some (.ref 52), some (.int a1), some (.int a2), some (.int a3)] [.int s0] h := by
  by_cases c1 : s0 = 0
  · refine jr_if_eqT (pc' := 46) dX8_depth_22 rfl c1 ?_
    refine jr_ldc (pc' := 48) (v := (-1000000002)) dX8_depth_46 rfl wcX8_94 ?_
    exact jr_iret dX8_depth_48 rfl rfl (k0 c1)
  · refine jr_if_eqF (pc' := 25) (tgt := 46) dX8_depth_22 rfl rfl c1 ?_
    refine jr_aload_n (pc' := 26) (i := 0) dX8_depth_25 rfl rfl rfl ?_
    refine jr_aload_n (pc' := 27) (i := 0) dX8_depth_26 rfl rfl rfl ?_
    refine jr_iload_n (pc' := 28) (i := 1) dX8_depth_27 rfl rfl rfl ?_
    refine jr_iload_n (pc' := 29) (i := 2) dX8_depth_28 rfl rfl rfl ?_
    obtain ⟨P1, hC1, hK1⟩ := k1 c1
    exact jr_callV (pc' := 32) (k := 52) (av := [.int a1, .int a2]) (st := [.ref 52]) sX8_cell wmX8_227 dX8_depth_29 rfl (by decide) rfl (by decide) rfl rfl rfl (Nat.le_of_ble_eq_true rfl) rfl hC1 (fun v h2 hp => jG.weak (lv' := [some (.ref 52), none, none, some (.int a3)]) ⟨rfl, rfl, trivial⟩ (hK1 v h2 hp))

theorem q_Modepth_32 {E : jEnv} {n : Nat} {X : State → Prop} {Post : Option Value → HP → Prop} (a3 : Int32) (s0 : Int32) (h : HP)
    (k0 : jCall E mX8_depthOf n [.ref 52, .int s0, .int ((h.1 56 0) + a3)] h (fun v h2 => jG E mX8_depth (n + 1) X Post 43 [none, none, none, none] (v.toList ++ []) h2))
    : jG E mX8_depth (n + 1) X Post 32 [some (.ref 52), none, none, some (.int a3)] [.int s0, .ref 52] h := by
  refine jr_aload_n (pc' := 33) (i := 0) dX8_depth_32 rfl rfl rfl ?_
  refine jr_get (pc' := 36) jK8 (k := 52) (j := 9) (v := .ref 56) wfX8_19 dX8_depth_33 rfl (by decide) rfl (by decide) rfl ?_
  refine jr_iconst (pc' := 37) (v := 0) dX8_depth_36 rfl (by decide) ?_
  refine jr_iald (pc' := 38) (v := h.1 56 0) dX8_depth_37 rfl (by decide) rfl (jvin (by decide)) ((congrArg (h.1 56) (by decide : (0 : Int32).toNatClampNeg = 0)).trans rfl) ?_
  refine jr_iload_n (pc' := 39) (i := 3) dX8_depth_38 rfl rfl rfl ?_
  refine jr_iadd (pc' := 40)  dX8_depth_39 rfl  ?_
  obtain ⟨P1, hC1, hK1⟩ := k0
  exact jr_callV (pc' := 43) (k := 52) (av := [.int s0, .int ((h.1 56 0) + a3)]) (st := []) sX8_depthOf wmX8_234 dX8_depth_40 rfl (by decide) rfl (by decide) rfl rfl rfl (Nat.le_of_ble_eq_true rfl) rfl hC1 (fun v h2 hp => jG.weak (lv' := [none, none, none, none]) trivial (hK1 v h2 hp))

theorem q_Modepth_43 {E : jEnv} {n : Nat} {X : State → Prop} {Post : Option Value → HP → Prop} (s0 : Int32) (h : HP)
    (k0 : Post (some (.int s0)) h)
    : jG E mX8_depth (n + 1) X Post 43 [none, none, none, none] [.int s0] h := by
  refine jr_goto (pc' := 48) dX8_depth_43 rfl ?_
  exact jr_iret dX8_depth_48 rfl rfl (k0)

theorem q_Mocell_0 {E : jEnv} {n : Nat} {X : State → Prop} {Post : Option Value → HP → Prop} (x : Int32) (y : Int32) (h : HP)
    (k0 : jCall E mX8_in n [.long x.toInt64, .long 0, .long (((h.1 52 0) - 1).toInt64)] h (fun v h2 => jG E mX8_cell (n + 1) X Post 13 [some (.ref 52), some (.int x), some (.int y)] (v.toList ++ []) h2))
    : jG E mX8_cell (n + 1) X Post 0 [some (.ref 52), some (.int x), some (.int y)] [] h := by
  refine jr_iload_n (pc' := 1) (i := 1) dX8_cell_0 rfl rfl rfl ?_
  refine jr_i2l (pc' := 2)  dX8_cell_1 rfl  ?_
  refine jr_lconst (pc' := 3) (v := 0) dX8_cell_2 rfl (by decide) ?_
  refine jr_aload_n (pc' := 4) (i := 0) dX8_cell_3 rfl rfl rfl ?_
  refine jr_get (pc' := 7) jK8 (k := 52) (j := 0) (v := .int (h.1 52 0)) wfX8_76 dX8_cell_4 rfl (by decide) rfl (by decide) rfl ?_
  refine jr_iconst (pc' := 8) (v := 1) dX8_cell_7 rfl (by decide) ?_
  refine jr_isub (pc' := 9)  dX8_cell_8 rfl  ?_
  refine jr_i2l (pc' := 10)  dX8_cell_9 rfl  ?_
  obtain ⟨P1, hC1, hK1⟩ := k0
  exact jr_callS (pc' := 13) (av := [.long x.toInt64, .long 0, .long (((h.1 52 0) - 1).toInt64)]) (st := []) sX8_in wmX8_79 dX8_cell_10 rfl rfl (Nat.le_of_ble_eq_true rfl) rfl hC1 (fun v h2 hp => jG.weak (lv' := [some (.ref 52), some (.int x), some (.int y)]) ⟨rfl, rfl, rfl, trivial⟩ (hK1 v h2 hp))

theorem q_Mocell_13 {E : jEnv} {n : Nat} {X : State → Prop} {Post : Option Value → HP → Prop} (a1 : Int32) (a2 : Int32) (s0 : Int32) (h : HP)
    (k0 : (s0 = 0) → Post (some (.int (-1))) h)
    (k1 : (¬ s0 = 0) → jCall E mX8_in n [.long a2.toInt64, .long 0, .long (((h.1 52 1) - 1).toInt64)] h (fun v h2 => jG E mX8_cell (n + 1) X Post 29 [some (.ref 52), some (.int a1), some (.int a2)] (v.toList ++ []) h2))
    : jG E mX8_cell (n + 1) X Post 13 [some (.ref 52), some (.int a1), some (.int a2)] [.int s0] h := by
  by_cases c1 : s0 = 0
  · refine jr_if_eqT (pc' := 43) dX8_cell_13 rfl c1 ?_
    refine jr_iconst (pc' := 44) (v := (-1)) dX8_cell_43 rfl (by decide) ?_
    exact jr_iret dX8_cell_44 rfl rfl (k0 c1)
  · refine jr_if_eqF (pc' := 16) (tgt := 43) dX8_cell_13 rfl rfl c1 ?_
    refine jr_iload_n (pc' := 17) (i := 2) dX8_cell_16 rfl rfl rfl ?_
    refine jr_i2l (pc' := 18)  dX8_cell_17 rfl  ?_
    refine jr_lconst (pc' := 19) (v := 0) dX8_cell_18 rfl (by decide) ?_
    refine jr_aload_n (pc' := 20) (i := 0) dX8_cell_19 rfl rfl rfl ?_
    refine jr_get (pc' := 23) jK8 (k := 52) (j := 1) (v := .int (h.1 52 1)) wfX8_83 dX8_cell_20 rfl (by decide) rfl (by decide) rfl ?_
    refine jr_iconst (pc' := 24) (v := 1) dX8_cell_23 rfl (by decide) ?_
    refine jr_isub (pc' := 25)  dX8_cell_24 rfl  ?_
    refine jr_i2l (pc' := 26)  dX8_cell_25 rfl  ?_
    obtain ⟨P1, hC1, hK1⟩ := k1 c1
    exact jr_callS (pc' := 29) (av := [.long a2.toInt64, .long 0, .long (((h.1 52 1) - 1).toInt64)]) (st := []) sX8_in wmX8_79 dX8_cell_26 rfl rfl (Nat.le_of_ble_eq_true rfl) rfl hC1 (fun v h2 hp => jG.weak (lv' := [some (.ref 52), some (.int a1), some (.int a2)]) ⟨rfl, rfl, rfl, trivial⟩ (hK1 v h2 hp))

theorem q_Mocell_29 {E : jEnv} {n : Nat} {X : State → Prop} {Post : Option Value → HP → Prop} (a1 : Int32) (a2 : Int32) (s0 : Int32) (h : HP)
    (k0 : (s0 = 0) → Post (some (.int (-1))) h)
    (k1 : (¬ s0 = 0) → Post (some (.int (((h.1 52 0) * a2) + a1))) h)
    : jG E mX8_cell (n + 1) X Post 29 [some (.ref 52), some (.int a1), some (.int a2)] [.int s0] h := by
  by_cases c1 : s0 = 0
  · refine jr_if_eqT (pc' := 43) dX8_cell_29 rfl c1 ?_
    refine jr_iconst (pc' := 44) (v := (-1)) dX8_cell_43 rfl (by decide) ?_
    exact jr_iret dX8_cell_44 rfl rfl (k0 c1)
  · refine jr_if_eqF (pc' := 32) (tgt := 43) dX8_cell_29 rfl rfl c1 ?_
    refine jr_aload_n (pc' := 33) (i := 0) dX8_cell_32 rfl rfl rfl ?_
    refine jr_get (pc' := 36) jK8 (k := 52) (j := 0) (v := .int (h.1 52 0)) wfX8_76 dX8_cell_33 rfl (by decide) rfl (by decide) rfl ?_
    refine jr_iload_n (pc' := 37) (i := 2) dX8_cell_36 rfl rfl rfl ?_
    refine jr_imul (pc' := 38)  dX8_cell_37 rfl  ?_
    refine jr_iload_n (pc' := 39) (i := 1) dX8_cell_38 rfl rfl rfl ?_
    refine jr_iadd (pc' := 40)  dX8_cell_39 rfl  ?_
    refine jr_goto (pc' := 44) dX8_cell_40 rfl ?_
    exact jr_iret dX8_cell_44 rfl rfl (k1 c1)

theorem q_ModepthOf_0 {E : jEnv} {n : Nat} {X : State → Prop} {Post : Option Value → HP → Prop} (x : Int32) (y : Int32) (h : HP)
    (b0 : vp_in x 36)
    (b1 : ¬ (h.1 52 4) = 0)
    (b2 : vp_in (y - y / (h.1 52 4) * (h.1 52 4)) 6)
    (b3 : vp_in (26 + x) 62)
    (k0 : ((h.1 56 ((26 + x).toNatClampNeg)) = 1) → Post (some (.int 0)) h)
    (k1 : (¬ (h.1 56 ((26 + x).toNatClampNeg)) = 1) → ((0 : Int32) ≤ (((h.1 53 x.toNatClampNeg) + (h.1 54 ((y - y / (h.1 52 4) * (h.1 52 4)).toNatClampNeg))) - 5)) → Post (some (.int (((h.1 53 x.toNatClampNeg) + (h.1 54 ((y - y / (h.1 52 4) * (h.1 52 4)).toNatClampNeg))) - 5))) h)
    (k2 : (¬ (h.1 56 ((26 + x).toNatClampNeg)) = 1) → (¬ (0 : Int32) ≤ (((h.1 53 x.toNatClampNeg) + (h.1 54 ((y - y / (h.1 52 4) * (h.1 52 4)).toNatClampNeg))) - 5)) → Post (some (.int 0)) h)
    : jG E mX8_depthOf n X Post 0 [some (.ref 52), some (.int x), some (.int y), none] [] h := by
  refine jr_aload_n (pc' := 1) (i := 0) dX8_depthOf_0 rfl rfl rfl ?_
  refine jr_get (pc' := 4) jK8 (k := 52) (j := 2) (v := .ref 53) wfX8_7 dX8_depthOf_1 rfl (by decide) rfl (by decide) rfl ?_
  refine jr_iload_n (pc' := 5) (i := 1) dX8_depthOf_4 rfl rfl rfl ?_
  refine jr_iald (pc' := 6) (v := h.1 53 x.toNatClampNeg) dX8_depthOf_5 rfl (by decide) rfl (b0) rfl ?_
  refine jr_aload_n (pc' := 7) (i := 0) dX8_depthOf_6 rfl rfl rfl ?_
  refine jr_get (pc' := 10) jK8 (k := 52) (j := 3) (v := .ref 54) wfX8_13 dX8_depthOf_7 rfl (by decide) rfl (by decide) rfl ?_
  refine jr_iload_n (pc' := 11) (i := 2) dX8_depthOf_10 rfl rfl rfl ?_
  refine jr_aload_n (pc' := 12) (i := 0) dX8_depthOf_11 rfl rfl rfl ?_
  refine jr_get (pc' := 15) jK8 (k := 52) (j := 4) (v := .int (h.1 52 4)) wfX8_69 dX8_depthOf_12 rfl (by decide) rfl (by decide) rfl ?_
  refine jr_irem (pc' := 16)  dX8_depthOf_15 rfl (b1) ?_
  refine jr_iald (pc' := 17) (v := h.1 54 ((y - y / (h.1 52 4) * (h.1 52 4)).toNatClampNeg)) dX8_depthOf_16 rfl (by decide) rfl (b2) rfl ?_
  refine jr_iadd (pc' := 18)  dX8_depthOf_17 rfl  ?_
  refine jr_iconst (pc' := 19) (v := 5) dX8_depthOf_18 rfl (by decide) ?_
  refine jr_isub (pc' := 20)  dX8_depthOf_19 rfl  ?_
  refine jr_istore_n (pc' := 21) (i := 3) (lv' := [some (.ref 52), some (.int x), some (.int y), some (.int (((h.1 53 x.toNatClampNeg) + (h.1 54 ((y - y / (h.1 52 4) * (h.1 52 4)).toNatClampNeg))) - 5))]) dX8_depthOf_20 rfl rfl (by decide) rfl ?_
  refine jr_aload_n (pc' := 22) (i := 0) dX8_depthOf_21 rfl rfl rfl ?_
  refine jr_get (pc' := 25) jK8 (k := 52) (j := 9) (v := .ref 56) wfX8_19 dX8_depthOf_22 rfl (by decide) rfl (by decide) rfl ?_
  refine jr_bipush (pc' := 27) (v := 26) dX8_depthOf_25 rfl (by decide) ?_
  refine jr_iload_n (pc' := 28) (i := 1) dX8_depthOf_27 rfl rfl rfl ?_
  refine jr_iadd (pc' := 29)  dX8_depthOf_28 rfl  ?_
  refine jr_iald (pc' := 30) (v := h.1 56 ((26 + x).toNatClampNeg)) dX8_depthOf_29 rfl (by decide) rfl (b3) rfl ?_
  refine jr_iconst (pc' := 31) (v := 1) dX8_depthOf_30 rfl (by decide) ?_
  by_cases c1 : (h.1 56 ((26 + x).toNatClampNeg)) = 1
  · refine jr_icmp_eqT (pc' := 38) dX8_depthOf_31 rfl c1 ?_
    refine jr_iconst (pc' := 39) (v := 0) dX8_depthOf_38 rfl (by decide) ?_
    refine jr_goto (pc' := 43) dX8_depthOf_39 rfl ?_
    exact jr_iret dX8_depthOf_43 rfl rfl (k0 c1)
  · refine jr_icmp_eqF (pc' := 34) (tgt := 38) dX8_depthOf_31 rfl rfl c1 ?_
    refine jr_iload_n (pc' := 35) (i := 3) dX8_depthOf_34 rfl rfl rfl ?_
    by_cases c2 : (0 : Int32) ≤ (((h.1 53 x.toNatClampNeg) + (h.1 54 ((y - y / (h.1 52 4) * (h.1 52 4)).toNatClampNeg))) - 5)
    · refine jr_if_geT (pc' := 42) dX8_depthOf_35 rfl c2 ?_
      refine jr_iload_n (pc' := 43) (i := 3) dX8_depthOf_42 rfl rfl rfl ?_
      exact jr_iret dX8_depthOf_43 rfl rfl (k1 c1 c2)
    · refine jr_if_geF (pc' := 38) (tgt := 42) dX8_depthOf_35 rfl rfl c2 ?_
      refine jr_iconst (pc' := 39) (v := 0) dX8_depthOf_38 rfl (by decide) ?_
      refine jr_goto (pc' := 43) dX8_depthOf_39 rfl ?_
      exact jr_iret dX8_depthOf_43 rfl rfl (k2 c1 c2)

theorem q_Moman_0 {E : jEnv} {n : Nat} {X : State → Prop} {Post : Option Value → HP → Prop} (x : Int32) (y : Int32) (h : HP)
    (k0 : jCall E mX8_isMan n [.ref 52, .int x] h (fun v h2 => jG E mX8_man (n + 1) X Post 5 [some (.ref 52), some (.int x), some (.int y)] (v.toList ++ []) h2))
    : jG E mX8_man (n + 1) X Post 0 [some (.ref 52), some (.int x), some (.int y)] [] h := by
  refine jr_aload_n (pc' := 1) (i := 0) dX8_man_0 rfl rfl rfl ?_
  refine jr_iload_n (pc' := 2) (i := 1) dX8_man_1 rfl rfl rfl ?_
  obtain ⟨P1, hC1, hK1⟩ := k0
  exact jr_callV (pc' := 5) (k := 52) (av := [.int x]) (st := []) sX8_isMan wmX8_252 dX8_man_2 rfl (by decide) rfl (by decide) rfl rfl rfl (Nat.le_of_ble_eq_true rfl) rfl hC1 (fun v h2 hp => jG.weak (lv' := [some (.ref 52), some (.int x), some (.int y)]) ⟨rfl, rfl, rfl, trivial⟩ (hK1 v h2 hp))

theorem q_Moman_5 {E : jEnv} {n : Nat} {X : State → Prop} {Post : Option Value → HP → Prop} (a1 : Int32) (a2 : Int32) (s0 : Int32) (h : HP)
    (k0 : (s0 = 0) → Post (some (.int (-1000000001))) h)
    (k1 : (¬ s0 = 0) → jCall E mX8_in n [.long a2.toInt64, .long 0, .long 6] h (fun v h2 => jG E mX8_man (n + 1) X Post 20 [some (.ref 52), some (.int a1), some (.int a2)] (v.toList ++ []) h2))
    : jG E mX8_man (n + 1) X Post 5 [some (.ref 52), some (.int a1), some (.int a2)] [.int s0] h := by
  by_cases c1 : s0 = 0
  · refine jr_if_neF (pc' := 8) (tgt := 11) dX8_man_5 rfl rfl c1 ?_
    refine jr_ldc (pc' := 10) (v := (-1000000001)) dX8_man_8 rfl wcX8_249 ?_
    exact jr_iret dX8_man_10 rfl rfl (k0 c1)
  · refine jr_if_neT (pc' := 11) dX8_man_5 rfl c1 ?_
    refine jr_iload_n (pc' := 12) (i := 2) dX8_man_11 rfl rfl rfl ?_
    refine jr_i2l (pc' := 13)  dX8_man_12 rfl  ?_
    refine jr_lconst (pc' := 14) (v := 0) dX8_man_13 rfl (by decide) ?_
    refine jr_ldc2 (pc' := 17) (v := 6) dX8_man_14 rfl wcX8_255 ?_
    obtain ⟨P1, hC1, hK1⟩ := k1 c1
    exact jr_callS (pc' := 20) (av := [.long a2.toInt64, .long 0, .long 6]) (st := []) sX8_in wmX8_79 dX8_man_17 rfl rfl (Nat.le_of_ble_eq_true rfl) rfl hC1 (fun v h2 hp => jG.weak (lv' := [some (.ref 52), some (.int a1), some (.int a2)]) ⟨rfl, rfl, rfl, trivial⟩ (hK1 v h2 hp))

theorem q_Moman_20 {E : jEnv} {n : Nat} {X : State → Prop} {Post : Option Value → HP → Prop} (a1 : Int32) (a2 : Int32) (s0 : Int32) (h : HP)
    (k0 : (s0 = 0) → Post (some (.int (-1000000002))) h)
    (k1 : (¬ s0 = 0) → ((5 : Int32) ≤ a2) → (a2 = 5) → jCall E mX8_isWet n [.ref 52, .int a1] h (fun v h2 => jG E mX8_man (n + 1) X Post 57 [none, none, none] (v.toList ++ []) h2))
    (b0 : (¬ s0 = 0) → ((5 : Int32) ≤ a2) → (¬ a2 = 5) → vp_in ((2 + (6 * a1)) + 5) 62)
    (k2 : (¬ s0 = 0) → ((5 : Int32) ≤ a2) → (¬ a2 = 5) → Post (some (.int (h.1 56 (((2 + (6 * a1)) + 5).toNatClampNeg)))) h)
    (b1 : (¬ s0 = 0) → (¬ (5 : Int32) ≤ a2) → vp_in ((2 + (6 * a1)) + a2) 62)
    (k3 : (¬ s0 = 0) → (¬ (5 : Int32) ≤ a2) → Post (some (.int (h.1 56 (((2 + (6 * a1)) + a2).toNatClampNeg)))) h)
    : jG E mX8_man (n + 1) X Post 20 [some (.ref 52), some (.int a1), some (.int a2)] [.int s0] h := by
  by_cases c1 : s0 = 0
  · refine jr_if_neF (pc' := 23) (tgt := 26) dX8_man_20 rfl rfl c1 ?_
    refine jr_ldc (pc' := 25) (v := (-1000000002)) dX8_man_23 rfl wcX8_94 ?_
    exact jr_iret dX8_man_25 rfl rfl (k0 c1)
  · refine jr_if_neT (pc' := 26) dX8_man_20 rfl c1 ?_
    refine jr_iload_n (pc' := 27) (i := 2) dX8_man_26 rfl rfl rfl ?_
    refine jr_iconst (pc' := 28) (v := 5) dX8_man_27 rfl (by decide) ?_
    by_cases c2 : (5 : Int32) ≤ a2
    · refine jr_icmp_geT (pc' := 47) dX8_man_28 rfl c2 ?_
      refine jr_iload_n (pc' := 48) (i := 2) dX8_man_47 rfl rfl rfl ?_
      refine jr_iconst (pc' := 49) (v := 5) dX8_man_48 rfl (by decide) ?_
      by_cases c3 : a2 = 5
      · refine jr_icmp_neF (pc' := 52) (tgt := 68) dX8_man_49 rfl rfl c3 ?_
        refine jr_aload_n (pc' := 53) (i := 0) dX8_man_52 rfl rfl rfl ?_
        refine jr_iload_n (pc' := 54) (i := 1) dX8_man_53 rfl rfl rfl ?_
        obtain ⟨P1, hC1, hK1⟩ := k1 c1 c2 c3
        exact jr_callV (pc' := 57) (k := 52) (av := [.int a1]) (st := []) sX8_isWet wmX8_241 dX8_man_54 rfl (by decide) rfl (by decide) rfl rfl rfl (Nat.le_of_ble_eq_true rfl) rfl hC1 (fun v h2 hp => jG.weak (lv' := [none, none, none]) trivial (hK1 v h2 hp))
      · refine jr_icmp_neT (pc' := 68) dX8_man_49 rfl c3 ?_
        refine jr_aload_n (pc' := 69) (i := 0) dX8_man_68 rfl rfl rfl ?_
        refine jr_get (pc' := 72) jK8 (k := 52) (j := 9) (v := .ref 56) wfX8_19 dX8_man_69 rfl (by decide) rfl (by decide) rfl ?_
        refine jr_iconst (pc' := 73) (v := 2) dX8_man_72 rfl (by decide) ?_
        refine jr_bipush (pc' := 75) (v := 6) dX8_man_73 rfl (by decide) ?_
        refine jr_iload_n (pc' := 76) (i := 1) dX8_man_75 rfl rfl rfl ?_
        refine jr_imul (pc' := 77)  dX8_man_76 rfl  ?_
        refine jr_iadd (pc' := 78)  dX8_man_77 rfl  ?_
        refine jr_iconst (pc' := 79) (v := 5) dX8_man_78 rfl (by decide) ?_
        refine jr_iadd (pc' := 80)  dX8_man_79 rfl  ?_
        refine jr_iald (pc' := 81) (v := h.1 56 (((2 + (6 * a1)) + 5).toNatClampNeg)) dX8_man_80 rfl (by decide) rfl (b0 c1 c2 c3) rfl ?_
        exact jr_iret dX8_man_81 rfl rfl (k2 c1 c2 c3)
    · refine jr_icmp_geF (pc' := 31) (tgt := 47) dX8_man_28 rfl rfl c2 ?_
      refine jr_aload_n (pc' := 32) (i := 0) dX8_man_31 rfl rfl rfl ?_
      refine jr_get (pc' := 35) jK8 (k := 52) (j := 9) (v := .ref 56) wfX8_19 dX8_man_32 rfl (by decide) rfl (by decide) rfl ?_
      refine jr_iconst (pc' := 36) (v := 2) dX8_man_35 rfl (by decide) ?_
      refine jr_bipush (pc' := 38) (v := 6) dX8_man_36 rfl (by decide) ?_
      refine jr_iload_n (pc' := 39) (i := 1) dX8_man_38 rfl rfl rfl ?_
      refine jr_imul (pc' := 40)  dX8_man_39 rfl  ?_
      refine jr_iadd (pc' := 41)  dX8_man_40 rfl  ?_
      refine jr_iload_n (pc' := 42) (i := 2) dX8_man_41 rfl rfl rfl ?_
      refine jr_iadd (pc' := 43)  dX8_man_42 rfl  ?_
      refine jr_iald (pc' := 44) (v := h.1 56 (((2 + (6 * a1)) + a2).toNatClampNeg)) dX8_man_43 rfl (by decide) rfl (b1 c1 c2) rfl ?_
      refine jr_goto (pc' := 81) dX8_man_44 rfl ?_
      exact jr_iret dX8_man_81 rfl rfl (k3 c1 c2)

theorem q_Moman_57 {E : jEnv} {n : Nat} {X : State → Prop} {Post : Option Value → HP → Prop} (s0 : Int32) (h : HP)
    (k0 : (s0 = 0) → Post (some (.int 0)) h)
    (k1 : (¬ s0 = 0) → Post (some (.int 1)) h)
    : jG E mX8_man (n + 1) X Post 57 [none, none, none] [.int s0] h := by
  by_cases c1 : s0 = 0
  · refine jr_if_eqT (pc' := 64) dX8_man_57 rfl c1 ?_
    refine jr_iconst (pc' := 65) (v := 0) dX8_man_64 rfl (by decide) ?_
    refine jr_goto (pc' := 81) dX8_man_65 rfl ?_
    exact jr_iret dX8_man_81 rfl rfl (k0 c1)
  · refine jr_if_eqF (pc' := 60) (tgt := 64) dX8_man_57 rfl rfl c1 ?_
    refine jr_iconst (pc' := 61) (v := 1) dX8_man_60 rfl (by decide) ?_
    refine jr_goto (pc' := 81) dX8_man_61 rfl ?_
    exact jr_iret dX8_man_81 rfl rfl (k1 c1)

theorem q_MoisMan_0 {E : jEnv} {n : Nat} {X : State → Prop} {Post : Option Value → HP → Prop} (x : Int32) (h : HP)
    (k0 : jCall E mX8_in n [.long x.toInt64, .long 0, .long (((h.1 52 5) - 1).toInt64)] h (fun v h2 => jG E mX8_isMan (n + 1) X Post 13 [none, none] (v.toList ++ []) h2))
    : jG E mX8_isMan (n + 1) X Post 0 [some (.ref 52), some (.int x)] [] h := by
  refine jr_iload_n (pc' := 1) (i := 1) dX8_isMan_0 rfl rfl rfl ?_
  refine jr_i2l (pc' := 2)  dX8_isMan_1 rfl  ?_
  refine jr_lconst (pc' := 3) (v := 0) dX8_isMan_2 rfl (by decide) ?_
  refine jr_aload_n (pc' := 4) (i := 0) dX8_isMan_3 rfl rfl rfl ?_
  refine jr_get (pc' := 7) jK8 (k := 52) (j := 5) (v := .int (h.1 52 5)) wfX8_86 dX8_isMan_4 rfl (by decide) rfl (by decide) rfl ?_
  refine jr_iconst (pc' := 8) (v := 1) dX8_isMan_7 rfl (by decide) ?_
  refine jr_isub (pc' := 9)  dX8_isMan_8 rfl  ?_
  refine jr_i2l (pc' := 10)  dX8_isMan_9 rfl  ?_
  obtain ⟨P1, hC1, hK1⟩ := k0
  exact jr_callS (pc' := 13) (av := [.long x.toInt64, .long 0, .long (((h.1 52 5) - 1).toInt64)]) (st := []) sX8_in wmX8_79 dX8_isMan_10 rfl rfl (Nat.le_of_ble_eq_true rfl) rfl hC1 (fun v h2 hp => jG.weak (lv' := [none, none]) trivial (hK1 v h2 hp))

theorem q_MoisMan_13 {E : jEnv} {n : Nat} {X : State → Prop} {Post : Option Value → HP → Prop} (s0 : Int32) (h : HP)
    (k0 : Post (some (.int s0)) h)
    (b0 : narrow .boolean (.int s0) = .int s0)
    : jG E mX8_isMan (n + 1) X Post 13 [none, none] [.int s0] h := by
  exact jr_iret dX8_isMan_13 rfl (b0) (k0)

theorem q_MoisWet_0 {E : jEnv} {n : Nat} {X : State → Prop} {Post : Option Value → HP → Prop} (x : Int32) (h : HP)
    (k0 : jCall E mX8_spotOf n [.ref 52, .int x] h (fun v h2 => jG E mX8_isWet (n + 1) X Post 6 [some (.ref 52), some (.int x)] (v.toList ++ [.ref 52]) h2))
    : jG E mX8_isWet (n + 1) X Post 0 [some (.ref 52), some (.int x)] [] h := by
  refine jr_aload_n (pc' := 1) (i := 0) dX8_isWet_0 rfl rfl rfl ?_
  refine jr_aload_n (pc' := 2) (i := 0) dX8_isWet_1 rfl rfl rfl ?_
  refine jr_iload_n (pc' := 3) (i := 1) dX8_isWet_2 rfl rfl rfl ?_
  obtain ⟨P1, hC1, hK1⟩ := k0
  exact jr_callV (pc' := 6) (k := 52) (av := [.int x]) (st := [.ref 52]) sX8_spotOf wmX8_223 dX8_isWet_3 rfl (by decide) rfl (by decide) rfl rfl rfl (Nat.le_of_ble_eq_true rfl) rfl hC1 (fun v h2 hp => jG.weak (lv' := [some (.ref 52), some (.int x)]) ⟨rfl, rfl, trivial⟩ (hK1 v h2 hp))

theorem q_MoisWet_6 {E : jEnv} {n : Nat} {X : State → Prop} {Post : Option Value → HP → Prop} (a1 : Int32) (s0 : Int32) (h : HP)
    (k0 : jCall E mX8_depthOf n [.ref 52, .int s0, .int (h.1 56 0)] h (fun v h2 => jG E mX8_isWet (n + 1) X Post 15 [some (.ref 52), some (.int a1)] (v.toList ++ []) h2))
    : jG E mX8_isWet (n + 1) X Post 6 [some (.ref 52), some (.int a1)] [.int s0, .ref 52] h := by
  refine jr_aload_n (pc' := 7) (i := 0) dX8_isWet_6 rfl rfl rfl ?_
  refine jr_get (pc' := 10) jK8 (k := 52) (j := 9) (v := .ref 56) wfX8_19 dX8_isWet_7 rfl (by decide) rfl (by decide) rfl ?_
  refine jr_iconst (pc' := 11) (v := 0) dX8_isWet_10 rfl (by decide) ?_
  refine jr_iald (pc' := 12) (v := h.1 56 0) dX8_isWet_11 rfl (by decide) rfl (jvin (by decide)) ((congrArg (h.1 56) (by decide : (0 : Int32).toNatClampNeg = 0)).trans rfl) ?_
  obtain ⟨P1, hC1, hK1⟩ := k0
  exact jr_callV (pc' := 15) (k := 52) (av := [.int s0, .int (h.1 56 0)]) (st := []) sX8_depthOf wmX8_234 dX8_isWet_12 rfl (by decide) rfl (by decide) rfl rfl rfl (Nat.le_of_ble_eq_true rfl) rfl hC1 (fun v h2 hp => jG.weak (lv' := [some (.ref 52), some (.int a1)]) ⟨rfl, rfl, trivial⟩ (hK1 v h2 hp))

theorem q_MoisWet_15 {E : jEnv} {n : Nat} {X : State → Prop} {Post : Option Value → HP → Prop} (a1 : Int32) (s0 : Int32) (h : HP)
    (b0 : vp_in ((2 + (6 * a1)) + 2) 62)
    (k0 : (s0 ≤ (h.1 56 (((2 + (6 * a1)) + 2).toNatClampNeg))) → Post (some (.int 0)) h)
    (k1 : (¬ s0 ≤ (h.1 56 (((2 + (6 * a1)) + 2).toNatClampNeg))) → Post (some (.int 1)) h)
    : jG E mX8_isWet (n + 1) X Post 15 [some (.ref 52), some (.int a1)] [.int s0] h := by
  refine jr_aload_n (pc' := 16) (i := 0) dX8_isWet_15 rfl rfl rfl ?_
  refine jr_get (pc' := 19) jK8 (k := 52) (j := 9) (v := .ref 56) wfX8_19 dX8_isWet_16 rfl (by decide) rfl (by decide) rfl ?_
  refine jr_iconst (pc' := 20) (v := 2) dX8_isWet_19 rfl (by decide) ?_
  refine jr_bipush (pc' := 22) (v := 6) dX8_isWet_20 rfl (by decide) ?_
  refine jr_iload_n (pc' := 23) (i := 1) dX8_isWet_22 rfl rfl rfl ?_
  refine jr_imul (pc' := 24)  dX8_isWet_23 rfl  ?_
  refine jr_iadd (pc' := 25)  dX8_isWet_24 rfl  ?_
  refine jr_iconst (pc' := 26) (v := 2) dX8_isWet_25 rfl (by decide) ?_
  refine jr_iadd (pc' := 27)  dX8_isWet_26 rfl  ?_
  refine jr_iald (pc' := 28) (v := h.1 56 (((2 + (6 * a1)) + 2).toNatClampNeg)) dX8_isWet_27 rfl (by decide) rfl (b0) rfl ?_
  by_cases c1 : s0 ≤ (h.1 56 (((2 + (6 * a1)) + 2).toNatClampNeg))
  · refine jr_icmp_leT (pc' := 35) dX8_isWet_28 rfl c1 ?_
    refine jr_iconst (pc' := 36) (v := 0) dX8_isWet_35 rfl (by decide) ?_
    exact jr_iret dX8_isWet_36 rfl rfl (k0 c1)
  · refine jr_icmp_leF (pc' := 31) (tgt := 35) dX8_isWet_28 rfl rfl c1 ?_
    refine jr_iconst (pc' := 32) (v := 1) dX8_isWet_31 rfl (by decide) ?_
    refine jr_goto (pc' := 36) dX8_isWet_32 rfl ?_
    exact jr_iret dX8_isWet_36 rfl rfl (k1 c1)

theorem q_Moorder_0 {E : jEnv} {n : Nat} {X : State → Prop} {Post : Option Value → HP → Prop} (x : Int32) (y : Int32) (h : HP)
    (k0 : jCall E mX8_isMan n [.ref 52, .int x] h (fun v h2 => jG E mX8_order (n + 1) X Post 5 [some (.ref 52), some (.int x), some (.int y), none] (v.toList ++ []) h2))
    : jG E mX8_order (n + 1) X Post 0 [some (.ref 52), some (.int x), some (.int y), none] [] h := by
  refine jr_aload_n (pc' := 1) (i := 0) dX8_order_0 rfl rfl rfl ?_
  refine jr_iload_n (pc' := 2) (i := 1) dX8_order_1 rfl rfl rfl ?_
  obtain ⟨P1, hC1, hK1⟩ := k0
  exact jr_callV (pc' := 5) (k := 52) (av := [.int x]) (st := []) sX8_isMan wmX8_252 dX8_order_2 rfl (by decide) rfl (by decide) rfl rfl rfl (Nat.le_of_ble_eq_true rfl) rfl hC1 (fun v h2 hp => jG.weak (lv' := [some (.ref 52), some (.int x), some (.int y), none]) ⟨rfl, rfl, rfl, trivial⟩ (hK1 v h2 hp))

theorem q_Moorder_5 {E : jEnv} {n : Nat} {X : State → Prop} {Post : Option Value → HP → Prop} (a1 : Int32) (a2 : Int32) (s0 : Int32) (h : HP)
    (k0 : (s0 = 0) → Post (some (.int (-1000000001))) h)
    (k1 : (¬ s0 = 0) → jCall E mX8_in n [.long a2.toInt64, .long 0, .long 4] h (fun v h2 => jG E mX8_order (n + 1) X Post 20 [some (.ref 52), some (.int a1), some (.int a2), none] (v.toList ++ []) h2))
    : jG E mX8_order (n + 1) X Post 5 [some (.ref 52), some (.int a1), some (.int a2), none] [.int s0] h := by
  by_cases c1 : s0 = 0
  · refine jr_if_neF (pc' := 8) (tgt := 11) dX8_order_5 rfl rfl c1 ?_
    refine jr_ldc (pc' := 10) (v := (-1000000001)) dX8_order_8 rfl wcX8_249 ?_
    exact jr_iret dX8_order_10 rfl rfl (k0 c1)
  · refine jr_if_neT (pc' := 11) dX8_order_5 rfl c1 ?_
    refine jr_iload_n (pc' := 12) (i := 2) dX8_order_11 rfl rfl rfl ?_
    refine jr_i2l (pc' := 13)  dX8_order_12 rfl  ?_
    refine jr_lconst (pc' := 14) (v := 0) dX8_order_13 rfl (by decide) ?_
    refine jr_ldc2 (pc' := 17) (v := 4) dX8_order_14 rfl wcX8_257 ?_
    obtain ⟨P1, hC1, hK1⟩ := k1 c1
    exact jr_callS (pc' := 20) (av := [.long a2.toInt64, .long 0, .long 4]) (st := []) sX8_in wmX8_79 dX8_order_17 rfl rfl (Nat.le_of_ble_eq_true rfl) rfl hC1 (fun v h2 hp => jG.weak (lv' := [some (.ref 52), some (.int a1), some (.int a2), none]) ⟨rfl, rfl, rfl, trivial⟩ (hK1 v h2 hp))

theorem q_Moorder_20 {E : jEnv} {n : Nat} {X : State → Prop} {Post : Option Value → HP → Prop} (a1 : Int32) (a2 : Int32) (s0 : Int32) (h : HP)
    (k0 : (s0 = 0) → Post (some (.int (-1000000002))) h)
    (b0 : (¬ s0 = 0) → vp_in ((2 + (6 * a1)) + 5) 62)
    (b1 : (¬ s0 = 0) → vp_in ((2 + (6 * a1)) + 5) 62)
    (k1 : (¬ s0 = 0) → Post (some (.int (h.1 56 (((2 + (6 * a1)) + 5).toNatClampNeg)))) (jPI h 56 (((2 + (6 * a1)) + 5).toNatClampNeg) a2))
    : jG E mX8_order (n + 1) X Post 20 [some (.ref 52), some (.int a1), some (.int a2), none] [.int s0] h := by
  by_cases c1 : s0 = 0
  · refine jr_if_neF (pc' := 23) (tgt := 26) dX8_order_20 rfl rfl c1 ?_
    refine jr_ldc (pc' := 25) (v := (-1000000002)) dX8_order_23 rfl wcX8_94 ?_
    exact jr_iret dX8_order_25 rfl rfl (k0 c1)
  · refine jr_if_neT (pc' := 26) dX8_order_20 rfl c1 ?_
    refine jr_aload_n (pc' := 27) (i := 0) dX8_order_26 rfl rfl rfl ?_
    refine jr_get (pc' := 30) jK8 (k := 52) (j := 9) (v := .ref 56) wfX8_19 dX8_order_27 rfl (by decide) rfl (by decide) rfl ?_
    refine jr_iconst (pc' := 31) (v := 2) dX8_order_30 rfl (by decide) ?_
    refine jr_bipush (pc' := 33) (v := 6) dX8_order_31 rfl (by decide) ?_
    refine jr_iload_n (pc' := 34) (i := 1) dX8_order_33 rfl rfl rfl ?_
    refine jr_imul (pc' := 35)  dX8_order_34 rfl  ?_
    refine jr_iadd (pc' := 36)  dX8_order_35 rfl  ?_
    refine jr_iconst (pc' := 37) (v := 5) dX8_order_36 rfl (by decide) ?_
    refine jr_iadd (pc' := 38)  dX8_order_37 rfl  ?_
    refine jr_iald (pc' := 39) (v := h.1 56 (((2 + (6 * a1)) + 5).toNatClampNeg)) dX8_order_38 rfl (by decide) rfl (b0 c1) rfl ?_
    refine jr_istore_n (pc' := 40) (i := 3) (lv' := [some (.ref 52), some (.int a1), some (.int a2), some (.int (h.1 56 (((2 + (6 * a1)) + 5).toNatClampNeg)))]) dX8_order_39 rfl rfl (by decide) rfl ?_
    refine jr_aload_n (pc' := 41) (i := 0) dX8_order_40 rfl rfl rfl ?_
    refine jr_get (pc' := 44) jK8 (k := 52) (j := 9) (v := .ref 56) wfX8_19 dX8_order_41 rfl (by decide) rfl (by decide) rfl ?_
    refine jr_iconst (pc' := 45) (v := 2) dX8_order_44 rfl (by decide) ?_
    refine jr_bipush (pc' := 47) (v := 6) dX8_order_45 rfl (by decide) ?_
    refine jr_iload_n (pc' := 48) (i := 1) dX8_order_47 rfl rfl rfl ?_
    refine jr_imul (pc' := 49)  dX8_order_48 rfl  ?_
    refine jr_iadd (pc' := 50)  dX8_order_49 rfl  ?_
    refine jr_iconst (pc' := 51) (v := 5) dX8_order_50 rfl (by decide) ?_
    refine jr_iadd (pc' := 52)  dX8_order_51 rfl  ?_
    refine jr_iload_n (pc' := 53) (i := 2) dX8_order_52 rfl rfl rfl ?_
    refine jr_iast (pc' := 54) (j := ((2 + (6 * a1)) + 5).toNatClampNeg) dX8_order_53 rfl (by decide) rfl (b1 c1) rfl ?_
    refine jr_iload_n (pc' := 55) (i := 3) dX8_order_54 rfl rfl rfl ?_
    exact jr_iret dX8_order_55 rfl rfl (k1 c1)

theorem q_Mohour_0 {E : jEnv} {n : Nat} {X : State → Prop} {Post : Option Value → HP → Prop} (x : Int32) (h : HP)
    (k0 : jCall E mX8_in n [.long x.toInt64, .long 1, .long 99] h (fun v h2 => jG E mX8_hour (n + 1) X Post 9 [some (.ref 52), some (.int x), none] (v.toList ++ []) h2))
    : jG E mX8_hour (n + 1) X Post 0 [some (.ref 52), some (.int x), none] [] h := by
  refine jr_iload_n (pc' := 1) (i := 1) dX8_hour_0 rfl rfl rfl ?_
  refine jr_i2l (pc' := 2)  dX8_hour_1 rfl  ?_
  refine jr_lconst (pc' := 3) (v := 1) dX8_hour_2 rfl (by decide) ?_
  refine jr_ldc2 (pc' := 6) (v := 99) dX8_hour_3 rfl wcX8_250 ?_
  obtain ⟨P1, hC1, hK1⟩ := k0
  exact jr_callS (pc' := 9) (av := [.long x.toInt64, .long 1, .long 99]) (st := []) sX8_in wmX8_79 dX8_hour_6 rfl rfl (Nat.le_of_ble_eq_true rfl) rfl hC1 (fun v h2 hp => jG.weak (lv' := [some (.ref 52), some (.int x), none]) ⟨rfl, rfl, trivial⟩ (hK1 v h2 hp))

theorem q_Mohour_9 {E : jEnv} {n : Nat} {X : State → Prop} {Post : Option Value → HP → Prop} (a1 : Int32) (s0 : Int32) (h : HP)
    (k0 : (s0 = 0) → Post (some (.int (-1000000002))) h)
    (k1 : (¬ s0 = 0) → ((h.1 52 0) = 0) → Post (some (.int (-1000000003))) h)
    (k2 : (¬ s0 = 0) → (¬ (h.1 52 0) = 0) → jG E mX8_hour (n + 1) X Post 28 [some (.ref 52), some (.int a1), some (.int 0)] [] h)
    : jG E mX8_hour (n + 1) X Post 9 [some (.ref 52), some (.int a1), none] [.int s0] h := by
  by_cases c1 : s0 = 0
  · refine jr_if_neF (pc' := 12) (tgt := 15) dX8_hour_9 rfl rfl c1 ?_
    refine jr_ldc (pc' := 14) (v := (-1000000002)) dX8_hour_12 rfl wcX8_94 ?_
    exact jr_iret dX8_hour_14 rfl rfl (k0 c1)
  · refine jr_if_neT (pc' := 15) dX8_hour_9 rfl c1 ?_
    refine jr_aload_n (pc' := 16) (i := 0) dX8_hour_15 rfl rfl rfl ?_
    refine jr_get (pc' := 19) jK8 (k := 52) (j := 0) (v := .int (h.1 52 0)) wfX8_76 dX8_hour_16 rfl (by decide) rfl (by decide) rfl ?_
    by_cases c2 : (h.1 52 0) = 0
    · refine jr_if_neF (pc' := 22) (tgt := 26) dX8_hour_19 rfl rfl c2 ?_
      refine jr_ldcw (pc' := 25) (v := (-1000000003)) dX8_hour_22 rfl wcX8_259 ?_
      exact jr_iret dX8_hour_25 rfl rfl (k1 c1 c2)
    · refine jr_if_neT (pc' := 26) dX8_hour_19 rfl c2 ?_
      refine jr_iconst (pc' := 27) (v := 0) dX8_hour_26 rfl (by decide) ?_
      refine jr_istore_n (pc' := 28) (i := 2) (lv' := [some (.ref 52), some (.int a1), some (.int 0)]) dX8_hour_27 rfl rfl (by decide) rfl ?_
      exact jG.weak (lv' := [some (.ref 52), some (.int a1), some (.int 0)]) ⟨rfl, rfl, rfl, trivial⟩ (k2 c1 c2)

theorem q_Mohour_28 {E : jEnv} {n : Nat} {X : State → Prop} {Post : Option Value → HP → Prop} (a1 : Int32) (a2 : Int32) (h : HP)
    (k0 : (a1 ≤ a2) → Post (some (.int (h.1 56 0))) h)
    (k1 : (¬ a1 ≤ a2) → jCall E mX8_goesBy n [.ref 52] h (fun v h2 => jG E mX8_hour (n + 1) X Post 37 [some (.ref 52), some (.int a1), some (.int a2)] (v.toList ++ []) h2))
    : jG E mX8_hour (n + 1) X Post 28 [some (.ref 52), some (.int a1), some (.int a2)] [] h := by
  refine jr_iload_n (pc' := 29) (i := 2) dX8_hour_28 rfl rfl rfl ?_
  refine jr_iload_n (pc' := 30) (i := 1) dX8_hour_29 rfl rfl rfl ?_
  by_cases c1 : a1 ≤ a2
  · refine jr_icmp_geT (pc' := 43) dX8_hour_30 rfl c1 ?_
    refine jr_aload_n (pc' := 44) (i := 0) dX8_hour_43 rfl rfl rfl ?_
    refine jr_get (pc' := 47) jK8 (k := 52) (j := 9) (v := .ref 56) wfX8_19 dX8_hour_44 rfl (by decide) rfl (by decide) rfl ?_
    refine jr_iconst (pc' := 48) (v := 0) dX8_hour_47 rfl (by decide) ?_
    refine jr_iald (pc' := 49) (v := h.1 56 0) dX8_hour_48 rfl (by decide) rfl (jvin (by decide)) ((congrArg (h.1 56) (by decide : (0 : Int32).toNatClampNeg = 0)).trans rfl) ?_
    exact jr_iret dX8_hour_49 rfl rfl (k0 c1)
  · refine jr_icmp_geF (pc' := 33) (tgt := 43) dX8_hour_30 rfl rfl c1 ?_
    refine jr_aload_n (pc' := 34) (i := 0) dX8_hour_33 rfl rfl rfl ?_
    obtain ⟨P1, hC1, hK1⟩ := k1 c1
    exact jr_callV (pc' := 37) (k := 52) (av := []) (st := []) sX8_goesBy wmX8_260 dX8_hour_34 rfl (by decide) rfl (by decide) rfl rfl rfl (Nat.le_of_ble_eq_true rfl) rfl hC1 (fun v h2 hp => jG.weak (lv' := [some (.ref 52), some (.int a1), some (.int a2)]) ⟨rfl, rfl, rfl, trivial⟩ (hK1 v h2 hp))

theorem q_Mohour_37 {E : jEnv} {n : Nat} {X : State → Prop} {Post : Option Value → HP → Prop} (a1 : Int32) (a2 : Int32) (h : HP)
    (k0 : jG E mX8_hour (n + 1) X Post 28 [some (.ref 52), some (.int a1), some (.int (a2 + 1))] [] h)
    : jG E mX8_hour (n + 1) X Post 37 [some (.ref 52), some (.int a1), some (.int a2)] [] h := by
  refine jr_iinc (pc' := 40) (i := 2) (v := (a2 + 1)) (lv' := [some (.ref 52), some (.int a1), some (.int (a2 + 1))]) dX8_hour_37 rfl rfl (congrArg (a2 + ·) (by decide)) (by decide) rfl ?_
  refine jr_goto (pc' := 28) dX8_hour_40 rfl ?_
  exact jG.weak (lv' := [some (.ref 52), some (.int a1), some (.int (a2 + 1))]) ⟨rfl, rfl, rfl, trivial⟩ (k0)

theorem q_MogoesBy_0 {E : jEnv} {n : Nat} {X : State → Prop} {Post : Option Value → HP → Prop}  (h : HP)
    (k0 : jG E mX8_goesBy (n + 1) X Post 2 [some (.ref 52), some (.int 0), none, none, none] [] h)
    : jG E mX8_goesBy (n + 1) X Post 0 [some (.ref 52), none, none, none, none] [] h := by
  refine jr_iconst (pc' := 1) (v := 0) dX8_goesBy_0 rfl (by decide) ?_
  refine jr_istore_n (pc' := 2) (i := 1) (lv' := [some (.ref 52), some (.int 0), none, none, none]) dX8_goesBy_1 rfl rfl (by decide) rfl ?_
  exact jG.weak (lv' := [some (.ref 52), some (.int 0), none, none, none]) ⟨rfl, rfl, trivial⟩ (k0)

theorem q_MogoesBy_2 {E : jEnv} {n : Nat} {X : State → Prop} {Post : Option Value → HP → Prop} (a1 : Int32) (h : HP)
    (k0 : ((h.1 52 5) ≤ a1) → jCall E mX8_hears n [.ref 52] (jPI h 56 0 ((h.1 56 0) + 1)) (fun v h2 => jG E mX8_goesBy (n + 1) X Post 126 [some (.ref 52), none, none, none, none] (v.toList ++ []) h2))
    (b0 : (¬ (h.1 52 5) ≤ a1) → vp_in ((2 + (6 * a1)) + 5) 62)
    (k1 : (¬ (h.1 52 5) ≤ a1) → jCall E mX8_spotOf n [.ref 52, .int a1] h (fun v h2 => jG E mX8_goesBy (n + 1) X Post 29 [some (.ref 52), some (.int a1), some (.int (h.1 56 (((2 + (6 * a1)) + 5).toNatClampNeg))), none, none] (v.toList ++ []) h2))
    : jG E mX8_goesBy (n + 1) X Post 2 [some (.ref 52), some (.int a1), none, none, none] [] h := by
  refine jr_iload_n (pc' := 3) (i := 1) dX8_goesBy_2 rfl rfl rfl ?_
  refine jr_aload_n (pc' := 4) (i := 0) dX8_goesBy_3 rfl rfl rfl ?_
  refine jr_get (pc' := 7) jK8 (k := 52) (j := 5) (v := .int (h.1 52 5)) wfX8_86 dX8_goesBy_4 rfl (by decide) rfl (by decide) rfl ?_
  by_cases c1 : (h.1 52 5) ≤ a1
  · refine jr_icmp_geT (pc' := 112) dX8_goesBy_7 rfl c1 ?_
    refine jr_aload_n (pc' := 113) (i := 0) dX8_goesBy_112 rfl rfl rfl ?_
    refine jr_get (pc' := 116) jK8 (k := 52) (j := 9) (v := .ref 56) wfX8_19 dX8_goesBy_113 rfl (by decide) rfl (by decide) rfl ?_
    refine jr_iconst (pc' := 117) (v := 0) dX8_goesBy_116 rfl (by decide) ?_
    refine jr_dup2 (pc' := 118)  dX8_goesBy_117 rfl rfl rfl ?_
    refine jr_iald (pc' := 119) (v := h.1 56 0) dX8_goesBy_118 rfl (by decide) rfl (jvin (by decide)) ((congrArg (h.1 56) (by decide : (0 : Int32).toNatClampNeg = 0)).trans rfl) ?_
    refine jr_iconst (pc' := 120) (v := 1) dX8_goesBy_119 rfl (by decide) ?_
    refine jr_iadd (pc' := 121)  dX8_goesBy_120 rfl  ?_
    refine jr_iast (pc' := 122) (j := 0) dX8_goesBy_121 rfl (by decide) rfl (jvin (by decide)) (by decide) ?_
    refine jr_aload_n (pc' := 123) (i := 0) dX8_goesBy_122 rfl rfl rfl ?_
    obtain ⟨P1, hC1, hK1⟩ := k0 c1
    exact jr_callV (pc' := 126) (k := 52) (av := []) (st := []) sX8_hears wmX8_220 dX8_goesBy_123 rfl (by decide) rfl (by decide) rfl rfl rfl (Nat.le_of_ble_eq_true rfl) rfl hC1 (fun v h2 hp => jG.weak (lv' := [some (.ref 52), none, none, none, none]) ⟨rfl, trivial⟩ (hK1 v h2 hp))
  · refine jr_icmp_geF (pc' := 10) (tgt := 112) dX8_goesBy_7 rfl rfl c1 ?_
    refine jr_aload_n (pc' := 11) (i := 0) dX8_goesBy_10 rfl rfl rfl ?_
    refine jr_get (pc' := 14) jK8 (k := 52) (j := 9) (v := .ref 56) wfX8_19 dX8_goesBy_11 rfl (by decide) rfl (by decide) rfl ?_
    refine jr_iconst (pc' := 15) (v := 2) dX8_goesBy_14 rfl (by decide) ?_
    refine jr_bipush (pc' := 17) (v := 6) dX8_goesBy_15 rfl (by decide) ?_
    refine jr_iload_n (pc' := 18) (i := 1) dX8_goesBy_17 rfl rfl rfl ?_
    refine jr_imul (pc' := 19)  dX8_goesBy_18 rfl  ?_
    refine jr_iadd (pc' := 20)  dX8_goesBy_19 rfl  ?_
    refine jr_iconst (pc' := 21) (v := 5) dX8_goesBy_20 rfl (by decide) ?_
    refine jr_iadd (pc' := 22)  dX8_goesBy_21 rfl  ?_
    refine jr_iald (pc' := 23) (v := h.1 56 (((2 + (6 * a1)) + 5).toNatClampNeg)) dX8_goesBy_22 rfl (by decide) rfl (b0 c1) rfl ?_
    refine jr_istore_n (pc' := 24) (i := 2) (lv' := [some (.ref 52), some (.int a1), some (.int (h.1 56 (((2 + (6 * a1)) + 5).toNatClampNeg))), none, none]) dX8_goesBy_23 rfl rfl (by decide) rfl ?_
    refine jr_aload_n (pc' := 25) (i := 0) dX8_goesBy_24 rfl rfl rfl ?_
    refine jr_iload_n (pc' := 26) (i := 1) dX8_goesBy_25 rfl rfl rfl ?_
    obtain ⟨P1, hC1, hK1⟩ := k1 c1
    exact jr_callV (pc' := 29) (k := 52) (av := [.int a1]) (st := []) sX8_spotOf wmX8_223 dX8_goesBy_26 rfl (by decide) rfl (by decide) rfl rfl rfl (Nat.le_of_ble_eq_true rfl) rfl hC1 (fun v h2 hp => jG.weak (lv' := [some (.ref 52), some (.int a1), some (.int (h.1 56 (((2 + (6 * a1)) + 5).toNatClampNeg))), none, none]) ⟨rfl, rfl, rfl, trivial⟩ (hK1 v h2 hp))

theorem q_MogoesBy_126 {E : jEnv} {n : Nat} {X : State → Prop} {Post : Option Value → HP → Prop}  (h : HP)
    (k0 : jG E mX8_goesBy (n + 1) X Post 128 [some (.ref 52), some (.int 0), none, none, none] [] h)
    : jG E mX8_goesBy (n + 1) X Post 126 [some (.ref 52), none, none, none, none] [] h := by
  refine jr_iconst (pc' := 127) (v := 0) dX8_goesBy_126 rfl (by decide) ?_
  refine jr_istore_n (pc' := 128) (i := 1) (lv' := [some (.ref 52), some (.int 0), none, none, none]) dX8_goesBy_127 rfl rfl (by decide) rfl ?_
  exact jG.weak (lv' := [some (.ref 52), some (.int 0), none, none, none]) ⟨rfl, rfl, trivial⟩ (k0)

theorem q_MogoesBy_29 {E : jEnv} {n : Nat} {X : State → Prop} {Post : Option Value → HP → Prop} (a1 : Int32) (a2 : Int32) (s0 : Int32) (h : HP)
    (b0 : vp_in ((2 + (6 * a1)) + 2) 62)
    (k0 : jCall E mX8_mayGo n [.ref 52, .int s0, .int a2, .int (h.1 56 (((2 + (6 * a1)) + 2).toNatClampNeg)), .int ((h.1 56 0) + 1)] h (fun v h2 => jG E mX8_goesBy (n + 1) X Post 57 [some (.ref 52), some (.int a1), some (.int a2), some (.int s0), none] (v.toList ++ []) h2))
    : jG E mX8_goesBy (n + 1) X Post 29 [some (.ref 52), some (.int a1), some (.int a2), none, none] [.int s0] h := by
  refine jr_istore_n (pc' := 30) (i := 3) (lv' := [some (.ref 52), some (.int a1), some (.int a2), some (.int s0), none]) dX8_goesBy_29 rfl rfl (by decide) rfl ?_
  refine jr_aload_n (pc' := 31) (i := 0) dX8_goesBy_30 rfl rfl rfl ?_
  refine jr_iload_n (pc' := 32) (i := 3) dX8_goesBy_31 rfl rfl rfl ?_
  refine jr_iload_n (pc' := 33) (i := 2) dX8_goesBy_32 rfl rfl rfl ?_
  refine jr_aload_n (pc' := 34) (i := 0) dX8_goesBy_33 rfl rfl rfl ?_
  refine jr_get (pc' := 37) jK8 (k := 52) (j := 9) (v := .ref 56) wfX8_19 dX8_goesBy_34 rfl (by decide) rfl (by decide) rfl ?_
  refine jr_iconst (pc' := 38) (v := 2) dX8_goesBy_37 rfl (by decide) ?_
  refine jr_bipush (pc' := 40) (v := 6) dX8_goesBy_38 rfl (by decide) ?_
  refine jr_iload_n (pc' := 41) (i := 1) dX8_goesBy_40 rfl rfl rfl ?_
  refine jr_imul (pc' := 42)  dX8_goesBy_41 rfl  ?_
  refine jr_iadd (pc' := 43)  dX8_goesBy_42 rfl  ?_
  refine jr_iconst (pc' := 44) (v := 2) dX8_goesBy_43 rfl (by decide) ?_
  refine jr_iadd (pc' := 45)  dX8_goesBy_44 rfl  ?_
  refine jr_iald (pc' := 46) (v := h.1 56 (((2 + (6 * a1)) + 2).toNatClampNeg)) dX8_goesBy_45 rfl (by decide) rfl (b0) rfl ?_
  refine jr_aload_n (pc' := 47) (i := 0) dX8_goesBy_46 rfl rfl rfl ?_
  refine jr_get (pc' := 50) jK8 (k := 52) (j := 9) (v := .ref 56) wfX8_19 dX8_goesBy_47 rfl (by decide) rfl (by decide) rfl ?_
  refine jr_iconst (pc' := 51) (v := 0) dX8_goesBy_50 rfl (by decide) ?_
  refine jr_iald (pc' := 52) (v := h.1 56 0) dX8_goesBy_51 rfl (by decide) rfl (jvin (by decide)) ((congrArg (h.1 56) (by decide : (0 : Int32).toNatClampNeg = 0)).trans rfl) ?_
  refine jr_iconst (pc' := 53) (v := 1) dX8_goesBy_52 rfl (by decide) ?_
  refine jr_iadd (pc' := 54)  dX8_goesBy_53 rfl  ?_
  obtain ⟨P1, hC1, hK1⟩ := k0
  exact jr_callV (pc' := 57) (k := 52) (av := [.int s0, .int a2, .int (h.1 56 (((2 + (6 * a1)) + 2).toNatClampNeg)), .int ((h.1 56 0) + 1)]) (st := []) sX8_mayGo wmX8_237 dX8_goesBy_54 rfl (by decide) rfl (by decide) rfl rfl rfl (Nat.le_of_ble_eq_true rfl) rfl hC1 (fun v h2 hp => jG.weak (lv' := [some (.ref 52), some (.int a1), some (.int a2), some (.int s0), none]) ⟨rfl, rfl, rfl, rfl, trivial⟩ (hK1 v h2 hp))

theorem q_MogoesBy_128 {E : jEnv} {n : Nat} {X : State → Prop} {Post : Option Value → HP → Prop} (a1 : Int32) (h : HP)
    (k0 : ((h.1 52 5) ≤ a1) → Post none h)
    (b0 : (¬ (h.1 52 5) ≤ a1) → vp_in ((2 + (6 * a1)) + 4) 62)
    (k1 : (¬ (h.1 52 5) ≤ a1) → jCall E mX8_isWet n [.ref 52, .int a1] h (fun v h2 => jG E mX8_goesBy (n + 1) X Post 155 [some (.ref 52), some (.int a1), none, none, none] (v.toList ++ [.int (h.1 56 (((2 + (6 * a1)) + 4).toNatClampNeg)), .int ((2 + (6 * a1)) + 4), .ref 56]) h2))
    : jG E mX8_goesBy (n + 1) X Post 128 [some (.ref 52), some (.int a1), none, none, none] [] h := by
  refine jr_iload_n (pc' := 129) (i := 1) dX8_goesBy_128 rfl rfl rfl ?_
  refine jr_aload_n (pc' := 130) (i := 0) dX8_goesBy_129 rfl rfl rfl ?_
  refine jr_get (pc' := 133) jK8 (k := 52) (j := 5) (v := .int (h.1 52 5)) wfX8_86 dX8_goesBy_130 rfl (by decide) rfl (by decide) rfl ?_
  by_cases c1 : (h.1 52 5) ≤ a1
  · refine jr_icmp_geT (pc' := 171) dX8_goesBy_133 rfl c1 ?_
    exact jr_vret dX8_goesBy_171 rfl (k0 c1)
  · refine jr_icmp_geF (pc' := 136) (tgt := 171) dX8_goesBy_133 rfl rfl c1 ?_
    refine jr_aload_n (pc' := 137) (i := 0) dX8_goesBy_136 rfl rfl rfl ?_
    refine jr_get (pc' := 140) jK8 (k := 52) (j := 9) (v := .ref 56) wfX8_19 dX8_goesBy_137 rfl (by decide) rfl (by decide) rfl ?_
    refine jr_iconst (pc' := 141) (v := 2) dX8_goesBy_140 rfl (by decide) ?_
    refine jr_bipush (pc' := 143) (v := 6) dX8_goesBy_141 rfl (by decide) ?_
    refine jr_iload_n (pc' := 144) (i := 1) dX8_goesBy_143 rfl rfl rfl ?_
    refine jr_imul (pc' := 145)  dX8_goesBy_144 rfl  ?_
    refine jr_iadd (pc' := 146)  dX8_goesBy_145 rfl  ?_
    refine jr_iconst (pc' := 147) (v := 4) dX8_goesBy_146 rfl (by decide) ?_
    refine jr_iadd (pc' := 148)  dX8_goesBy_147 rfl  ?_
    refine jr_dup2 (pc' := 149)  dX8_goesBy_148 rfl rfl rfl ?_
    refine jr_iald (pc' := 150) (v := h.1 56 (((2 + (6 * a1)) + 4).toNatClampNeg)) dX8_goesBy_149 rfl (by decide) rfl (b0 c1) rfl ?_
    refine jr_aload_n (pc' := 151) (i := 0) dX8_goesBy_150 rfl rfl rfl ?_
    refine jr_iload_n (pc' := 152) (i := 1) dX8_goesBy_151 rfl rfl rfl ?_
    obtain ⟨P1, hC1, hK1⟩ := k1 c1
    exact jr_callV (pc' := 155) (k := 52) (av := [.int a1]) (st := [.int (h.1 56 (((2 + (6 * a1)) + 4).toNatClampNeg)), .int ((2 + (6 * a1)) + 4), .ref 56]) sX8_isWet wmX8_241 dX8_goesBy_152 rfl (by decide) rfl (by decide) rfl rfl rfl (Nat.le_of_ble_eq_true rfl) rfl hC1 (fun v h2 hp => jG.weak (lv' := [some (.ref 52), some (.int a1), none, none, none]) ⟨rfl, rfl, trivial⟩ (hK1 v h2 hp))

theorem q_MogoesBy_57 {E : jEnv} {n : Nat} {X : State → Prop} {Post : Option Value → HP → Prop} (a1 : Int32) (a2 : Int32) (a3 : Int32) (s0 : Int32) (h : HP)
    (k0 : (s0 = 0) → jG E mX8_goesBy (n + 1) X Post 2 [some (.ref 52), some (.int (a1 + 1)), none, none, none] [] h)
    (k1 : (¬ s0 = 0) → jCall E mX8_led n [.ref 52, .int a3, .int a2] h (fun v h2 => jG E mX8_goesBy (n + 1) X Post 66 [some (.ref 52), some (.int a1), none, none, none] (v.toList ++ []) h2))
    : jG E mX8_goesBy (n + 1) X Post 57 [some (.ref 52), some (.int a1), some (.int a2), some (.int a3), none] [.int s0] h := by
  by_cases c1 : s0 = 0
  · refine jr_if_eqT (pc' := 106) dX8_goesBy_57 rfl c1 ?_
    refine jr_iinc (pc' := 109) (i := 1) (v := (a1 + 1)) (lv' := [some (.ref 52), some (.int (a1 + 1)), some (.int a2), some (.int a3), none]) dX8_goesBy_106 rfl rfl (congrArg (a1 + ·) (by decide)) (by decide) rfl ?_
    refine jr_goto (pc' := 2) dX8_goesBy_109 rfl ?_
    exact jG.weak (lv' := [some (.ref 52), some (.int (a1 + 1)), none, none, none]) ⟨rfl, rfl, trivial⟩ (k0 c1)
  · refine jr_if_eqF (pc' := 60) (tgt := 106) dX8_goesBy_57 rfl rfl c1 ?_
    refine jr_aload_n (pc' := 61) (i := 0) dX8_goesBy_60 rfl rfl rfl ?_
    refine jr_iload_n (pc' := 62) (i := 3) dX8_goesBy_61 rfl rfl rfl ?_
    refine jr_iload_n (pc' := 63) (i := 2) dX8_goesBy_62 rfl rfl rfl ?_
    obtain ⟨P1, hC1, hK1⟩ := k1 c1
    exact jr_callV (pc' := 66) (k := 52) (av := [.int a3, .int a2]) (st := []) sX8_led wmX8_231 dX8_goesBy_63 rfl (by decide) rfl (by decide) rfl rfl rfl (Nat.le_of_ble_eq_true rfl) rfl hC1 (fun v h2 hp => jG.weak (lv' := [some (.ref 52), some (.int a1), none, none, none]) ⟨rfl, rfl, trivial⟩ (hK1 v h2 hp))

theorem q_MogoesBy_155 {E : jEnv} {n : Nat} {X : State → Prop} {Post : Option Value → HP → Prop} (a1 : Int32) (s0 : Int32) (s1 : Int32) (s2 : Int32) (h : HP)
    (b0 : (s0 = 0) → vp_in s2 62)
    (k0 : (s0 = 0) → jG E mX8_goesBy (n + 1) X Post 128 [some (.ref 52), some (.int (a1 + 1)), none, none, none] [] (jPI h 56 s2.toNatClampNeg (s1 + 0)))
    (b1 : (¬ s0 = 0) → vp_in s2 62)
    (k1 : (¬ s0 = 0) → jG E mX8_goesBy (n + 1) X Post 128 [some (.ref 52), some (.int (a1 + 1)), none, none, none] [] (jPI h 56 s2.toNatClampNeg (s1 + 1)))
    : jG E mX8_goesBy (n + 1) X Post 155 [some (.ref 52), some (.int a1), none, none, none] [.int s0, .int s1, .int s2, .ref 56] h := by
  by_cases c1 : s0 = 0
  · refine jr_if_eqT (pc' := 162) dX8_goesBy_155 rfl c1 ?_
    refine jr_iconst (pc' := 163) (v := 0) dX8_goesBy_162 rfl (by decide) ?_
    refine jr_iadd (pc' := 164)  dX8_goesBy_163 rfl  ?_
    refine jr_iast (pc' := 165) (j := s2.toNatClampNeg) dX8_goesBy_164 rfl (by decide) rfl (b0 c1) rfl ?_
    refine jr_iinc (pc' := 168) (i := 1) (v := (a1 + 1)) (lv' := [some (.ref 52), some (.int (a1 + 1)), none, none, none]) dX8_goesBy_165 rfl rfl (congrArg (a1 + ·) (by decide)) (by decide) rfl ?_
    refine jr_goto (pc' := 128) dX8_goesBy_168 rfl ?_
    exact jG.weak (lv' := [some (.ref 52), some (.int (a1 + 1)), none, none, none]) ⟨rfl, rfl, trivial⟩ (k0 c1)
  · refine jr_if_eqF (pc' := 158) (tgt := 162) dX8_goesBy_155 rfl rfl c1 ?_
    refine jr_iconst (pc' := 159) (v := 1) dX8_goesBy_158 rfl (by decide) ?_
    refine jr_goto (pc' := 163) dX8_goesBy_159 rfl ?_
    refine jr_iadd (pc' := 164)  dX8_goesBy_163 rfl  ?_
    refine jr_iast (pc' := 165) (j := s2.toNatClampNeg) dX8_goesBy_164 rfl (by decide) rfl (b1 c1) rfl ?_
    refine jr_iinc (pc' := 168) (i := 1) (v := (a1 + 1)) (lv' := [some (.ref 52), some (.int (a1 + 1)), none, none, none]) dX8_goesBy_165 rfl rfl (congrArg (a1 + ·) (by decide)) (by decide) rfl ?_
    refine jr_goto (pc' := 128) dX8_goesBy_168 rfl ?_
    exact jG.weak (lv' := [some (.ref 52), some (.int (a1 + 1)), none, none, none]) ⟨rfl, rfl, trivial⟩ (k1 c1)

theorem q_MogoesBy_66 {E : jEnv} {n : Nat} {X : State → Prop} {Post : Option Value → HP → Prop} (a1 : Int32) (s0 : Int32) (h : HP)
    (b0 : ¬ (h.1 52 0) = 0)
    (b1 : vp_in (2 + (6 * a1)) 62)
    (b2 : ¬ (h.1 52 0) = 0)
    (b3 : vp_in ((2 + (6 * a1)) + 1) 62)
    (k0 : jG E mX8_goesBy (n + 1) X Post 2 [some (.ref 52), some (.int (a1 + 1)), none, none, none] [] (jPI (jPI h 56 ((2 + (6 * a1)).toNatClampNeg) (s0 - s0 / (h.1 52 0) * (h.1 52 0))) 56 (((2 + (6 * a1)) + 1).toNatClampNeg) (s0 / (h.1 52 0))))
    : jG E mX8_goesBy (n + 1) X Post 66 [some (.ref 52), some (.int a1), none, none, none] [.int s0] h := by
  refine jr_istore (pc' := 68) (i := 4) (lv' := [some (.ref 52), some (.int a1), none, none, some (.int s0)]) dX8_goesBy_66 rfl (by decide) rfl ?_
  refine jr_aload_n (pc' := 69) (i := 0) dX8_goesBy_68 rfl rfl rfl ?_
  refine jr_get (pc' := 72) jK8 (k := 52) (j := 9) (v := .ref 56) wfX8_19 dX8_goesBy_69 rfl (by decide) rfl (by decide) rfl ?_
  refine jr_iconst (pc' := 73) (v := 2) dX8_goesBy_72 rfl (by decide) ?_
  refine jr_bipush (pc' := 75) (v := 6) dX8_goesBy_73 rfl (by decide) ?_
  refine jr_iload_n (pc' := 76) (i := 1) dX8_goesBy_75 rfl rfl rfl ?_
  refine jr_imul (pc' := 77)  dX8_goesBy_76 rfl  ?_
  refine jr_iadd (pc' := 78)  dX8_goesBy_77 rfl  ?_
  refine jr_iload (pc' := 80) (i := 4) dX8_goesBy_78 rfl rfl ?_
  refine jr_aload_n (pc' := 81) (i := 0) dX8_goesBy_80 rfl rfl rfl ?_
  refine jr_get (pc' := 84) jK8 (k := 52) (j := 0) (v := .int (h.1 52 0)) wfX8_76 dX8_goesBy_81 rfl (by decide) rfl (by decide) rfl ?_
  refine jr_irem (pc' := 85)  dX8_goesBy_84 rfl (b0) ?_
  refine jr_iast (pc' := 86) (j := (2 + (6 * a1)).toNatClampNeg) dX8_goesBy_85 rfl (by decide) rfl (b1) rfl ?_
  refine jr_aload_n (pc' := 87) (i := 0) dX8_goesBy_86 rfl rfl rfl ?_
  refine jr_get (pc' := 90) jK8 (k := 52) (j := 9) (v := .ref 56) wfX8_19 dX8_goesBy_87 rfl (by decide) rfl (by decide) rfl ?_
  refine jr_iconst (pc' := 91) (v := 2) dX8_goesBy_90 rfl (by decide) ?_
  refine jr_bipush (pc' := 93) (v := 6) dX8_goesBy_91 rfl (by decide) ?_
  refine jr_iload_n (pc' := 94) (i := 1) dX8_goesBy_93 rfl rfl rfl ?_
  refine jr_imul (pc' := 95)  dX8_goesBy_94 rfl  ?_
  refine jr_iadd (pc' := 96)  dX8_goesBy_95 rfl  ?_
  refine jr_iconst (pc' := 97) (v := 1) dX8_goesBy_96 rfl (by decide) ?_
  refine jr_iadd (pc' := 98)  dX8_goesBy_97 rfl  ?_
  refine jr_iload (pc' := 100) (i := 4) dX8_goesBy_98 rfl rfl ?_
  refine jr_aload_n (pc' := 101) (i := 0) dX8_goesBy_100 rfl rfl rfl ?_
  refine jr_get (pc' := 104) jK8 (k := 52) (j := 0) (v := .int (h.1 52 0)) wfX8_76 dX8_goesBy_101 rfl (by decide) rfl (by decide) rfl ?_
  refine jr_idiv (pc' := 105)  dX8_goesBy_104 rfl (b2) ?_
  refine jr_iast (pc' := 106) (j := ((2 + (6 * a1)) + 1).toNatClampNeg) dX8_goesBy_105 rfl (by decide) rfl (b3) rfl ?_
  refine jr_iinc (pc' := 109) (i := 1) (v := (a1 + 1)) (lv' := [some (.ref 52), some (.int (a1 + 1)), none, none, some (.int s0)]) dX8_goesBy_106 rfl rfl (congrArg (a1 + ·) (by decide)) (by decide) rfl ?_
  refine jr_goto (pc' := 2) dX8_goesBy_109 rfl ?_
  exact jG.weak (lv' := [some (.ref 52), some (.int (a1 + 1)), none, none, none]) ⟨rfl, rfl, trivial⟩ (k0)

theorem q_MomayGo_0 {E : jEnv} {n : Nat} {X : State → Prop} {Post : Option Value → HP → Prop} (x : Int32) (y : Int32) (z : Int32) (u : Int32) (h : HP)
    (k0 : jCall E mX8_led n [.ref 52, .int x, .int y] h (fun v h2 => jG E mX8_mayGo (n + 1) X Post 6 [some (.ref 52), none, some (.int y), some (.int z), some (.int u), none] (v.toList ++ []) h2))
    : jG E mX8_mayGo (n + 1) X Post 0 [some (.ref 52), some (.int x), some (.int y), some (.int z), some (.int u), none] [] h := by
  refine jr_aload_n (pc' := 1) (i := 0) dX8_mayGo_0 rfl rfl rfl ?_
  refine jr_iload_n (pc' := 2) (i := 1) dX8_mayGo_1 rfl rfl rfl ?_
  refine jr_iload_n (pc' := 3) (i := 2) dX8_mayGo_2 rfl rfl rfl ?_
  obtain ⟨P1, hC1, hK1⟩ := k0
  exact jr_callV (pc' := 6) (k := 52) (av := [.int x, .int y]) (st := []) sX8_led wmX8_231 dX8_mayGo_3 rfl (by decide) rfl (by decide) rfl rfl rfl (Nat.le_of_ble_eq_true rfl) rfl hC1 (fun v h2 hp => jG.weak (lv' := [some (.ref 52), none, some (.int y), some (.int z), some (.int u), none]) ⟨rfl, rfl, rfl, rfl, trivial⟩ (hK1 v h2 hp))

theorem q_MomayGo_6 {E : jEnv} {n : Nat} {X : State → Prop} {Post : Option Value → HP → Prop} (a2 : Int32) (a3 : Int32) (a4 : Int32) (s0 : Int32) (h : HP)
    (k0 : (a2 = 0) → Post (some (.int 1)) h)
    (k1 : (¬ a2 = 0) → (s0 = (-1)) → Post (some (.int 0)) h)
    (k2 : (¬ a2 = 0) → (¬ s0 = (-1)) → jCall E mX8_depthOf n [.ref 52, .int s0, .int a4] h (fun v h2 => jG E mX8_mayGo (n + 1) X Post 26 [none, none, none, some (.int a3), none, none] (v.toList ++ []) h2))
    : jG E mX8_mayGo (n + 1) X Post 6 [some (.ref 52), none, some (.int a2), some (.int a3), some (.int a4), none] [.int s0] h := by
  refine jr_istore (pc' := 8) (i := 5) (lv' := [some (.ref 52), none, some (.int a2), some (.int a3), some (.int a4), some (.int s0)]) dX8_mayGo_6 rfl (by decide) rfl ?_
  refine jr_iload_n (pc' := 9) (i := 2) dX8_mayGo_8 rfl rfl rfl ?_
  by_cases c1 : a2 = 0
  · refine jr_if_eqT (pc' := 30) dX8_mayGo_9 rfl c1 ?_
    refine jr_iconst (pc' := 31) (v := 1) dX8_mayGo_30 rfl (by decide) ?_
    refine jr_goto (pc' := 35) dX8_mayGo_31 rfl ?_
    exact jr_iret dX8_mayGo_35 rfl rfl (k0 c1)
  · refine jr_if_eqF (pc' := 12) (tgt := 30) dX8_mayGo_9 rfl rfl c1 ?_
    refine jr_iload (pc' := 14) (i := 5) dX8_mayGo_12 rfl rfl ?_
    refine jr_iconst (pc' := 15) (v := (-1)) dX8_mayGo_14 rfl (by decide) ?_
    by_cases c2 : s0 = (-1)
    · refine jr_icmp_eqT (pc' := 34) dX8_mayGo_15 rfl c2 ?_
      refine jr_iconst (pc' := 35) (v := 0) dX8_mayGo_34 rfl (by decide) ?_
      exact jr_iret dX8_mayGo_35 rfl rfl (k1 c1 c2)
    · refine jr_icmp_eqF (pc' := 18) (tgt := 34) dX8_mayGo_15 rfl rfl c2 ?_
      refine jr_aload_n (pc' := 19) (i := 0) dX8_mayGo_18 rfl rfl rfl ?_
      refine jr_iload (pc' := 21) (i := 5) dX8_mayGo_19 rfl rfl ?_
      refine jr_iload (pc' := 23) (i := 4) dX8_mayGo_21 rfl rfl ?_
      obtain ⟨P1, hC1, hK1⟩ := k2 c1 c2
      exact jr_callV (pc' := 26) (k := 52) (av := [.int s0, .int a4]) (st := []) sX8_depthOf wmX8_234 dX8_mayGo_23 rfl (by decide) rfl (by decide) rfl rfl rfl (Nat.le_of_ble_eq_true rfl) rfl hC1 (fun v h2 hp => jG.weak (lv' := [none, none, none, some (.int a3), none, none]) ⟨rfl, trivial⟩ (hK1 v h2 hp))

theorem q_MomayGo_26 {E : jEnv} {n : Nat} {X : State → Prop} {Post : Option Value → HP → Prop} (a3 : Int32) (s0 : Int32) (h : HP)
    (k0 : (a3 < s0) → Post (some (.int 0)) h)
    (k1 : (¬ a3 < s0) → Post (some (.int 1)) h)
    : jG E mX8_mayGo (n + 1) X Post 26 [none, none, none, some (.int a3), none, none] [.int s0] h := by
  refine jr_iload_n (pc' := 27) (i := 3) dX8_mayGo_26 rfl rfl rfl ?_
  by_cases c1 : a3 < s0
  · refine jr_icmp_gtT (pc' := 34) dX8_mayGo_27 rfl c1 ?_
    refine jr_iconst (pc' := 35) (v := 0) dX8_mayGo_34 rfl (by decide) ?_
    exact jr_iret dX8_mayGo_35 rfl rfl (k0 c1)
  · refine jr_icmp_gtF (pc' := 30) (tgt := 34) dX8_mayGo_27 rfl rfl c1 ?_
    refine jr_iconst (pc' := 31) (v := 1) dX8_mayGo_30 rfl (by decide) ?_
    refine jr_goto (pc' := 35) dX8_mayGo_31 rfl ?_
    exact jr_iret dX8_mayGo_35 rfl rfl (k1 c1)

set_option maxRecDepth 4000 in
theorem q_Moled_0 {E : jEnv} {n : Nat} {X : State → Prop} {Post : Option Value → HP → Prop} (x : Int32) (y : Int32) (h : HP)
    (b0 : ¬ (h.1 52 0) = 0)
    (b1 : (y = 2) → ¬ (h.1 52 0) = 0)
    (k0 : (y = 2) → (y = 3) → jCall E mX8_cell n [.ref 52, .int ((x - x / (h.1 52 0) * (h.1 52 0)) + 1), .int ((x / (h.1 52 0)) + 1)] h (fun v h2 => jG E mX8_led (n + 1) X Post 62 [none, none, none, none, none] (v.toList ++ []) h2))
    (k1 : (y = 2) → (¬ y = 3) → (y = 1) → jCall E mX8_cell n [.ref 52, .int ((x - x / (h.1 52 0) * (h.1 52 0)) + 1), .int ((x / (h.1 52 0)) + (-1))] h (fun v h2 => jG E mX8_led (n + 1) X Post 62 [none, none, none, none, none] (v.toList ++ []) h2))
    (k2 : (y = 2) → (¬ y = 3) → (¬ y = 1) → jCall E mX8_cell n [.ref 52, .int ((x - x / (h.1 52 0) * (h.1 52 0)) + 1), .int ((x / (h.1 52 0)) + 0)] h (fun v h2 => jG E mX8_led (n + 1) X Post 62 [none, none, none, none, none] (v.toList ++ []) h2))
    (b2 : (¬ y = 2) → (y = 4) → ¬ (h.1 52 0) = 0)
    (k3 : (¬ y = 2) → (y = 4) → (y = 3) → jCall E mX8_cell n [.ref 52, .int ((x - x / (h.1 52 0) * (h.1 52 0)) + (-1)), .int ((x / (h.1 52 0)) + 1)] h (fun v h2 => jG E mX8_led (n + 1) X Post 62 [none, none, none, none, none] (v.toList ++ []) h2))
    (k4 : (¬ y = 2) → (y = 4) → (¬ y = 3) → (y = 1) → jCall E mX8_cell n [.ref 52, .int ((x - x / (h.1 52 0) * (h.1 52 0)) + (-1)), .int ((x / (h.1 52 0)) + (-1))] h (fun v h2 => jG E mX8_led (n + 1) X Post 62 [none, none, none, none, none] (v.toList ++ []) h2))
    (k5 : (¬ y = 2) → (y = 4) → (¬ y = 3) → (¬ y = 1) → jCall E mX8_cell n [.ref 52, .int ((x - x / (h.1 52 0) * (h.1 52 0)) + (-1)), .int ((x / (h.1 52 0)) + 0)] h (fun v h2 => jG E mX8_led (n + 1) X Post 62 [none, none, none, none, none] (v.toList ++ []) h2))
    (b3 : (¬ y = 2) → (¬ y = 4) → ¬ (h.1 52 0) = 0)
    (k6 : (¬ y = 2) → (¬ y = 4) → (y = 3) → jCall E mX8_cell n [.ref 52, .int ((x - x / (h.1 52 0) * (h.1 52 0)) + 0), .int ((x / (h.1 52 0)) + 1)] h (fun v h2 => jG E mX8_led (n + 1) X Post 62 [none, none, none, none, none] (v.toList ++ []) h2))
    (k7 : (¬ y = 2) → (¬ y = 4) → (¬ y = 3) → (y = 1) → jCall E mX8_cell n [.ref 52, .int ((x - x / (h.1 52 0) * (h.1 52 0)) + 0), .int ((x / (h.1 52 0)) + (-1))] h (fun v h2 => jG E mX8_led (n + 1) X Post 62 [none, none, none, none, none] (v.toList ++ []) h2))
    (k8 : (¬ y = 2) → (¬ y = 4) → (¬ y = 3) → (¬ y = 1) → jCall E mX8_cell n [.ref 52, .int ((x - x / (h.1 52 0) * (h.1 52 0)) + 0), .int ((x / (h.1 52 0)) + 0)] h (fun v h2 => jG E mX8_led (n + 1) X Post 62 [none, none, none, none, none] (v.toList ++ []) h2))
    : jG E mX8_led (n + 1) X Post 0 [some (.ref 52), some (.int x), some (.int y), none, none] [] h := by
  refine jr_iload_n (pc' := 1) (i := 1) dX8_led_0 rfl rfl rfl ?_
  refine jr_aload_n (pc' := 2) (i := 0) dX8_led_1 rfl rfl rfl ?_
  refine jr_get (pc' := 5) jK8 (k := 52) (j := 0) (v := .int (h.1 52 0)) wfX8_76 dX8_led_2 rfl (by decide) rfl (by decide) rfl ?_
  refine jr_irem (pc' := 6)  dX8_led_5 rfl (b0) ?_
  refine jr_iload_n (pc' := 7) (i := 2) dX8_led_6 rfl rfl rfl ?_
  refine jr_iconst (pc' := 8) (v := 2) dX8_led_7 rfl (by decide) ?_
  by_cases c1 : y = 2
  · refine jr_icmp_neF (pc' := 11) (tgt := 15) dX8_led_8 rfl rfl c1 ?_
    refine jr_iconst (pc' := 12) (v := 1) dX8_led_11 rfl (by decide) ?_
    refine jr_goto (pc' := 25) dX8_led_12 rfl ?_
    refine jr_iadd (pc' := 26)  dX8_led_25 rfl  ?_
    refine jr_istore_n (pc' := 27) (i := 3) (lv' := [some (.ref 52), some (.int x), some (.int y), some (.int ((x - x / (h.1 52 0) * (h.1 52 0)) + 1)), none]) dX8_led_26 rfl rfl (by decide) rfl ?_
    refine jr_iload_n (pc' := 28) (i := 1) dX8_led_27 rfl rfl rfl ?_
    refine jr_aload_n (pc' := 29) (i := 0) dX8_led_28 rfl rfl rfl ?_
    refine jr_get (pc' := 32) jK8 (k := 52) (j := 0) (v := .int (h.1 52 0)) wfX8_76 dX8_led_29 rfl (by decide) rfl (by decide) rfl ?_
    refine jr_idiv (pc' := 33)  dX8_led_32 rfl (b1 c1) ?_
    refine jr_iload_n (pc' := 34) (i := 2) dX8_led_33 rfl rfl rfl ?_
    refine jr_iconst (pc' := 35) (v := 3) dX8_led_34 rfl (by decide) ?_
    by_cases c2 : y = 3
    · refine jr_icmp_neF (pc' := 38) (tgt := 42) dX8_led_35 rfl rfl c2 ?_
      refine jr_iconst (pc' := 39) (v := 1) dX8_led_38 rfl (by decide) ?_
      refine jr_goto (pc' := 52) dX8_led_39 rfl ?_
      refine jr_iadd (pc' := 53)  dX8_led_52 rfl  ?_
      refine jr_istore (pc' := 55) (i := 4) (lv' := [some (.ref 52), some (.int x), some (.int y), some (.int ((x - x / (h.1 52 0) * (h.1 52 0)) + 1)), some (.int ((x / (h.1 52 0)) + 1))]) dX8_led_53 rfl (by decide) rfl ?_
      refine jr_aload_n (pc' := 56) (i := 0) dX8_led_55 rfl rfl rfl ?_
      refine jr_iload_n (pc' := 57) (i := 3) dX8_led_56 rfl rfl rfl ?_
      refine jr_iload (pc' := 59) (i := 4) dX8_led_57 rfl rfl ?_
      obtain ⟨P1, hC1, hK1⟩ := k0 c1 c2
      exact jr_callV (pc' := 62) (k := 52) (av := [.int ((x - x / (h.1 52 0) * (h.1 52 0)) + 1), .int ((x / (h.1 52 0)) + 1)]) (st := []) sX8_cell wmX8_227 dX8_led_59 rfl (by decide) rfl (by decide) rfl rfl rfl (Nat.le_of_ble_eq_true rfl) rfl hC1 (fun v h2 hp => jG.weak (lv' := [none, none, none, none, none]) trivial (hK1 v h2 hp))
    · refine jr_icmp_neT (pc' := 42) dX8_led_35 rfl c2 ?_
      refine jr_iload_n (pc' := 43) (i := 2) dX8_led_42 rfl rfl rfl ?_
      refine jr_iconst (pc' := 44) (v := 1) dX8_led_43 rfl (by decide) ?_
      by_cases c3 : y = 1
      · refine jr_icmp_neF (pc' := 47) (tgt := 51) dX8_led_44 rfl rfl c3 ?_
        refine jr_iconst (pc' := 48) (v := (-1)) dX8_led_47 rfl (by decide) ?_
        refine jr_goto (pc' := 52) dX8_led_48 rfl ?_
        refine jr_iadd (pc' := 53)  dX8_led_52 rfl  ?_
        refine jr_istore (pc' := 55) (i := 4) (lv' := [some (.ref 52), some (.int x), some (.int y), some (.int ((x - x / (h.1 52 0) * (h.1 52 0)) + 1)), some (.int ((x / (h.1 52 0)) + (-1)))]) dX8_led_53 rfl (by decide) rfl ?_
        refine jr_aload_n (pc' := 56) (i := 0) dX8_led_55 rfl rfl rfl ?_
        refine jr_iload_n (pc' := 57) (i := 3) dX8_led_56 rfl rfl rfl ?_
        refine jr_iload (pc' := 59) (i := 4) dX8_led_57 rfl rfl ?_
        obtain ⟨P1, hC1, hK1⟩ := k1 c1 c2 c3
        exact jr_callV (pc' := 62) (k := 52) (av := [.int ((x - x / (h.1 52 0) * (h.1 52 0)) + 1), .int ((x / (h.1 52 0)) + (-1))]) (st := []) sX8_cell wmX8_227 dX8_led_59 rfl (by decide) rfl (by decide) rfl rfl rfl (Nat.le_of_ble_eq_true rfl) rfl hC1 (fun v h2 hp => jG.weak (lv' := [none, none, none, none, none]) trivial (hK1 v h2 hp))
      · refine jr_icmp_neT (pc' := 51) dX8_led_44 rfl c3 ?_
        refine jr_iconst (pc' := 52) (v := 0) dX8_led_51 rfl (by decide) ?_
        refine jr_iadd (pc' := 53)  dX8_led_52 rfl  ?_
        refine jr_istore (pc' := 55) (i := 4) (lv' := [some (.ref 52), some (.int x), some (.int y), some (.int ((x - x / (h.1 52 0) * (h.1 52 0)) + 1)), some (.int ((x / (h.1 52 0)) + 0))]) dX8_led_53 rfl (by decide) rfl ?_
        refine jr_aload_n (pc' := 56) (i := 0) dX8_led_55 rfl rfl rfl ?_
        refine jr_iload_n (pc' := 57) (i := 3) dX8_led_56 rfl rfl rfl ?_
        refine jr_iload (pc' := 59) (i := 4) dX8_led_57 rfl rfl ?_
        obtain ⟨P1, hC1, hK1⟩ := k2 c1 c2 c3
        exact jr_callV (pc' := 62) (k := 52) (av := [.int ((x - x / (h.1 52 0) * (h.1 52 0)) + 1), .int ((x / (h.1 52 0)) + 0)]) (st := []) sX8_cell wmX8_227 dX8_led_59 rfl (by decide) rfl (by decide) rfl rfl rfl (Nat.le_of_ble_eq_true rfl) rfl hC1 (fun v h2 hp => jG.weak (lv' := [none, none, none, none, none]) trivial (hK1 v h2 hp))
  · refine jr_icmp_neT (pc' := 15) dX8_led_8 rfl c1 ?_
    refine jr_iload_n (pc' := 16) (i := 2) dX8_led_15 rfl rfl rfl ?_
    refine jr_iconst (pc' := 17) (v := 4) dX8_led_16 rfl (by decide) ?_
    by_cases c4 : y = 4
    · refine jr_icmp_neF (pc' := 20) (tgt := 24) dX8_led_17 rfl rfl c4 ?_
      refine jr_iconst (pc' := 21) (v := (-1)) dX8_led_20 rfl (by decide) ?_
      refine jr_goto (pc' := 25) dX8_led_21 rfl ?_
      refine jr_iadd (pc' := 26)  dX8_led_25 rfl  ?_
      refine jr_istore_n (pc' := 27) (i := 3) (lv' := [some (.ref 52), some (.int x), some (.int y), some (.int ((x - x / (h.1 52 0) * (h.1 52 0)) + (-1))), none]) dX8_led_26 rfl rfl (by decide) rfl ?_
      refine jr_iload_n (pc' := 28) (i := 1) dX8_led_27 rfl rfl rfl ?_
      refine jr_aload_n (pc' := 29) (i := 0) dX8_led_28 rfl rfl rfl ?_
      refine jr_get (pc' := 32) jK8 (k := 52) (j := 0) (v := .int (h.1 52 0)) wfX8_76 dX8_led_29 rfl (by decide) rfl (by decide) rfl ?_
      refine jr_idiv (pc' := 33)  dX8_led_32 rfl (b2 c1 c4) ?_
      refine jr_iload_n (pc' := 34) (i := 2) dX8_led_33 rfl rfl rfl ?_
      refine jr_iconst (pc' := 35) (v := 3) dX8_led_34 rfl (by decide) ?_
      by_cases c5 : y = 3
      · refine jr_icmp_neF (pc' := 38) (tgt := 42) dX8_led_35 rfl rfl c5 ?_
        refine jr_iconst (pc' := 39) (v := 1) dX8_led_38 rfl (by decide) ?_
        refine jr_goto (pc' := 52) dX8_led_39 rfl ?_
        refine jr_iadd (pc' := 53)  dX8_led_52 rfl  ?_
        refine jr_istore (pc' := 55) (i := 4) (lv' := [some (.ref 52), some (.int x), some (.int y), some (.int ((x - x / (h.1 52 0) * (h.1 52 0)) + (-1))), some (.int ((x / (h.1 52 0)) + 1))]) dX8_led_53 rfl (by decide) rfl ?_
        refine jr_aload_n (pc' := 56) (i := 0) dX8_led_55 rfl rfl rfl ?_
        refine jr_iload_n (pc' := 57) (i := 3) dX8_led_56 rfl rfl rfl ?_
        refine jr_iload (pc' := 59) (i := 4) dX8_led_57 rfl rfl ?_
        obtain ⟨P1, hC1, hK1⟩ := k3 c1 c4 c5
        exact jr_callV (pc' := 62) (k := 52) (av := [.int ((x - x / (h.1 52 0) * (h.1 52 0)) + (-1)), .int ((x / (h.1 52 0)) + 1)]) (st := []) sX8_cell wmX8_227 dX8_led_59 rfl (by decide) rfl (by decide) rfl rfl rfl (Nat.le_of_ble_eq_true rfl) rfl hC1 (fun v h2 hp => jG.weak (lv' := [none, none, none, none, none]) trivial (hK1 v h2 hp))
      · refine jr_icmp_neT (pc' := 42) dX8_led_35 rfl c5 ?_
        refine jr_iload_n (pc' := 43) (i := 2) dX8_led_42 rfl rfl rfl ?_
        refine jr_iconst (pc' := 44) (v := 1) dX8_led_43 rfl (by decide) ?_
        by_cases c6 : y = 1
        · refine jr_icmp_neF (pc' := 47) (tgt := 51) dX8_led_44 rfl rfl c6 ?_
          refine jr_iconst (pc' := 48) (v := (-1)) dX8_led_47 rfl (by decide) ?_
          refine jr_goto (pc' := 52) dX8_led_48 rfl ?_
          refine jr_iadd (pc' := 53)  dX8_led_52 rfl  ?_
          refine jr_istore (pc' := 55) (i := 4) (lv' := [some (.ref 52), some (.int x), some (.int y), some (.int ((x - x / (h.1 52 0) * (h.1 52 0)) + (-1))), some (.int ((x / (h.1 52 0)) + (-1)))]) dX8_led_53 rfl (by decide) rfl ?_
          refine jr_aload_n (pc' := 56) (i := 0) dX8_led_55 rfl rfl rfl ?_
          refine jr_iload_n (pc' := 57) (i := 3) dX8_led_56 rfl rfl rfl ?_
          refine jr_iload (pc' := 59) (i := 4) dX8_led_57 rfl rfl ?_
          obtain ⟨P1, hC1, hK1⟩ := k4 c1 c4 c5 c6
          exact jr_callV (pc' := 62) (k := 52) (av := [.int ((x - x / (h.1 52 0) * (h.1 52 0)) + (-1)), .int ((x / (h.1 52 0)) + (-1))]) (st := []) sX8_cell wmX8_227 dX8_led_59 rfl (by decide) rfl (by decide) rfl rfl rfl (Nat.le_of_ble_eq_true rfl) rfl hC1 (fun v h2 hp => jG.weak (lv' := [none, none, none, none, none]) trivial (hK1 v h2 hp))
        · refine jr_icmp_neT (pc' := 51) dX8_led_44 rfl c6 ?_
          refine jr_iconst (pc' := 52) (v := 0) dX8_led_51 rfl (by decide) ?_
          refine jr_iadd (pc' := 53)  dX8_led_52 rfl  ?_
          refine jr_istore (pc' := 55) (i := 4) (lv' := [some (.ref 52), some (.int x), some (.int y), some (.int ((x - x / (h.1 52 0) * (h.1 52 0)) + (-1))), some (.int ((x / (h.1 52 0)) + 0))]) dX8_led_53 rfl (by decide) rfl ?_
          refine jr_aload_n (pc' := 56) (i := 0) dX8_led_55 rfl rfl rfl ?_
          refine jr_iload_n (pc' := 57) (i := 3) dX8_led_56 rfl rfl rfl ?_
          refine jr_iload (pc' := 59) (i := 4) dX8_led_57 rfl rfl ?_
          obtain ⟨P1, hC1, hK1⟩ := k5 c1 c4 c5 c6
          exact jr_callV (pc' := 62) (k := 52) (av := [.int ((x - x / (h.1 52 0) * (h.1 52 0)) + (-1)), .int ((x / (h.1 52 0)) + 0)]) (st := []) sX8_cell wmX8_227 dX8_led_59 rfl (by decide) rfl (by decide) rfl rfl rfl (Nat.le_of_ble_eq_true rfl) rfl hC1 (fun v h2 hp => jG.weak (lv' := [none, none, none, none, none]) trivial (hK1 v h2 hp))
    · refine jr_icmp_neT (pc' := 24) dX8_led_17 rfl c4 ?_
      refine jr_iconst (pc' := 25) (v := 0) dX8_led_24 rfl (by decide) ?_
      refine jr_iadd (pc' := 26)  dX8_led_25 rfl  ?_
      refine jr_istore_n (pc' := 27) (i := 3) (lv' := [some (.ref 52), some (.int x), some (.int y), some (.int ((x - x / (h.1 52 0) * (h.1 52 0)) + 0)), none]) dX8_led_26 rfl rfl (by decide) rfl ?_
      refine jr_iload_n (pc' := 28) (i := 1) dX8_led_27 rfl rfl rfl ?_
      refine jr_aload_n (pc' := 29) (i := 0) dX8_led_28 rfl rfl rfl ?_
      refine jr_get (pc' := 32) jK8 (k := 52) (j := 0) (v := .int (h.1 52 0)) wfX8_76 dX8_led_29 rfl (by decide) rfl (by decide) rfl ?_
      refine jr_idiv (pc' := 33)  dX8_led_32 rfl (b3 c1 c4) ?_
      refine jr_iload_n (pc' := 34) (i := 2) dX8_led_33 rfl rfl rfl ?_
      refine jr_iconst (pc' := 35) (v := 3) dX8_led_34 rfl (by decide) ?_
      by_cases c7 : y = 3
      · refine jr_icmp_neF (pc' := 38) (tgt := 42) dX8_led_35 rfl rfl c7 ?_
        refine jr_iconst (pc' := 39) (v := 1) dX8_led_38 rfl (by decide) ?_
        refine jr_goto (pc' := 52) dX8_led_39 rfl ?_
        refine jr_iadd (pc' := 53)  dX8_led_52 rfl  ?_
        refine jr_istore (pc' := 55) (i := 4) (lv' := [some (.ref 52), some (.int x), some (.int y), some (.int ((x - x / (h.1 52 0) * (h.1 52 0)) + 0)), some (.int ((x / (h.1 52 0)) + 1))]) dX8_led_53 rfl (by decide) rfl ?_
        refine jr_aload_n (pc' := 56) (i := 0) dX8_led_55 rfl rfl rfl ?_
        refine jr_iload_n (pc' := 57) (i := 3) dX8_led_56 rfl rfl rfl ?_
        refine jr_iload (pc' := 59) (i := 4) dX8_led_57 rfl rfl ?_
        obtain ⟨P1, hC1, hK1⟩ := k6 c1 c4 c7
        exact jr_callV (pc' := 62) (k := 52) (av := [.int ((x - x / (h.1 52 0) * (h.1 52 0)) + 0), .int ((x / (h.1 52 0)) + 1)]) (st := []) sX8_cell wmX8_227 dX8_led_59 rfl (by decide) rfl (by decide) rfl rfl rfl (Nat.le_of_ble_eq_true rfl) rfl hC1 (fun v h2 hp => jG.weak (lv' := [none, none, none, none, none]) trivial (hK1 v h2 hp))
      · refine jr_icmp_neT (pc' := 42) dX8_led_35 rfl c7 ?_
        refine jr_iload_n (pc' := 43) (i := 2) dX8_led_42 rfl rfl rfl ?_
        refine jr_iconst (pc' := 44) (v := 1) dX8_led_43 rfl (by decide) ?_
        by_cases c8 : y = 1
        · refine jr_icmp_neF (pc' := 47) (tgt := 51) dX8_led_44 rfl rfl c8 ?_
          refine jr_iconst (pc' := 48) (v := (-1)) dX8_led_47 rfl (by decide) ?_
          refine jr_goto (pc' := 52) dX8_led_48 rfl ?_
          refine jr_iadd (pc' := 53)  dX8_led_52 rfl  ?_
          refine jr_istore (pc' := 55) (i := 4) (lv' := [some (.ref 52), some (.int x), some (.int y), some (.int ((x - x / (h.1 52 0) * (h.1 52 0)) + 0)), some (.int ((x / (h.1 52 0)) + (-1)))]) dX8_led_53 rfl (by decide) rfl ?_
          refine jr_aload_n (pc' := 56) (i := 0) dX8_led_55 rfl rfl rfl ?_
          refine jr_iload_n (pc' := 57) (i := 3) dX8_led_56 rfl rfl rfl ?_
          refine jr_iload (pc' := 59) (i := 4) dX8_led_57 rfl rfl ?_
          obtain ⟨P1, hC1, hK1⟩ := k7 c1 c4 c7 c8
          exact jr_callV (pc' := 62) (k := 52) (av := [.int ((x - x / (h.1 52 0) * (h.1 52 0)) + 0), .int ((x / (h.1 52 0)) + (-1))]) (st := []) sX8_cell wmX8_227 dX8_led_59 rfl (by decide) rfl (by decide) rfl rfl rfl (Nat.le_of_ble_eq_true rfl) rfl hC1 (fun v h2 hp => jG.weak (lv' := [none, none, none, none, none]) trivial (hK1 v h2 hp))
        · refine jr_icmp_neT (pc' := 51) dX8_led_44 rfl c8 ?_
          refine jr_iconst (pc' := 52) (v := 0) dX8_led_51 rfl (by decide) ?_
          refine jr_iadd (pc' := 53)  dX8_led_52 rfl  ?_
          refine jr_istore (pc' := 55) (i := 4) (lv' := [some (.ref 52), some (.int x), some (.int y), some (.int ((x - x / (h.1 52 0) * (h.1 52 0)) + 0)), some (.int ((x / (h.1 52 0)) + 0))]) dX8_led_53 rfl (by decide) rfl ?_
          refine jr_aload_n (pc' := 56) (i := 0) dX8_led_55 rfl rfl rfl ?_
          refine jr_iload_n (pc' := 57) (i := 3) dX8_led_56 rfl rfl rfl ?_
          refine jr_iload (pc' := 59) (i := 4) dX8_led_57 rfl rfl ?_
          obtain ⟨P1, hC1, hK1⟩ := k8 c1 c4 c7 c8
          exact jr_callV (pc' := 62) (k := 52) (av := [.int ((x - x / (h.1 52 0) * (h.1 52 0)) + 0), .int ((x / (h.1 52 0)) + 0)]) (st := []) sX8_cell wmX8_227 dX8_led_59 rfl (by decide) rfl (by decide) rfl rfl rfl (Nat.le_of_ble_eq_true rfl) rfl hC1 (fun v h2 hp => jG.weak (lv' := [none, none, none, none, none]) trivial (hK1 v h2 hp))

theorem q_Moled_62 {E : jEnv} {n : Nat} {X : State → Prop} {Post : Option Value → HP → Prop} (s0 : Int32) (h : HP)
    (k0 : Post (some (.int s0)) h)
    : jG E mX8_led (n + 1) X Post 62 [none, none, none, none, none] [.int s0] h := by
  exact jr_iret dX8_led_62 rfl rfl (k0)

theorem q_Modrift_0 {E : jEnv} {n : Nat} {X : State → Prop} {Post : Option Value → HP → Prop} (x : Int32) (h : HP)
    (k0 : jCall E mX8_in n [.long x.toInt64, .long 1, .long 99] h (fun v h2 => jG E mX8_drift (n + 1) X Post 9 [some (.ref 52), some (.int x), none, none] (v.toList ++ []) h2))
    : jG E mX8_drift (n + 1) X Post 0 [some (.ref 52), some (.int x), none, none] [] h := by
  refine jr_iload_n (pc' := 1) (i := 1) dX8_drift_0 rfl rfl rfl ?_
  refine jr_i2l (pc' := 2)  dX8_drift_1 rfl  ?_
  refine jr_lconst (pc' := 3) (v := 1) dX8_drift_2 rfl (by decide) ?_
  refine jr_ldc2 (pc' := 6) (v := 99) dX8_drift_3 rfl wcX8_250 ?_
  obtain ⟨P1, hC1, hK1⟩ := k0
  exact jr_callS (pc' := 9) (av := [.long x.toInt64, .long 1, .long 99]) (st := []) sX8_in wmX8_79 dX8_drift_6 rfl rfl (Nat.le_of_ble_eq_true rfl) rfl hC1 (fun v h2 hp => jG.weak (lv' := [some (.ref 52), some (.int x), none, none]) ⟨rfl, rfl, trivial⟩ (hK1 v h2 hp))

theorem q_Modrift_9 {E : jEnv} {n : Nat} {X : State → Prop} {Post : Option Value → HP → Prop} (a1 : Int32) (s0 : Int32) (h : HP)
    (k0 : (s0 = 0) → Post (some (.int (-1000000002))) h)
    (k1 : (¬ s0 = 0) → ((h.1 52 0) = 0) → Post (some (.int (-1000000003))) h)
    (k2 : (¬ s0 = 0) → (¬ (h.1 52 0) = 0) → jG E mX8_drift (n + 1) X Post 28 [some (.ref 52), some (.int a1), some (.int 0), none] [] h)
    : jG E mX8_drift (n + 1) X Post 9 [some (.ref 52), some (.int a1), none, none] [.int s0] h := by
  by_cases c1 : s0 = 0
  · refine jr_if_neF (pc' := 12) (tgt := 15) dX8_drift_9 rfl rfl c1 ?_
    refine jr_ldc (pc' := 14) (v := (-1000000002)) dX8_drift_12 rfl wcX8_94 ?_
    exact jr_iret dX8_drift_14 rfl rfl (k0 c1)
  · refine jr_if_neT (pc' := 15) dX8_drift_9 rfl c1 ?_
    refine jr_aload_n (pc' := 16) (i := 0) dX8_drift_15 rfl rfl rfl ?_
    refine jr_get (pc' := 19) jK8 (k := 52) (j := 0) (v := .int (h.1 52 0)) wfX8_76 dX8_drift_16 rfl (by decide) rfl (by decide) rfl ?_
    by_cases c2 : (h.1 52 0) = 0
    · refine jr_if_neF (pc' := 22) (tgt := 26) dX8_drift_19 rfl rfl c2 ?_
      refine jr_ldcw (pc' := 25) (v := (-1000000003)) dX8_drift_22 rfl wcX8_259 ?_
      exact jr_iret dX8_drift_25 rfl rfl (k1 c1 c2)
    · refine jr_if_neT (pc' := 26) dX8_drift_19 rfl c2 ?_
      refine jr_iconst (pc' := 27) (v := 0) dX8_drift_26 rfl (by decide) ?_
      refine jr_istore_n (pc' := 28) (i := 2) (lv' := [some (.ref 52), some (.int a1), some (.int 0), none]) dX8_drift_27 rfl rfl (by decide) rfl ?_
      exact jG.weak (lv' := [some (.ref 52), some (.int a1), some (.int 0), none]) ⟨rfl, rfl, rfl, trivial⟩ (k2 c1 c2)

theorem q_Modrift_28 {E : jEnv} {n : Nat} {X : State → Prop} {Post : Option Value → HP → Prop} (a1 : Int32) (a2 : Int32) (h : HP)
    (k0 : (a1 ≤ a2) → Post (some (.int (h.1 56 0))) h)
    (k1 : (¬ a1 ≤ a2) → jG E mX8_drift (n + 1) X Post 35 [some (.ref 52), some (.int a1), some (.int a2), some (.int 0)] [] h)
    : jG E mX8_drift (n + 1) X Post 28 [some (.ref 52), some (.int a1), some (.int a2), none] [] h := by
  refine jr_iload_n (pc' := 29) (i := 2) dX8_drift_28 rfl rfl rfl ?_
  refine jr_iload_n (pc' := 30) (i := 1) dX8_drift_29 rfl rfl rfl ?_
  by_cases c1 : a1 ≤ a2
  · refine jr_icmp_geT (pc' := 110) dX8_drift_30 rfl c1 ?_
    refine jr_aload_n (pc' := 111) (i := 0) dX8_drift_110 rfl rfl rfl ?_
    refine jr_get (pc' := 114) jK8 (k := 52) (j := 9) (v := .ref 56) wfX8_19 dX8_drift_111 rfl (by decide) rfl (by decide) rfl ?_
    refine jr_iconst (pc' := 115) (v := 0) dX8_drift_114 rfl (by decide) ?_
    refine jr_iald (pc' := 116) (v := h.1 56 0) dX8_drift_115 rfl (by decide) rfl (jvin (by decide)) ((congrArg (h.1 56) (by decide : (0 : Int32).toNatClampNeg = 0)).trans rfl) ?_
    exact jr_iret dX8_drift_116 rfl rfl (k0 c1)
  · refine jr_icmp_geF (pc' := 33) (tgt := 110) dX8_drift_30 rfl rfl c1 ?_
    refine jr_iconst (pc' := 34) (v := 0) dX8_drift_33 rfl (by decide) ?_
    refine jr_istore_n (pc' := 35) (i := 3) (lv' := [some (.ref 52), some (.int a1), some (.int a2), some (.int 0)]) dX8_drift_34 rfl rfl (by decide) rfl ?_
    exact jG.weak (lv' := [some (.ref 52), some (.int a1), some (.int a2), some (.int 0)]) ⟨rfl, rfl, rfl, rfl, trivial⟩ (k1 c1)

theorem q_Modrift_35 {E : jEnv} {n : Nat} {X : State → Prop} {Post : Option Value → HP → Prop} (a1 : Int32) (a2 : Int32) (a3 : Int32) (h : HP)
    (k0 : ((h.1 52 5) ≤ a3) → jCall E mX8_goesBy n [.ref 52] h (fun v h2 => jG E mX8_drift (n + 1) X Post 104 [some (.ref 52), some (.int a1), some (.int a2), none] (v.toList ++ []) h2))
    (b0 : (¬ (h.1 52 5) ≤ a3) → vp_in ((2 + (6 * a3)) + 5) 62)
    (k1 : (¬ (h.1 52 5) ≤ a3) → jG E mX8_drift (n + 1) X Post 35 [some (.ref 52), some (.int a1), some (.int a2), some (.int (a3 + 1))] [] (jPI (jPI h 56 1 ((((((h.1 56 1).toInt64) * 1103515245) + 12345) - ((((h.1 56 1).toInt64) * 1103515245) + 12345) / 2147483648 * 2147483648).toInt32)) 56 (((2 + (6 * a3)) + 5).toNatClampNeg) ((((((((h.1 56 1).toInt64) * 1103515245) + 12345) - ((((h.1 56 1).toInt64) * 1103515245) + 12345) / 2147483648 * 2147483648).toInt32) / 65536) - (((((((h.1 56 1).toInt64) * 1103515245) + 12345) - ((((h.1 56 1).toInt64) * 1103515245) + 12345) / 2147483648 * 2147483648).toInt32) / 65536) / 5 * 5)))
    : jG E mX8_drift (n + 1) X Post 35 [some (.ref 52), some (.int a1), some (.int a2), some (.int a3)] [] h := by
  refine jr_iload_n (pc' := 36) (i := 3) dX8_drift_35 rfl rfl rfl ?_
  refine jr_aload_n (pc' := 37) (i := 0) dX8_drift_36 rfl rfl rfl ?_
  refine jr_get (pc' := 40) jK8 (k := 52) (j := 5) (v := .int (h.1 52 5)) wfX8_86 dX8_drift_37 rfl (by decide) rfl (by decide) rfl ?_
  by_cases c1 : (h.1 52 5) ≤ a3
  · refine jr_icmp_geT (pc' := 100) dX8_drift_40 rfl c1 ?_
    refine jr_aload_n (pc' := 101) (i := 0) dX8_drift_100 rfl rfl rfl ?_
    obtain ⟨P1, hC1, hK1⟩ := k0 c1
    exact jr_callV (pc' := 104) (k := 52) (av := []) (st := []) sX8_goesBy wmX8_260 dX8_drift_101 rfl (by decide) rfl (by decide) rfl rfl rfl (Nat.le_of_ble_eq_true rfl) rfl hC1 (fun v h2 hp => jG.weak (lv' := [some (.ref 52), some (.int a1), some (.int a2), none]) ⟨rfl, rfl, rfl, trivial⟩ (hK1 v h2 hp))
  · refine jr_icmp_geF (pc' := 43) (tgt := 100) dX8_drift_40 rfl rfl c1 ?_
    refine jr_aload_n (pc' := 44) (i := 0) dX8_drift_43 rfl rfl rfl ?_
    refine jr_get (pc' := 47) jK8 (k := 52) (j := 9) (v := .ref 56) wfX8_19 dX8_drift_44 rfl (by decide) rfl (by decide) rfl ?_
    refine jr_iconst (pc' := 48) (v := 1) dX8_drift_47 rfl (by decide) ?_
    refine jr_aload_n (pc' := 49) (i := 0) dX8_drift_48 rfl rfl rfl ?_
    refine jr_get (pc' := 52) jK8 (k := 52) (j := 9) (v := .ref 56) wfX8_19 dX8_drift_49 rfl (by decide) rfl (by decide) rfl ?_
    refine jr_iconst (pc' := 53) (v := 1) dX8_drift_52 rfl (by decide) ?_
    refine jr_iald (pc' := 54) (v := h.1 56 1) dX8_drift_53 rfl (by decide) rfl (jvin (by decide)) ((congrArg (h.1 56) (by decide : (1 : Int32).toNatClampNeg = 1)).trans rfl) ?_
    refine jr_i2l (pc' := 55)  dX8_drift_54 rfl  ?_
    refine jr_ldc2 (pc' := 58) (v := 1103515245) dX8_drift_55 rfl wcX8_263 ?_
    refine jr_lmul (pc' := 59)  dX8_drift_58 rfl  ?_
    refine jr_ldc2 (pc' := 62) (v := 12345) dX8_drift_59 rfl wcX8_265 ?_
    refine jr_ladd (pc' := 63)  dX8_drift_62 rfl  ?_
    refine jr_ldc2 (pc' := 66) (v := 2147483648) dX8_drift_63 rfl wcX8_267 ?_
    refine jr_lrem (pc' := 67)  dX8_drift_66 rfl (by decide) ?_
    refine jr_l2i (pc' := 68)  dX8_drift_67 rfl  ?_
    refine jr_iast (pc' := 69) (j := 1) dX8_drift_68 rfl (by decide) rfl (jvin (by decide)) (by decide) ?_
    refine jr_aload_n (pc' := 70) (i := 0) dX8_drift_69 rfl rfl rfl ?_
    refine jr_get (pc' := 73) jK8 (k := 52) (j := 9) (v := .ref 56) wfX8_19 dX8_drift_70 rfl (by decide) rfl (by decide) rfl ?_
    refine jr_iconst (pc' := 74) (v := 2) dX8_drift_73 rfl (by decide) ?_
    refine jr_bipush (pc' := 76) (v := 6) dX8_drift_74 rfl (by decide) ?_
    refine jr_iload_n (pc' := 77) (i := 3) dX8_drift_76 rfl rfl rfl ?_
    refine jr_imul (pc' := 78)  dX8_drift_77 rfl  ?_
    refine jr_iadd (pc' := 79)  dX8_drift_78 rfl  ?_
    refine jr_iconst (pc' := 80) (v := 5) dX8_drift_79 rfl (by decide) ?_
    refine jr_iadd (pc' := 81)  dX8_drift_80 rfl  ?_
    refine jr_aload_n (pc' := 82) (i := 0) dX8_drift_81 rfl rfl rfl ?_
    refine jr_get (pc' := 85) jK8 (k := 52) (j := 9) (v := .ref 56) wfX8_19 dX8_drift_82 rfl (by decide) rfl (by decide) rfl ?_
    refine jr_iconst (pc' := 86) (v := 1) dX8_drift_85 rfl (by decide) ?_
    refine jr_iald (pc' := 87) (v := (((((h.1 56 1).toInt64) * 1103515245) + 12345) - ((((h.1 56 1).toInt64) * 1103515245) + 12345) / 2147483648 * 2147483648).toInt32) dX8_drift_86 rfl (by decide) rfl (jvin (by decide)) ((congrArg ((jPI h 56 1 ((((((h.1 56 1).toInt64) * 1103515245) + 12345) - ((((h.1 56 1).toInt64) * 1103515245) + 12345) / 2147483648 * 2147483648).toInt32)).1 56) (by decide : (1 : Int32).toNatClampNeg = 1)).trans rfl) ?_
    refine jr_ldcw (pc' := 90) (v := 65536) dX8_drift_87 rfl wcX8_269 ?_
    refine jr_idiv (pc' := 91)  dX8_drift_90 rfl (by decide) ?_
    refine jr_iconst (pc' := 92) (v := 5) dX8_drift_91 rfl (by decide) ?_
    refine jr_irem (pc' := 93)  dX8_drift_92 rfl (by decide) ?_
    refine jr_iast (pc' := 94) (j := ((2 + (6 * a3)) + 5).toNatClampNeg) dX8_drift_93 rfl (by decide) rfl (b0 c1) rfl ?_
    refine jr_iinc (pc' := 97) (i := 3) (v := (a3 + 1)) (lv' := [some (.ref 52), some (.int a1), some (.int a2), some (.int (a3 + 1))]) dX8_drift_94 rfl rfl (congrArg (a3 + ·) (by decide)) (by decide) rfl ?_
    refine jr_goto (pc' := 35) dX8_drift_97 rfl ?_
    exact jG.weak (lv' := [some (.ref 52), some (.int a1), some (.int a2), some (.int (a3 + 1))]) ⟨rfl, rfl, rfl, rfl, trivial⟩ (k1 c1)

theorem q_Modrift_104 {E : jEnv} {n : Nat} {X : State → Prop} {Post : Option Value → HP → Prop} (a1 : Int32) (a2 : Int32) (h : HP)
    (k0 : jG E mX8_drift (n + 1) X Post 28 [some (.ref 52), some (.int a1), some (.int (a2 + 1)), none] [] h)
    : jG E mX8_drift (n + 1) X Post 104 [some (.ref 52), some (.int a1), some (.int a2), none] [] h := by
  refine jr_iinc (pc' := 107) (i := 2) (v := (a2 + 1)) (lv' := [some (.ref 52), some (.int a1), some (.int (a2 + 1)), none]) dX8_drift_104 rfl rfl (congrArg (a2 + ·) (by decide)) (by decide) rfl ?_
  refine jr_goto (pc' := 28) dX8_drift_107 rfl ?_
  exact jG.weak (lv' := [some (.ref 52), some (.int a1), some (.int (a2 + 1)), none]) ⟨rfl, rfl, rfl, trivial⟩ (k0)

theorem q_Mosaw_0 {E : jEnv} {n : Nat} {X : State → Prop} {Post : Option Value → HP → Prop} (x : Int32) (y : Int32) (h : HP)
    (k0 : jCall E mX8_isMan n [.ref 52, .int x] h (fun v h2 => jG E mX8_saw (n + 1) X Post 5 [some (.ref 52), some (.int x), some (.int y), none] (v.toList ++ []) h2))
    : jG E mX8_saw (n + 1) X Post 0 [some (.ref 52), some (.int x), some (.int y), none] [] h := by
  refine jr_aload_n (pc' := 1) (i := 0) dX8_saw_0 rfl rfl rfl ?_
  refine jr_iload_n (pc' := 2) (i := 1) dX8_saw_1 rfl rfl rfl ?_
  obtain ⟨P1, hC1, hK1⟩ := k0
  exact jr_callV (pc' := 5) (k := 52) (av := [.int x]) (st := []) sX8_isMan wmX8_252 dX8_saw_2 rfl (by decide) rfl (by decide) rfl rfl rfl (Nat.le_of_ble_eq_true rfl) rfl hC1 (fun v h2 hp => jG.weak (lv' := [some (.ref 52), some (.int x), some (.int y), none]) ⟨rfl, rfl, rfl, trivial⟩ (hK1 v h2 hp))

theorem q_Mosaw_5 {E : jEnv} {n : Nat} {X : State → Prop} {Post : Option Value → HP → Prop} (a1 : Int32) (a2 : Int32) (s0 : Int32) (h : HP)
    (k0 : (s0 = 0) → Post (some (.int (-1000000001))) h)
    (k1 : (¬ s0 = 0) → jCall E mX8_in n [.long a2.toInt64, .long 0, .long 6] h (fun v h2 => jG E mX8_saw (n + 1) X Post 20 [some (.ref 52), some (.int a1), some (.int a2), none] (v.toList ++ []) h2))
    : jG E mX8_saw (n + 1) X Post 5 [some (.ref 52), some (.int a1), some (.int a2), none] [.int s0] h := by
  by_cases c1 : s0 = 0
  · refine jr_if_neF (pc' := 8) (tgt := 11) dX8_saw_5 rfl rfl c1 ?_
    refine jr_ldc (pc' := 10) (v := (-1000000001)) dX8_saw_8 rfl wcX8_249 ?_
    exact jr_iret dX8_saw_10 rfl rfl (k0 c1)
  · refine jr_if_neT (pc' := 11) dX8_saw_5 rfl c1 ?_
    refine jr_iload_n (pc' := 12) (i := 2) dX8_saw_11 rfl rfl rfl ?_
    refine jr_i2l (pc' := 13)  dX8_saw_12 rfl  ?_
    refine jr_lconst (pc' := 14) (v := 0) dX8_saw_13 rfl (by decide) ?_
    refine jr_ldc2 (pc' := 17) (v := 6) dX8_saw_14 rfl wcX8_255 ?_
    obtain ⟨P1, hC1, hK1⟩ := k1 c1
    exact jr_callS (pc' := 20) (av := [.long a2.toInt64, .long 0, .long 6]) (st := []) sX8_in wmX8_79 dX8_saw_17 rfl rfl (Nat.le_of_ble_eq_true rfl) rfl hC1 (fun v h2 hp => jG.weak (lv' := [some (.ref 52), some (.int a1), some (.int a2), none]) ⟨rfl, rfl, rfl, trivial⟩ (hK1 v h2 hp))

theorem q_Mosaw_20 {E : jEnv} {n : Nat} {X : State → Prop} {Post : Option Value → HP → Prop} (a1 : Int32) (a2 : Int32) (s0 : Int32) (h : HP)
    (k0 : (s0 = 0) → Post (some (.int (-1000000002))) h)
    (b0 : (¬ s0 = 0) → vp_in ((2 + (6 * a1)) + 2) 62)
    (b1 : (¬ s0 = 0) → vp_in ((2 + (6 * a1)) + 2) 62)
    (k1 : (¬ s0 = 0) → Post (some (.int (h.1 56 (((2 + (6 * a1)) + 2).toNatClampNeg)))) (jPI h 56 (((2 + (6 * a1)) + 2).toNatClampNeg) a2))
    : jG E mX8_saw (n + 1) X Post 20 [some (.ref 52), some (.int a1), some (.int a2), none] [.int s0] h := by
  by_cases c1 : s0 = 0
  · refine jr_if_neF (pc' := 23) (tgt := 26) dX8_saw_20 rfl rfl c1 ?_
    refine jr_ldc (pc' := 25) (v := (-1000000002)) dX8_saw_23 rfl wcX8_94 ?_
    exact jr_iret dX8_saw_25 rfl rfl (k0 c1)
  · refine jr_if_neT (pc' := 26) dX8_saw_20 rfl c1 ?_
    refine jr_aload_n (pc' := 27) (i := 0) dX8_saw_26 rfl rfl rfl ?_
    refine jr_get (pc' := 30) jK8 (k := 52) (j := 9) (v := .ref 56) wfX8_19 dX8_saw_27 rfl (by decide) rfl (by decide) rfl ?_
    refine jr_iconst (pc' := 31) (v := 2) dX8_saw_30 rfl (by decide) ?_
    refine jr_bipush (pc' := 33) (v := 6) dX8_saw_31 rfl (by decide) ?_
    refine jr_iload_n (pc' := 34) (i := 1) dX8_saw_33 rfl rfl rfl ?_
    refine jr_imul (pc' := 35)  dX8_saw_34 rfl  ?_
    refine jr_iadd (pc' := 36)  dX8_saw_35 rfl  ?_
    refine jr_iconst (pc' := 37) (v := 2) dX8_saw_36 rfl (by decide) ?_
    refine jr_iadd (pc' := 38)  dX8_saw_37 rfl  ?_
    refine jr_iald (pc' := 39) (v := h.1 56 (((2 + (6 * a1)) + 2).toNatClampNeg)) dX8_saw_38 rfl (by decide) rfl (b0 c1) rfl ?_
    refine jr_istore_n (pc' := 40) (i := 3) (lv' := [some (.ref 52), some (.int a1), some (.int a2), some (.int (h.1 56 (((2 + (6 * a1)) + 2).toNatClampNeg)))]) dX8_saw_39 rfl rfl (by decide) rfl ?_
    refine jr_aload_n (pc' := 41) (i := 0) dX8_saw_40 rfl rfl rfl ?_
    refine jr_get (pc' := 44) jK8 (k := 52) (j := 9) (v := .ref 56) wfX8_19 dX8_saw_41 rfl (by decide) rfl (by decide) rfl ?_
    refine jr_iconst (pc' := 45) (v := 2) dX8_saw_44 rfl (by decide) ?_
    refine jr_bipush (pc' := 47) (v := 6) dX8_saw_45 rfl (by decide) ?_
    refine jr_iload_n (pc' := 48) (i := 1) dX8_saw_47 rfl rfl rfl ?_
    refine jr_imul (pc' := 49)  dX8_saw_48 rfl  ?_
    refine jr_iadd (pc' := 50)  dX8_saw_49 rfl  ?_
    refine jr_iconst (pc' := 51) (v := 2) dX8_saw_50 rfl (by decide) ?_
    refine jr_iadd (pc' := 52)  dX8_saw_51 rfl  ?_
    refine jr_iload_n (pc' := 53) (i := 2) dX8_saw_52 rfl rfl rfl ?_
    refine jr_iast (pc' := 54) (j := ((2 + (6 * a1)) + 2).toNatClampNeg) dX8_saw_53 rfl (by decide) rfl (b1 c1) rfl ?_
    refine jr_iload_n (pc' := 55) (i := 3) dX8_saw_54 rfl rfl rfl ?_
    exact jr_iret dX8_saw_55 rfl rfl (k1 c1)

theorem q_Mostake_0 {E : jEnv} {n : Nat} {X : State → Prop} {Post : Option Value → HP → Prop} (x : Int32) (y : Int32) (z : Int32) (h : HP)
    (k0 : jCall E mX8_cell n [.ref 52, .int x, .int y] h (fun v h2 => jG E mX8_stake (n + 1) X Post 6 [some (.ref 52), none, none, some (.int z), none, none] (v.toList ++ []) h2))
    : jG E mX8_stake (n + 1) X Post 0 [some (.ref 52), some (.int x), some (.int y), some (.int z), none, none] [] h := by
  refine jr_aload_n (pc' := 1) (i := 0) dX8_stake_0 rfl rfl rfl ?_
  refine jr_iload_n (pc' := 2) (i := 1) dX8_stake_1 rfl rfl rfl ?_
  refine jr_iload_n (pc' := 3) (i := 2) dX8_stake_2 rfl rfl rfl ?_
  obtain ⟨P1, hC1, hK1⟩ := k0
  exact jr_callV (pc' := 6) (k := 52) (av := [.int x, .int y]) (st := []) sX8_cell wmX8_227 dX8_stake_3 rfl (by decide) rfl (by decide) rfl rfl rfl (Nat.le_of_ble_eq_true rfl) rfl hC1 (fun v h2 hp => jG.weak (lv' := [some (.ref 52), none, none, some (.int z), none, none]) ⟨rfl, rfl, trivial⟩ (hK1 v h2 hp))

theorem q_Mostake_6 {E : jEnv} {n : Nat} {X : State → Prop} {Post : Option Value → HP → Prop} (a3 : Int32) (s0 : Int32) (h : HP)
    (k0 : (s0 = (-1)) → Post (some (.int (-1000000001))) h)
    (b0 : (¬ s0 = (-1)) → vp_in (26 + s0) 62)
    (b1 : (¬ s0 = (-1)) → (a3 = 0) → vp_in (26 + s0) 62)
    (k1 : (¬ s0 = (-1)) → (a3 = 0) → Post (some (.int (h.1 56 ((26 + s0).toNatClampNeg)))) (jPI h 56 ((26 + s0).toNatClampNeg) 0))
    (b2 : (¬ s0 = (-1)) → (¬ a3 = 0) → vp_in (26 + s0) 62)
    (k2 : (¬ s0 = (-1)) → (¬ a3 = 0) → Post (some (.int (h.1 56 ((26 + s0).toNatClampNeg)))) (jPI h 56 ((26 + s0).toNatClampNeg) 1))
    : jG E mX8_stake (n + 1) X Post 6 [some (.ref 52), none, none, some (.int a3), none, none] [.int s0] h := by
  refine jr_istore (pc' := 8) (i := 4) (lv' := [some (.ref 52), none, none, some (.int a3), some (.int s0), none]) dX8_stake_6 rfl (by decide) rfl ?_
  refine jr_iload (pc' := 10) (i := 4) dX8_stake_8 rfl rfl ?_
  refine jr_iconst (pc' := 11) (v := (-1)) dX8_stake_10 rfl (by decide) ?_
  by_cases c1 : s0 = (-1)
  · refine jr_icmp_neF (pc' := 14) (tgt := 17) dX8_stake_11 rfl rfl c1 ?_
    refine jr_ldc (pc' := 16) (v := (-1000000001)) dX8_stake_14 rfl wcX8_249 ?_
    exact jr_iret dX8_stake_16 rfl rfl (k0 c1)
  · refine jr_icmp_neT (pc' := 17) dX8_stake_11 rfl c1 ?_
    refine jr_aload_n (pc' := 18) (i := 0) dX8_stake_17 rfl rfl rfl ?_
    refine jr_get (pc' := 21) jK8 (k := 52) (j := 9) (v := .ref 56) wfX8_19 dX8_stake_18 rfl (by decide) rfl (by decide) rfl ?_
    refine jr_bipush (pc' := 23) (v := 26) dX8_stake_21 rfl (by decide) ?_
    refine jr_iload (pc' := 25) (i := 4) dX8_stake_23 rfl rfl ?_
    refine jr_iadd (pc' := 26)  dX8_stake_25 rfl  ?_
    refine jr_iald (pc' := 27) (v := h.1 56 ((26 + s0).toNatClampNeg)) dX8_stake_26 rfl (by decide) rfl (b0 c1) rfl ?_
    refine jr_istore (pc' := 29) (i := 5) (lv' := [some (.ref 52), none, none, some (.int a3), some (.int s0), some (.int (h.1 56 ((26 + s0).toNatClampNeg)))]) dX8_stake_27 rfl (by decide) rfl ?_
    refine jr_aload_n (pc' := 30) (i := 0) dX8_stake_29 rfl rfl rfl ?_
    refine jr_get (pc' := 33) jK8 (k := 52) (j := 9) (v := .ref 56) wfX8_19 dX8_stake_30 rfl (by decide) rfl (by decide) rfl ?_
    refine jr_bipush (pc' := 35) (v := 26) dX8_stake_33 rfl (by decide) ?_
    refine jr_iload (pc' := 37) (i := 4) dX8_stake_35 rfl rfl ?_
    refine jr_iadd (pc' := 38)  dX8_stake_37 rfl  ?_
    refine jr_iload_n (pc' := 39) (i := 3) dX8_stake_38 rfl rfl rfl ?_
    by_cases c2 : a3 = 0
    · refine jr_if_eqT (pc' := 46) dX8_stake_39 rfl c2 ?_
      refine jr_iconst (pc' := 47) (v := 0) dX8_stake_46 rfl (by decide) ?_
      refine jr_iast (pc' := 48) (j := (26 + s0).toNatClampNeg) dX8_stake_47 rfl (by decide) rfl (b1 c1 c2) rfl ?_
      refine jr_iload (pc' := 50) (i := 5) dX8_stake_48 rfl rfl ?_
      exact jr_iret dX8_stake_50 rfl rfl (k1 c1 c2)
    · refine jr_if_eqF (pc' := 42) (tgt := 46) dX8_stake_39 rfl rfl c2 ?_
      refine jr_iconst (pc' := 43) (v := 1) dX8_stake_42 rfl (by decide) ?_
      refine jr_goto (pc' := 47) dX8_stake_43 rfl ?_
      refine jr_iast (pc' := 48) (j := (26 + s0).toNatClampNeg) dX8_stake_47 rfl (by decide) rfl (b2 c1 c2) rfl ?_
      refine jr_iload (pc' := 50) (i := 5) dX8_stake_48 rfl rfl ?_
      exact jr_iret dX8_stake_50 rfl rfl (k2 c1 c2)

theorem q_MocanBe_0 {E : jEnv} {n : Nat} {X : State → Prop} {Post : Option Value → HP → Prop} (x : Int32) (y : Int32) (z : Int32) (h : HP)
    (k0 : jCall E mX8_isMan n [.ref 52, .int x] h (fun v h2 => jG E mX8_canBe (n + 1) X Post 5 [some (.ref 52), some (.int x), some (.int y), some (.int z)] (v.toList ++ []) h2))
    : jG E mX8_canBe (n + 1) X Post 0 [some (.ref 52), some (.int x), some (.int y), some (.int z)] [] h := by
  refine jr_aload_n (pc' := 1) (i := 0) dX8_canBe_0 rfl rfl rfl ?_
  refine jr_iload_n (pc' := 2) (i := 1) dX8_canBe_1 rfl rfl rfl ?_
  obtain ⟨P1, hC1, hK1⟩ := k0
  exact jr_callV (pc' := 5) (k := 52) (av := [.int x]) (st := []) sX8_isMan wmX8_252 dX8_canBe_2 rfl (by decide) rfl (by decide) rfl rfl rfl (Nat.le_of_ble_eq_true rfl) rfl hC1 (fun v h2 hp => jG.weak (lv' := [some (.ref 52), some (.int x), some (.int y), some (.int z)]) ⟨rfl, rfl, rfl, rfl, trivial⟩ (hK1 v h2 hp))

theorem q_MocanBe_5 {E : jEnv} {n : Nat} {X : State → Prop} {Post : Option Value → HP → Prop} (a1 : Int32) (a2 : Int32) (a3 : Int32) (s0 : Int32) (h : HP)
    (k0 : (s0 = 0) → Post (some (.int (-1000000001))) h)
    (k1 : (¬ s0 = 0) → jCall E mX8_cell n [.ref 52, .int a2, .int a3] h (fun v h2 => jG E mX8_canBe (n + 1) X Post 14 [some (.ref 52), some (.int a1), some (.int a2), some (.int a3)] (v.toList ++ []) h2))
    : jG E mX8_canBe (n + 1) X Post 5 [some (.ref 52), some (.int a1), some (.int a2), some (.int a3)] [.int s0] h := by
  by_cases c1 : s0 = 0
  · refine jr_if_eqT (pc' := 32) dX8_canBe_5 rfl c1 ?_
    refine jr_ldc (pc' := 34) (v := (-1000000001)) dX8_canBe_32 rfl wcX8_249 ?_
    exact jr_iret dX8_canBe_34 rfl rfl (k0 c1)
  · refine jr_if_eqF (pc' := 8) (tgt := 32) dX8_canBe_5 rfl rfl c1 ?_
    refine jr_aload_n (pc' := 9) (i := 0) dX8_canBe_8 rfl rfl rfl ?_
    refine jr_iload_n (pc' := 10) (i := 2) dX8_canBe_9 rfl rfl rfl ?_
    refine jr_iload_n (pc' := 11) (i := 3) dX8_canBe_10 rfl rfl rfl ?_
    obtain ⟨P1, hC1, hK1⟩ := k1 c1
    exact jr_callV (pc' := 14) (k := 52) (av := [.int a2, .int a3]) (st := []) sX8_cell wmX8_227 dX8_canBe_11 rfl (by decide) rfl (by decide) rfl rfl rfl (Nat.le_of_ble_eq_true rfl) rfl hC1 (fun v h2 hp => jG.weak (lv' := [some (.ref 52), some (.int a1), some (.int a2), some (.int a3)]) ⟨rfl, rfl, rfl, rfl, trivial⟩ (hK1 v h2 hp))

theorem q_MocanBe_14 {E : jEnv} {n : Nat} {X : State → Prop} {Post : Option Value → HP → Prop} (a1 : Int32) (a2 : Int32) (a3 : Int32) (s0 : Int32) (h : HP)
    (k0 : (s0 = (-1)) → Post (some (.int (-1000000001))) h)
    (k1 : (¬ s0 = (-1)) → jCall E mX8_cell n [.ref 52, .int a2, .int a3] h (fun v h2 => jG E mX8_canBe (n + 1) X Post 26 [none, none, none, none] (v.toList ++ [.int a1, .ref 52]) h2))
    : jG E mX8_canBe (n + 1) X Post 14 [some (.ref 52), some (.int a1), some (.int a2), some (.int a3)] [.int s0] h := by
  refine jr_iconst (pc' := 15) (v := (-1)) dX8_canBe_14 rfl (by decide) ?_
  by_cases c1 : s0 = (-1)
  · refine jr_icmp_eqT (pc' := 32) dX8_canBe_15 rfl c1 ?_
    refine jr_ldc (pc' := 34) (v := (-1000000001)) dX8_canBe_32 rfl wcX8_249 ?_
    exact jr_iret dX8_canBe_34 rfl rfl (k0 c1)
  · refine jr_icmp_eqF (pc' := 18) (tgt := 32) dX8_canBe_15 rfl rfl c1 ?_
    refine jr_aload_n (pc' := 19) (i := 0) dX8_canBe_18 rfl rfl rfl ?_
    refine jr_iload_n (pc' := 20) (i := 1) dX8_canBe_19 rfl rfl rfl ?_
    refine jr_aload_n (pc' := 21) (i := 0) dX8_canBe_20 rfl rfl rfl ?_
    refine jr_iload_n (pc' := 22) (i := 2) dX8_canBe_21 rfl rfl rfl ?_
    refine jr_iload_n (pc' := 23) (i := 3) dX8_canBe_22 rfl rfl rfl ?_
    obtain ⟨P1, hC1, hK1⟩ := k1 c1
    exact jr_callV (pc' := 26) (k := 52) (av := [.int a2, .int a3]) (st := [.int a1, .ref 52]) sX8_cell wmX8_227 dX8_canBe_23 rfl (by decide) rfl (by decide) rfl rfl rfl (Nat.le_of_ble_eq_true rfl) rfl hC1 (fun v h2 hp => jG.weak (lv' := [none, none, none, none]) trivial (hK1 v h2 hp))

theorem q_MocanBe_26 {E : jEnv} {n : Nat} {X : State → Prop} {Post : Option Value → HP → Prop} (s0 : Int32) (s1 : Int32) (h : HP)
    (k0 : jCall E mX8_reaches n [.ref 52, .int s1, .int s0] h (fun v h2 => jG E mX8_canBe (n + 1) X Post 29 [none, none, none, none] (v.toList ++ []) h2))
    : jG E mX8_canBe (n + 1) X Post 26 [none, none, none, none] [.int s0, .int s1, .ref 52] h := by
  obtain ⟨P1, hC1, hK1⟩ := k0
  exact jr_callV (pc' := 29) (k := 52) (av := [.int s1, .int s0]) (st := []) sX8_reaches wmX8_278 dX8_canBe_26 rfl (by decide) rfl (by decide) rfl rfl rfl (Nat.le_of_ble_eq_true rfl) rfl hC1 (fun v h2 hp => jG.weak (lv' := [none, none, none, none]) trivial (hK1 v h2 hp))

theorem q_MocanBe_29 {E : jEnv} {n : Nat} {X : State → Prop} {Post : Option Value → HP → Prop} (s0 : Int32) (h : HP)
    (k0 : Post (some (.int s0)) h)
    : jG E mX8_canBe (n + 1) X Post 29 [none, none, none, none] [.int s0] h := by
  refine jr_goto (pc' := 34) dX8_canBe_29 rfl ?_
  exact jr_iret dX8_canBe_34 rfl rfl (k0)

theorem q_Moreaches_0 {E : jEnv} {n : Nat} {X : State → Prop} {Post : Option Value → HP → Prop} (x : Int32) (y : Int32) (h : HP)
    (k0 : jCall E mX8_spotOf n [.ref 52, .int x] h (fun v h2 => jG E mX8_reaches (n + 1) X Post 6 [some (.ref 52), some (.int x), some (.int y), none, none, none] (v.toList ++ [.long 1]) h2))
    : jG E mX8_reaches (n + 1) X Post 0 [some (.ref 52), some (.int x), some (.int y), none, none, none] [] h := by
  refine jr_lconst (pc' := 1) (v := 1) dX8_reaches_0 rfl (by decide) ?_
  refine jr_aload_n (pc' := 2) (i := 0) dX8_reaches_1 rfl rfl rfl ?_
  refine jr_iload_n (pc' := 3) (i := 1) dX8_reaches_2 rfl rfl rfl ?_
  obtain ⟨P1, hC1, hK1⟩ := k0
  exact jr_callV (pc' := 6) (k := 52) (av := [.int x]) (st := [.long 1]) sX8_spotOf wmX8_223 dX8_reaches_3 rfl (by decide) rfl (by decide) rfl rfl rfl (Nat.le_of_ble_eq_true rfl) rfl hC1 (fun v h2 hp => jG.weak (lv' := [some (.ref 52), some (.int x), some (.int y), none, none, none]) ⟨rfl, rfl, rfl, trivial⟩ (hK1 v h2 hp))

theorem q_Moreaches_6 {E : jEnv} {n : Nat} {X : State → Prop} {Post : Option Value → HP → Prop} (a1 : Int32) (a2 : Int32) (s0 : Int32) (t1 : Int64) (h : HP)
    (k0 : jG E mX8_reaches (n + 1) X Post 11 [some (.ref 52), some (.int a1), some (.int a2), some (.long (t1 <<< (s0.toInt64 &&& 63))), none, some (.int 0)] [] h)
    : jG E mX8_reaches (n + 1) X Post 6 [some (.ref 52), some (.int a1), some (.int a2), none, none, none] [.int s0, .long t1] h := by
  refine jr_lshl (pc' := 7)  dX8_reaches_6 rfl  ?_
  refine jr_lstore_n (pc' := 8) (i := 3) (lv' := [some (.ref 52), some (.int a1), some (.int a2), some (.long (t1 <<< (s0.toInt64 &&& 63))), none, none]) dX8_reaches_7 rfl rfl (by decide) rfl ?_
  refine jr_iconst (pc' := 9) (v := 0) dX8_reaches_8 rfl (by decide) ?_
  refine jr_istore (pc' := 11) (i := 5) (lv' := [some (.ref 52), some (.int a1), some (.int a2), some (.long (t1 <<< (s0.toInt64 &&& 63))), none, some (.int 0)]) dX8_reaches_9 rfl (by decide) rfl ?_
  exact jG.weak (lv' := [some (.ref 52), some (.int a1), some (.int a2), some (.long (t1 <<< (s0.toInt64 &&& 63))), none, some (.int 0)]) ⟨rfl, rfl, rfl, rfl, rfl, trivial⟩ (k0)

theorem q_Moreaches_11 {E : jEnv} {n : Nat} {X : State → Prop} {Post : Option Value → HP → Prop} (a1 : Int32) (a2 : Int32) (l3 : Int64) (a5 : Int32) (h : HP)
    (k0 : ((40 : Int32) < a5) → Post (some (.int (-1))) h)
    (k1 : (¬ (40 : Int32) < a5) → ((lg_cmp ((l3 >>> (a2.toInt64 &&& 63)) &&& 1) 1) = 0) → Post (some (.int a5)) h)
    (b0 : (¬ (40 : Int32) < a5) → (¬ (lg_cmp ((l3 >>> (a2.toInt64 &&& 63)) &&& 1) 1) = 0) → vp_in ((2 + (6 * a1)) + 2) 62)
    (k2 : (¬ (40 : Int32) < a5) → (¬ (lg_cmp ((l3 >>> (a2.toInt64 &&& 63)) &&& 1) 1) = 0) → jCall E mX8_stepped n [.ref 52, .long l3, .int (h.1 56 (((2 + (6 * a1)) + 2).toNatClampNeg)), .int (((h.1 56 0) + a5) + 1)] h (fun v h2 => jG E mX8_reaches (n + 1) X Post 60 [some (.ref 52), some (.int a1), some (.int a2), none, none, some (.int a5)] (v.toList ++ []) h2))
    : jG E mX8_reaches (n + 1) X Post 11 [some (.ref 52), some (.int a1), some (.int a2), some (.long l3), none, some (.int a5)] [] h := by
  refine jr_iload (pc' := 13) (i := 5) dX8_reaches_11 rfl rfl ?_
  refine jr_bipush (pc' := 15) (v := 40) dX8_reaches_13 rfl (by decide) ?_
  by_cases c1 : (40 : Int32) < a5
  · refine jr_icmp_gtT (pc' := 67) dX8_reaches_15 rfl c1 ?_
    refine jr_iconst (pc' := 68) (v := (-1)) dX8_reaches_67 rfl (by decide) ?_
    exact jr_iret dX8_reaches_68 rfl rfl (k0 c1)
  · refine jr_icmp_gtF (pc' := 18) (tgt := 67) dX8_reaches_15 rfl rfl c1 ?_
    refine jr_lload_n (pc' := 19) (i := 3) dX8_reaches_18 rfl rfl rfl ?_
    refine jr_iload_n (pc' := 20) (i := 2) dX8_reaches_19 rfl rfl rfl ?_
    refine jr_lshr (pc' := 21)  dX8_reaches_20 rfl  ?_
    refine jr_lconst (pc' := 22) (v := 1) dX8_reaches_21 rfl (by decide) ?_
    refine jr_land (pc' := 23)  dX8_reaches_22 rfl  ?_
    refine jr_lconst (pc' := 24) (v := 1) dX8_reaches_23 rfl (by decide) ?_
    refine jr_lcmp (pc' := 25)  dX8_reaches_24 rfl  ?_
    by_cases c2 : (lg_cmp ((l3 >>> (a2.toInt64 &&& 63)) &&& 1) 1) = 0
    · refine jr_if_neF (pc' := 28) (tgt := 31) dX8_reaches_25 rfl rfl c2 ?_
      refine jr_iload (pc' := 30) (i := 5) dX8_reaches_28 rfl rfl ?_
      exact jr_iret dX8_reaches_30 rfl rfl (k1 c1 c2)
    · refine jr_if_neT (pc' := 31) dX8_reaches_25 rfl c2 ?_
      refine jr_aload_n (pc' := 32) (i := 0) dX8_reaches_31 rfl rfl rfl ?_
      refine jr_lload_n (pc' := 33) (i := 3) dX8_reaches_32 rfl rfl rfl ?_
      refine jr_aload_n (pc' := 34) (i := 0) dX8_reaches_33 rfl rfl rfl ?_
      refine jr_get (pc' := 37) jK8 (k := 52) (j := 9) (v := .ref 56) wfX8_19 dX8_reaches_34 rfl (by decide) rfl (by decide) rfl ?_
      refine jr_iconst (pc' := 38) (v := 2) dX8_reaches_37 rfl (by decide) ?_
      refine jr_bipush (pc' := 40) (v := 6) dX8_reaches_38 rfl (by decide) ?_
      refine jr_iload_n (pc' := 41) (i := 1) dX8_reaches_40 rfl rfl rfl ?_
      refine jr_imul (pc' := 42)  dX8_reaches_41 rfl  ?_
      refine jr_iadd (pc' := 43)  dX8_reaches_42 rfl  ?_
      refine jr_iconst (pc' := 44) (v := 2) dX8_reaches_43 rfl (by decide) ?_
      refine jr_iadd (pc' := 45)  dX8_reaches_44 rfl  ?_
      refine jr_iald (pc' := 46) (v := h.1 56 (((2 + (6 * a1)) + 2).toNatClampNeg)) dX8_reaches_45 rfl (by decide) rfl (b0 c1 c2) rfl ?_
      refine jr_aload_n (pc' := 47) (i := 0) dX8_reaches_46 rfl rfl rfl ?_
      refine jr_get (pc' := 50) jK8 (k := 52) (j := 9) (v := .ref 56) wfX8_19 dX8_reaches_47 rfl (by decide) rfl (by decide) rfl ?_
      refine jr_iconst (pc' := 51) (v := 0) dX8_reaches_50 rfl (by decide) ?_
      refine jr_iald (pc' := 52) (v := h.1 56 0) dX8_reaches_51 rfl (by decide) rfl (jvin (by decide)) ((congrArg (h.1 56) (by decide : (0 : Int32).toNatClampNeg = 0)).trans rfl) ?_
      refine jr_iload (pc' := 54) (i := 5) dX8_reaches_52 rfl rfl ?_
      refine jr_iadd (pc' := 55)  dX8_reaches_54 rfl  ?_
      refine jr_iconst (pc' := 56) (v := 1) dX8_reaches_55 rfl (by decide) ?_
      refine jr_iadd (pc' := 57)  dX8_reaches_56 rfl  ?_
      obtain ⟨P1, hC1, hK1⟩ := k2 c1 c2
      exact jr_callV (pc' := 60) (k := 52) (av := [.long l3, .int (h.1 56 (((2 + (6 * a1)) + 2).toNatClampNeg)), .int (((h.1 56 0) + a5) + 1)]) (st := []) sX8_stepped wmX8_274 dX8_reaches_57 rfl (by decide) rfl (by decide) rfl rfl rfl (Nat.le_of_ble_eq_true rfl) rfl hC1 (fun v h2 hp => jG.weak (lv' := [some (.ref 52), some (.int a1), some (.int a2), none, none, some (.int a5)]) ⟨rfl, rfl, rfl, rfl, trivial⟩ (hK1 v h2 hp))

theorem q_Moreaches_60 {E : jEnv} {n : Nat} {X : State → Prop} {Post : Option Value → HP → Prop} (a1 : Int32) (a2 : Int32) (a5 : Int32) (t0 : Int64) (h : HP)
    (k0 : jG E mX8_reaches (n + 1) X Post 11 [some (.ref 52), some (.int a1), some (.int a2), some (.long t0), none, some (.int (a5 + 1))] [] h)
    : jG E mX8_reaches (n + 1) X Post 60 [some (.ref 52), some (.int a1), some (.int a2), none, none, some (.int a5)] [.long t0] h := by
  refine jr_lstore_n (pc' := 61) (i := 3) (lv' := [some (.ref 52), some (.int a1), some (.int a2), some (.long t0), none, some (.int a5)]) dX8_reaches_60 rfl rfl (by decide) rfl ?_
  refine jr_iinc (pc' := 64) (i := 5) (v := (a5 + 1)) (lv' := [some (.ref 52), some (.int a1), some (.int a2), some (.long t0), none, some (.int (a5 + 1))]) dX8_reaches_61 rfl rfl (congrArg (a5 + ·) (by decide)) (by decide) rfl ?_
  refine jr_goto (pc' := 11) dX8_reaches_64 rfl ?_
  exact jG.weak (lv' := [some (.ref 52), some (.int a1), some (.int a2), some (.long t0), none, some (.int (a5 + 1))]) ⟨rfl, rfl, rfl, rfl, rfl, trivial⟩ (k0)

theorem q_Mostepped_0 {E : jEnv} {n : Nat} {X : State → Prop} {Post : Option Value → HP → Prop} (x : Int64) (y : Int32) (z : Int32) (h : HP)
    (k0 : jG E mX8_stepped (n + 1) X Post 6 [some (.ref 52), some (.long x), none, some (.int y), some (.int z), some (.long x), none, some (.int 0), none] [] h)
    : jG E mX8_stepped (n + 1) X Post 0 [some (.ref 52), some (.long x), none, some (.int y), some (.int z), none, none, none, none] [] h := by
  refine jr_lload_n (pc' := 1) (i := 1) dX8_stepped_0 rfl rfl rfl ?_
  refine jr_lstore (pc' := 3) (i := 5) (lv' := [some (.ref 52), some (.long x), none, some (.int y), some (.int z), some (.long x), none, none, none]) dX8_stepped_1 rfl (by decide) rfl ?_
  refine jr_iconst (pc' := 4) (v := 0) dX8_stepped_3 rfl (by decide) ?_
  refine jr_istore (pc' := 6) (i := 7) (lv' := [some (.ref 52), some (.long x), none, some (.int y), some (.int z), some (.long x), none, some (.int 0), none]) dX8_stepped_4 rfl (by decide) rfl ?_
  exact jG.weak (lv' := [some (.ref 52), some (.long x), none, some (.int y), some (.int z), some (.long x), none, some (.int 0), none]) ⟨rfl, rfl, rfl, rfl, rfl, rfl, trivial⟩ (k0)

theorem q_Mostepped_6 {E : jEnv} {n : Nat} {X : State → Prop} {Post : Option Value → HP → Prop} (l1 : Int64) (a3 : Int32) (a4 : Int32) (l5 : Int64) (a7 : Int32) (h : HP)
    (k0 : (((h.1 52 0) * (h.1 52 1)) ≤ a7) → Post (some (.long l5)) h)
    (k1 : (¬ ((h.1 52 0) * (h.1 52 1)) ≤ a7) → jG E mX8_stepped (n + 1) X Post 23 [some (.ref 52), some (.long l1), none, some (.int a3), some (.int a4), some (.long l5), none, some (.int a7), some (.int 1)] [] h)
    : jG E mX8_stepped (n + 1) X Post 6 [some (.ref 52), some (.long l1), none, some (.int a3), some (.int a4), some (.long l5), none, some (.int a7), none] [] h := by
  refine jr_iload (pc' := 8) (i := 7) dX8_stepped_6 rfl rfl ?_
  refine jr_aload_n (pc' := 9) (i := 0) dX8_stepped_8 rfl rfl rfl ?_
  refine jr_get (pc' := 12) jK8 (k := 52) (j := 0) (v := .int (h.1 52 0)) wfX8_76 dX8_stepped_9 rfl (by decide) rfl (by decide) rfl ?_
  refine jr_aload_n (pc' := 13) (i := 0) dX8_stepped_12 rfl rfl rfl ?_
  refine jr_get (pc' := 16) jK8 (k := 52) (j := 1) (v := .int (h.1 52 1)) wfX8_83 dX8_stepped_13 rfl (by decide) rfl (by decide) rfl ?_
  refine jr_imul (pc' := 17)  dX8_stepped_16 rfl  ?_
  by_cases c1 : ((h.1 52 0) * (h.1 52 1)) ≤ a7
  · refine jr_icmp_geT (pc' := 85) dX8_stepped_17 rfl c1 ?_
    refine jr_lload (pc' := 87) (i := 5) dX8_stepped_85 rfl rfl ?_
    exact jr_lret dX8_stepped_87 rfl (k0 c1)
  · refine jr_icmp_geF (pc' := 20) (tgt := 85) dX8_stepped_17 rfl rfl c1 ?_
    refine jr_iconst (pc' := 21) (v := 1) dX8_stepped_20 rfl (by decide) ?_
    refine jr_istore (pc' := 23) (i := 8) (lv' := [some (.ref 52), some (.long l1), none, some (.int a3), some (.int a4), some (.long l5), none, some (.int a7), some (.int 1)]) dX8_stepped_21 rfl (by decide) rfl ?_
    exact jG.weak (lv' := [some (.ref 52), some (.long l1), none, some (.int a3), some (.int a4), some (.long l5), none, some (.int a7), some (.int 1)]) ⟨rfl, rfl, rfl, rfl, rfl, rfl, rfl, trivial⟩ (k1 c1)

theorem q_Mostepped_23 {E : jEnv} {n : Nat} {X : State → Prop} {Post : Option Value → HP → Prop} (l1 : Int64) (a3 : Int32) (a4 : Int32) (l5 : Int64) (a7 : Int32) (a8 : Int32) (h : HP)
    (k0 : ((5 : Int32) ≤ a8) → jG E mX8_stepped (n + 1) X Post 6 [some (.ref 52), some (.long l1), none, some (.int a3), some (.int a4), some (.long l5), none, some (.int (a7 + 1)), none] [] h)
    (k1 : (¬ (5 : Int32) ≤ a8) → ((lg_cmp ((l1 >>> (a7.toInt64 &&& 63)) &&& 1) 1) = 0) → jCall E mX8_mayGo n [.ref 52, .int a7, .int a8, .int a3, .int a4] h (fun v h2 => jG E mX8_stepped (n + 1) X Post 53 [some (.ref 52), some (.long l1), none, some (.int a3), some (.int a4), none, none, some (.int a7), some (.int a8)] (v.toList ++ [.long l5]) h2))
    (k2 : (¬ (5 : Int32) ≤ a8) → (¬ (lg_cmp ((l1 >>> (a7.toInt64 &&& 63)) &&& 1) 1) = 0) → jG E mX8_stepped (n + 1) X Post 6 [some (.ref 52), some (.long l1), none, some (.int a3), some (.int a4), some (.long l5), none, some (.int (a7 + 1)), none] [] h)
    : jG E mX8_stepped (n + 1) X Post 23 [some (.ref 52), some (.long l1), none, some (.int a3), some (.int a4), some (.long l5), none, some (.int a7), some (.int a8)] [] h := by
  refine jr_iload (pc' := 25) (i := 8) dX8_stepped_23 rfl rfl ?_
  refine jr_iconst (pc' := 26) (v := 5) dX8_stepped_25 rfl (by decide) ?_
  by_cases c1 : (5 : Int32) ≤ a8
  · refine jr_icmp_geT (pc' := 79) dX8_stepped_26 rfl c1 ?_
    refine jr_iinc (pc' := 82) (i := 7) (v := (a7 + 1)) (lv' := [some (.ref 52), some (.long l1), none, some (.int a3), some (.int a4), some (.long l5), none, some (.int (a7 + 1)), some (.int a8)]) dX8_stepped_79 rfl rfl (congrArg (a7 + ·) (by decide)) (by decide) rfl ?_
    refine jr_goto (pc' := 6) dX8_stepped_82 rfl ?_
    exact jG.weak (lv' := [some (.ref 52), some (.long l1), none, some (.int a3), some (.int a4), some (.long l5), none, some (.int (a7 + 1)), none]) ⟨rfl, rfl, rfl, rfl, rfl, rfl, trivial⟩ (k0 c1)
  · refine jr_icmp_geF (pc' := 29) (tgt := 79) dX8_stepped_26 rfl rfl c1 ?_
    refine jr_lload_n (pc' := 30) (i := 1) dX8_stepped_29 rfl rfl rfl ?_
    refine jr_iload (pc' := 32) (i := 7) dX8_stepped_30 rfl rfl ?_
    refine jr_lshr (pc' := 33)  dX8_stepped_32 rfl  ?_
    refine jr_lconst (pc' := 34) (v := 1) dX8_stepped_33 rfl (by decide) ?_
    refine jr_land (pc' := 35)  dX8_stepped_34 rfl  ?_
    refine jr_lconst (pc' := 36) (v := 1) dX8_stepped_35 rfl (by decide) ?_
    refine jr_lcmp (pc' := 37)  dX8_stepped_36 rfl  ?_
    by_cases c2 : (lg_cmp ((l1 >>> (a7.toInt64 &&& 63)) &&& 1) 1) = 0
    · refine jr_if_neF (pc' := 40) (tgt := 79) dX8_stepped_37 rfl rfl c2 ?_
      refine jr_lload (pc' := 42) (i := 5) dX8_stepped_40 rfl rfl ?_
      refine jr_aload_n (pc' := 43) (i := 0) dX8_stepped_42 rfl rfl rfl ?_
      refine jr_iload (pc' := 45) (i := 7) dX8_stepped_43 rfl rfl ?_
      refine jr_iload (pc' := 47) (i := 8) dX8_stepped_45 rfl rfl ?_
      refine jr_iload_n (pc' := 48) (i := 3) dX8_stepped_47 rfl rfl rfl ?_
      refine jr_iload (pc' := 50) (i := 4) dX8_stepped_48 rfl rfl ?_
      obtain ⟨P1, hC1, hK1⟩ := k1 c1 c2
      exact jr_callV (pc' := 53) (k := 52) (av := [.int a7, .int a8, .int a3, .int a4]) (st := [.long l5]) sX8_mayGo wmX8_237 dX8_stepped_50 rfl (by decide) rfl (by decide) rfl rfl rfl (Nat.le_of_ble_eq_true rfl) rfl hC1 (fun v h2 hp => jG.weak (lv' := [some (.ref 52), some (.long l1), none, some (.int a3), some (.int a4), none, none, some (.int a7), some (.int a8)]) ⟨rfl, rfl, rfl, rfl, rfl, rfl, trivial⟩ (hK1 v h2 hp))
    · refine jr_if_neT (pc' := 79) dX8_stepped_37 rfl c2 ?_
      refine jr_iinc (pc' := 82) (i := 7) (v := (a7 + 1)) (lv' := [some (.ref 52), some (.long l1), none, some (.int a3), some (.int a4), some (.long l5), none, some (.int (a7 + 1)), some (.int a8)]) dX8_stepped_79 rfl rfl (congrArg (a7 + ·) (by decide)) (by decide) rfl ?_
      refine jr_goto (pc' := 6) dX8_stepped_82 rfl ?_
      exact jG.weak (lv' := [some (.ref 52), some (.long l1), none, some (.int a3), some (.int a4), some (.long l5), none, some (.int (a7 + 1)), none]) ⟨rfl, rfl, rfl, rfl, rfl, rfl, trivial⟩ (k2 c1 c2)

theorem q_Mostepped_53 {E : jEnv} {n : Nat} {X : State → Prop} {Post : Option Value → HP → Prop} (l1 : Int64) (a3 : Int32) (a4 : Int32) (a7 : Int32) (a8 : Int32) (s0 : Int32) (t1 : Int64) (h : HP)
    (k0 : (s0 = 0) → jG E mX8_stepped (n + 1) X Post 23 [some (.ref 52), some (.long l1), none, some (.int a3), some (.int a4), some (.long (t1 ||| 0)), none, some (.int a7), some (.int (a8 + 1))] [] h)
    (k1 : (¬ s0 = 0) → jCall E mX8_led n [.ref 52, .int a7, .int a8] h (fun v h2 => jG E mX8_stepped (n + 1) X Post 65 [some (.ref 52), some (.long l1), none, some (.int a3), some (.int a4), none, none, some (.int a7), some (.int a8)] (v.toList ++ [.long 1, .long t1]) h2))
    : jG E mX8_stepped (n + 1) X Post 53 [some (.ref 52), some (.long l1), none, some (.int a3), some (.int a4), none, none, some (.int a7), some (.int a8)] [.int s0, .long t1] h := by
  by_cases c1 : s0 = 0
  · refine jr_if_eqT (pc' := 69) dX8_stepped_53 rfl c1 ?_
    refine jr_lconst (pc' := 70) (v := 0) dX8_stepped_69 rfl (by decide) ?_
    refine jr_lor (pc' := 71)  dX8_stepped_70 rfl  ?_
    refine jr_lstore (pc' := 73) (i := 5) (lv' := [some (.ref 52), some (.long l1), none, some (.int a3), some (.int a4), some (.long (t1 ||| 0)), none, some (.int a7), some (.int a8)]) dX8_stepped_71 rfl (by decide) rfl ?_
    refine jr_iinc (pc' := 76) (i := 8) (v := (a8 + 1)) (lv' := [some (.ref 52), some (.long l1), none, some (.int a3), some (.int a4), some (.long (t1 ||| 0)), none, some (.int a7), some (.int (a8 + 1))]) dX8_stepped_73 rfl rfl (congrArg (a8 + ·) (by decide)) (by decide) rfl ?_
    refine jr_goto (pc' := 23) dX8_stepped_76 rfl ?_
    exact jG.weak (lv' := [some (.ref 52), some (.long l1), none, some (.int a3), some (.int a4), some (.long (t1 ||| 0)), none, some (.int a7), some (.int (a8 + 1))]) ⟨rfl, rfl, rfl, rfl, rfl, rfl, rfl, trivial⟩ (k0 c1)
  · refine jr_if_eqF (pc' := 56) (tgt := 69) dX8_stepped_53 rfl rfl c1 ?_
    refine jr_lconst (pc' := 57) (v := 1) dX8_stepped_56 rfl (by decide) ?_
    refine jr_aload_n (pc' := 58) (i := 0) dX8_stepped_57 rfl rfl rfl ?_
    refine jr_iload (pc' := 60) (i := 7) dX8_stepped_58 rfl rfl ?_
    refine jr_iload (pc' := 62) (i := 8) dX8_stepped_60 rfl rfl ?_
    obtain ⟨P1, hC1, hK1⟩ := k1 c1
    exact jr_callV (pc' := 65) (k := 52) (av := [.int a7, .int a8]) (st := [.long 1, .long t1]) sX8_led wmX8_231 dX8_stepped_62 rfl (by decide) rfl (by decide) rfl rfl rfl (Nat.le_of_ble_eq_true rfl) rfl hC1 (fun v h2 hp => jG.weak (lv' := [some (.ref 52), some (.long l1), none, some (.int a3), some (.int a4), none, none, some (.int a7), some (.int a8)]) ⟨rfl, rfl, rfl, rfl, rfl, rfl, trivial⟩ (hK1 v h2 hp))

theorem q_Mostepped_65 {E : jEnv} {n : Nat} {X : State → Prop} {Post : Option Value → HP → Prop} (l1 : Int64) (a3 : Int32) (a4 : Int32) (a7 : Int32) (a8 : Int32) (s0 : Int32) (t1 : Int64) (t2 : Int64) (h : HP)
    (k0 : jG E mX8_stepped (n + 1) X Post 23 [some (.ref 52), some (.long l1), none, some (.int a3), some (.int a4), some (.long (t2 ||| (t1 <<< (s0.toInt64 &&& 63)))), none, some (.int a7), some (.int (a8 + 1))] [] h)
    : jG E mX8_stepped (n + 1) X Post 65 [some (.ref 52), some (.long l1), none, some (.int a3), some (.int a4), none, none, some (.int a7), some (.int a8)] [.int s0, .long t1, .long t2] h := by
  refine jr_lshl (pc' := 66)  dX8_stepped_65 rfl  ?_
  refine jr_goto (pc' := 70) dX8_stepped_66 rfl ?_
  refine jr_lor (pc' := 71)  dX8_stepped_70 rfl  ?_
  refine jr_lstore (pc' := 73) (i := 5) (lv' := [some (.ref 52), some (.long l1), none, some (.int a3), some (.int a4), some (.long (t2 ||| (t1 <<< (s0.toInt64 &&& 63)))), none, some (.int a7), some (.int a8)]) dX8_stepped_71 rfl (by decide) rfl ?_
  refine jr_iinc (pc' := 76) (i := 8) (v := (a8 + 1)) (lv' := [some (.ref 52), some (.long l1), none, some (.int a3), some (.int a4), some (.long (t2 ||| (t1 <<< (s0.toInt64 &&& 63)))), none, some (.int a7), some (.int (a8 + 1))]) dX8_stepped_73 rfl rfl (congrArg (a8 + ·) (by decide)) (by decide) rfl ?_
  refine jr_goto (pc' := 23) dX8_stepped_76 rfl ?_
  exact jG.weak (lv' := [some (.ref 52), some (.long l1), none, some (.int a3), some (.int a4), some (.long (t2 ||| (t1 <<< (s0.toInt64 &&& 63)))), none, some (.int a7), some (.int (a8 + 1))]) ⟨rfl, rfl, rfl, rfl, rfl, rfl, rfl, trivial⟩ (k0)

theorem q_MocanHear_0 {E : jEnv} {n : Nat} {X : State → Prop} {Post : Option Value → HP → Prop} (x : Int32) (y : Int32) (h : HP)
    (k0 : jCall E mX8_isMan n [.ref 52, .int x] h (fun v h2 => jG E mX8_canHear (n + 1) X Post 5 [some (.ref 52), some (.int x), some (.int y), none] (v.toList ++ []) h2))
    : jG E mX8_canHear (n + 1) X Post 0 [some (.ref 52), some (.int x), some (.int y), none] [] h := by
  refine jr_aload_n (pc' := 1) (i := 0) dX8_canHear_0 rfl rfl rfl ?_
  refine jr_iload_n (pc' := 2) (i := 1) dX8_canHear_1 rfl rfl rfl ?_
  obtain ⟨P1, hC1, hK1⟩ := k0
  exact jr_callV (pc' := 5) (k := 52) (av := [.int x]) (st := []) sX8_isMan wmX8_252 dX8_canHear_2 rfl (by decide) rfl (by decide) rfl rfl rfl (Nat.le_of_ble_eq_true rfl) rfl hC1 (fun v h2 hp => jG.weak (lv' := [some (.ref 52), some (.int x), some (.int y), none]) ⟨rfl, rfl, rfl, trivial⟩ (hK1 v h2 hp))

theorem q_MocanHear_5 {E : jEnv} {n : Nat} {X : State → Prop} {Post : Option Value → HP → Prop} (a1 : Int32) (a2 : Int32) (s0 : Int32) (h : HP)
    (k0 : (s0 = 0) → Post (some (.int (-1000000001))) h)
    (k1 : (¬ s0 = 0) → jCall E mX8_isNews n [.ref 52, .int a2] h (fun v h2 => jG E mX8_canHear (n + 1) X Post 13 [some (.ref 52), some (.int a1), some (.int a2), none] (v.toList ++ []) h2))
    : jG E mX8_canHear (n + 1) X Post 5 [some (.ref 52), some (.int a1), some (.int a2), none] [.int s0] h := by
  by_cases c1 : s0 = 0
  · refine jr_if_eqT (pc' := 16) dX8_canHear_5 rfl c1 ?_
    refine jr_ldc (pc' := 18) (v := (-1000000001)) dX8_canHear_16 rfl wcX8_249 ?_
    exact jr_iret dX8_canHear_18 rfl rfl (k0 c1)
  · refine jr_if_eqF (pc' := 8) (tgt := 16) dX8_canHear_5 rfl rfl c1 ?_
    refine jr_aload_n (pc' := 9) (i := 0) dX8_canHear_8 rfl rfl rfl ?_
    refine jr_iload_n (pc' := 10) (i := 2) dX8_canHear_9 rfl rfl rfl ?_
    obtain ⟨P1, hC1, hK1⟩ := k1 c1
    exact jr_callV (pc' := 13) (k := 52) (av := [.int a2]) (st := []) sX8_isNews wmX8_281 dX8_canHear_10 rfl (by decide) rfl (by decide) rfl rfl rfl (Nat.le_of_ble_eq_true rfl) rfl hC1 (fun v h2 hp => jG.weak (lv' := [some (.ref 52), some (.int a1), some (.int a2), none]) ⟨rfl, rfl, rfl, trivial⟩ (hK1 v h2 hp))

theorem q_MocanHear_13 {E : jEnv} {n : Nat} {X : State → Prop} {Post : Option Value → HP → Prop} (a1 : Int32) (a2 : Int32) (s0 : Int32) (h : HP)
    (k0 : (s0 = 0) → Post (some (.int (-1000000001))) h)
    (k1 : (¬ s0 = 0) → jCall E mX8_begins n [.ref 52, .int a2] h (fun v h2 => jG E mX8_canHear (n + 1) X Post 24 [some (.ref 52), some (.int a1), some (.int a2), none] (v.toList ++ []) h2))
    : jG E mX8_canHear (n + 1) X Post 13 [some (.ref 52), some (.int a1), some (.int a2), none] [.int s0] h := by
  by_cases c1 : s0 = 0
  · refine jr_if_neF (pc' := 16) (tgt := 19) dX8_canHear_13 rfl rfl c1 ?_
    refine jr_ldc (pc' := 18) (v := (-1000000001)) dX8_canHear_16 rfl wcX8_249 ?_
    exact jr_iret dX8_canHear_18 rfl rfl (k0 c1)
  · refine jr_if_neT (pc' := 19) dX8_canHear_13 rfl c1 ?_
    refine jr_aload_n (pc' := 20) (i := 0) dX8_canHear_19 rfl rfl rfl ?_
    refine jr_iload_n (pc' := 21) (i := 2) dX8_canHear_20 rfl rfl rfl ?_
    obtain ⟨P1, hC1, hK1⟩ := k1 c1
    exact jr_callV (pc' := 24) (k := 52) (av := [.int a2]) (st := []) sX8_begins wmX8_284 dX8_canHear_21 rfl (by decide) rfl (by decide) rfl rfl rfl (Nat.le_of_ble_eq_true rfl) rfl hC1 (fun v h2 hp => jG.weak (lv' := [some (.ref 52), some (.int a1), some (.int a2), none]) ⟨rfl, rfl, rfl, trivial⟩ (hK1 v h2 hp))

theorem q_MocanHear_24 {E : jEnv} {n : Nat} {X : State → Prop} {Post : Option Value → HP → Prop} (a1 : Int32) (a2 : Int32) (h : HP)
    (k0 : jG E mX8_canHear (n + 1) X Post 26 [some (.ref 52), some (.int a1), some (.int a2), some (.int 0)] [] h)
    : jG E mX8_canHear (n + 1) X Post 24 [some (.ref 52), some (.int a1), some (.int a2), none] [] h := by
  refine jr_iconst (pc' := 25) (v := 0) dX8_canHear_24 rfl (by decide) ?_
  refine jr_istore_n (pc' := 26) (i := 3) (lv' := [some (.ref 52), some (.int a1), some (.int a2), some (.int 0)]) dX8_canHear_25 rfl rfl (by decide) rfl ?_
  exact jG.weak (lv' := [some (.ref 52), some (.int a1), some (.int a2), some (.int 0)]) ⟨rfl, rfl, rfl, rfl, trivial⟩ (k0)

theorem q_MocanHear_26 {E : jEnv} {n : Nat} {X : State → Prop} {Post : Option Value → HP → Prop} (a1 : Int32) (a2 : Int32) (a3 : Int32) (h : HP)
    (k0 : ((40 : Int32) < a3) → Post (some (.int (-1))) h)
    (b0 : (¬ (40 : Int32) < a3) → vp_in a1 4)
    (k1 : (¬ (40 : Int32) < a3) → ((lg_cmp (h.2 67 a1.toNatClampNeg) 0) = 0) → jCall E mX8_comes n [.ref 52, .int a2, .int (((h.1 56 0) + a3) + 1)] h (fun v h2 => jG E mX8_canHear (n + 1) X Post 60 [some (.ref 52), some (.int a1), some (.int a2), some (.int a3)] (v.toList ++ []) h2))
    (k2 : (¬ (40 : Int32) < a3) → (¬ (lg_cmp (h.2 67 a1.toNatClampNeg) 0) = 0) → Post (some (.int a3)) h)
    : jG E mX8_canHear (n + 1) X Post 26 [some (.ref 52), some (.int a1), some (.int a2), some (.int a3)] [] h := by
  refine jr_iload_n (pc' := 27) (i := 3) dX8_canHear_26 rfl rfl rfl ?_
  refine jr_bipush (pc' := 29) (v := 40) dX8_canHear_27 rfl (by decide) ?_
  by_cases c1 : (40 : Int32) < a3
  · refine jr_icmp_gtT (pc' := 66) dX8_canHear_29 rfl c1 ?_
    refine jr_iconst (pc' := 67) (v := (-1)) dX8_canHear_66 rfl (by decide) ?_
    exact jr_iret dX8_canHear_67 rfl rfl (k0 c1)
  · refine jr_icmp_gtF (pc' := 32) (tgt := 66) dX8_canHear_29 rfl rfl c1 ?_
    refine jr_aload_n (pc' := 33) (i := 0) dX8_canHear_32 rfl rfl rfl ?_
    refine jr_get (pc' := 36) jK8 (k := 52) (j := 39) (v := .ref 67) wfX8_54 dX8_canHear_33 rfl (by decide) rfl (by decide) rfl ?_
    refine jr_iload_n (pc' := 37) (i := 1) dX8_canHear_36 rfl rfl rfl ?_
    refine jr_lald (pc' := 38) (v := h.2 67 a1.toNatClampNeg) dX8_canHear_37 rfl (by decide) rfl (b0 c1) rfl ?_
    refine jr_lconst (pc' := 39) (v := 0) dX8_canHear_38 rfl (by decide) ?_
    refine jr_lcmp (pc' := 40)  dX8_canHear_39 rfl  ?_
    by_cases c2 : (lg_cmp (h.2 67 a1.toNatClampNeg) 0) = 0
    · refine jr_if_eqT (pc' := 45) dX8_canHear_40 rfl c2 ?_
      refine jr_aload_n (pc' := 46) (i := 0) dX8_canHear_45 rfl rfl rfl ?_
      refine jr_iload_n (pc' := 47) (i := 2) dX8_canHear_46 rfl rfl rfl ?_
      refine jr_aload_n (pc' := 48) (i := 0) dX8_canHear_47 rfl rfl rfl ?_
      refine jr_get (pc' := 51) jK8 (k := 52) (j := 9) (v := .ref 56) wfX8_19 dX8_canHear_48 rfl (by decide) rfl (by decide) rfl ?_
      refine jr_iconst (pc' := 52) (v := 0) dX8_canHear_51 rfl (by decide) ?_
      refine jr_iald (pc' := 53) (v := h.1 56 0) dX8_canHear_52 rfl (by decide) rfl (jvin (by decide)) ((congrArg (h.1 56) (by decide : (0 : Int32).toNatClampNeg = 0)).trans rfl) ?_
      refine jr_iload_n (pc' := 54) (i := 3) dX8_canHear_53 rfl rfl rfl ?_
      refine jr_iadd (pc' := 55)  dX8_canHear_54 rfl  ?_
      refine jr_iconst (pc' := 56) (v := 1) dX8_canHear_55 rfl (by decide) ?_
      refine jr_iadd (pc' := 57)  dX8_canHear_56 rfl  ?_
      obtain ⟨P1, hC1, hK1⟩ := k1 c1 c2
      exact jr_callV (pc' := 60) (k := 52) (av := [.int a2, .int (((h.1 56 0) + a3) + 1)]) (st := []) sX8_comes wmX8_287 dX8_canHear_57 rfl (by decide) rfl (by decide) rfl rfl rfl (Nat.le_of_ble_eq_true rfl) rfl hC1 (fun v h2 hp => jG.weak (lv' := [some (.ref 52), some (.int a1), some (.int a2), some (.int a3)]) ⟨rfl, rfl, rfl, rfl, trivial⟩ (hK1 v h2 hp))
    · refine jr_if_eqF (pc' := 43) (tgt := 45) dX8_canHear_40 rfl rfl c2 ?_
      refine jr_iload_n (pc' := 44) (i := 3) dX8_canHear_43 rfl rfl rfl ?_
      exact jr_iret dX8_canHear_44 rfl rfl (k2 c1 c2)

theorem q_MocanHear_60 {E : jEnv} {n : Nat} {X : State → Prop} {Post : Option Value → HP → Prop} (a1 : Int32) (a2 : Int32) (a3 : Int32) (h : HP)
    (k0 : jG E mX8_canHear (n + 1) X Post 26 [some (.ref 52), some (.int a1), some (.int a2), some (.int (a3 + 1))] [] h)
    : jG E mX8_canHear (n + 1) X Post 60 [some (.ref 52), some (.int a1), some (.int a2), some (.int a3)] [] h := by
  refine jr_iinc (pc' := 63) (i := 3) (v := (a3 + 1)) (lv' := [some (.ref 52), some (.int a1), some (.int a2), some (.int (a3 + 1))]) dX8_canHear_60 rfl rfl (congrArg (a3 + ·) (by decide)) (by decide) rfl ?_
  refine jr_goto (pc' := 26) dX8_canHear_63 rfl ?_
  exact jG.weak (lv' := [some (.ref 52), some (.int a1), some (.int a2), some (.int (a3 + 1))]) ⟨rfl, rfl, rfl, rfl, trivial⟩ (k0)

theorem q_MoisNews_0 {E : jEnv} {n : Nat} {X : State → Prop} {Post : Option Value → HP → Prop} (x : Int32) (h : HP)
    (k0 : jCall E mX8_in n [.long x.toInt64, .long 0, .long (((h.1 52 6) - 1).toInt64)] h (fun v h2 => jG E mX8_isNews (n + 1) X Post 13 [none, none] (v.toList ++ []) h2))
    : jG E mX8_isNews (n + 1) X Post 0 [some (.ref 52), some (.int x)] [] h := by
  refine jr_iload_n (pc' := 1) (i := 1) dX8_isNews_0 rfl rfl rfl ?_
  refine jr_i2l (pc' := 2)  dX8_isNews_1 rfl  ?_
  refine jr_lconst (pc' := 3) (v := 0) dX8_isNews_2 rfl (by decide) ?_
  refine jr_aload_n (pc' := 4) (i := 0) dX8_isNews_3 rfl rfl rfl ?_
  refine jr_get (pc' := 7) jK8 (k := 52) (j := 6) (v := .int (h.1 52 6)) wfX8_89 dX8_isNews_4 rfl (by decide) rfl (by decide) rfl ?_
  refine jr_iconst (pc' := 8) (v := 1) dX8_isNews_7 rfl (by decide) ?_
  refine jr_isub (pc' := 9)  dX8_isNews_8 rfl  ?_
  refine jr_i2l (pc' := 10)  dX8_isNews_9 rfl  ?_
  obtain ⟨P1, hC1, hK1⟩ := k0
  exact jr_callS (pc' := 13) (av := [.long x.toInt64, .long 0, .long (((h.1 52 6) - 1).toInt64)]) (st := []) sX8_in wmX8_79 dX8_isNews_10 rfl rfl (Nat.le_of_ble_eq_true rfl) rfl hC1 (fun v h2 hp => jG.weak (lv' := [none, none]) trivial (hK1 v h2 hp))

theorem q_MoisNews_13 {E : jEnv} {n : Nat} {X : State → Prop} {Post : Option Value → HP → Prop} (s0 : Int32) (h : HP)
    (k0 : Post (some (.int s0)) h)
    (b0 : narrow .boolean (.int s0) = .int s0)
    : jG E mX8_isNews (n + 1) X Post 13 [none, none] [.int s0] h := by
  exact jr_iret dX8_isNews_13 rfl (b0) (k0)

