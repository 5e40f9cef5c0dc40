theorem q_Mofirst_0 {E : jEnv} {n : Nat} {X : State → Prop} {Post : Option Value → HP → Prop} (x : Int32) (y : Int32) (h : HP)
    (k0 : ((f_MoisNews (h.1 52 6) x) = 0) → Post (some (.int (-1000000001))) h)
    (k1 : (¬ (f_MoisNews (h.1 52 6) x) = 0) → ((f_Moin y.toInt64 0 1) = 0) → Post (some (.int (-1000000002))) h)
    (k2 : (¬ (f_MoisNews (h.1 52 6) x) = 0) → (¬ (f_Moin y.toInt64 0 1) = 0) → jCall E mX8_firstOf (n + 1) [.ref 52, .int x, .int 40] h (fun v h2 => jG E mX8_first (n + 2) X Post 31 [some (.ref 52), none, some (.int y), none] (v.toList ++ []) h2))
    : jG E mX8_first (n + 2) X Post 0 [some (.ref 52), some (.int x), some (.int y), none] [] h := by
  refine jr_aload_n (pc' := 1) (i := 0) dX8_first_0 rfl rfl rfl ?_
  refine jr_iload_n (pc' := 2) (i := 1) dX8_first_1 rfl rfl rfl ?_
  refine jr_callV (pc' := 5) (k := 52) (av := [.int x]) (st := []) sX8_isNews wmX8_281 dX8_first_2 rfl (by decide) rfl (by decide) rfl rfl rfl (Nat.le_of_ble_eq_true rfl) rfl (c_MoisNews (n := n) x h ) (fun v h2 hp => ?_)
  rw [hp.1, hp.2]
  show jG E mX8_first (n + 2) X Post 5 [some (.ref 52), some (.int x), some (.int y), none] [.int (f_MoisNews (h.1 52 6) x)] h
  by_cases c1 : (f_MoisNews (h.1 52 6) x) = 0
  · refine jr_if_neF (pc' := 8) (tgt := 11) dX8_first_5 rfl rfl c1 ?_
    refine jr_ldc (pc' := 10) (v := (-1000000001)) dX8_first_8 rfl wcX8_249 ?_
    exact jr_iret dX8_first_10 rfl rfl (k0 c1)
  · refine jr_if_neT (pc' := 11) dX8_first_5 rfl c1 ?_
    refine jr_iload_n (pc' := 12) (i := 2) dX8_first_11 rfl rfl rfl ?_
    refine jr_i2l (pc' := 13)  dX8_first_12 rfl  ?_
    refine jr_lconst (pc' := 14) (v := 0) dX8_first_13 rfl (by decide) ?_
    refine jr_lconst (pc' := 15) (v := 1) dX8_first_14 rfl (by decide) ?_
    refine jr_callS (pc' := 18) (av := [.long y.toInt64, .long 0, .long 1]) (st := []) sX8_in wmX8_79 dX8_first_15 rfl rfl (Nat.le_of_ble_eq_true rfl) rfl (c_Moin (n := n + 1) y.toInt64 0 1 h ) (fun v h2 hp => ?_)
    rw [hp.1, hp.2]
    show jG E mX8_first (n + 2) X Post 18 [some (.ref 52), some (.int x), some (.int y), none] [.int (f_Moin y.toInt64 0 1)] h
    by_cases c2 : (f_Moin y.toInt64 0 1) = 0
    · refine jr_if_neF (pc' := 21) (tgt := 24) dX8_first_18 rfl rfl c2 ?_
      refine jr_ldc (pc' := 23) (v := (-1000000002)) dX8_first_21 rfl wcX8_94 ?_
      exact jr_iret dX8_first_23 rfl rfl (k1 c1 c2)
    · refine jr_if_neT (pc' := 24) dX8_first_18 rfl c2 ?_
      refine jr_aload_n (pc' := 25) (i := 0) dX8_first_24 rfl rfl rfl ?_
      refine jr_iload_n (pc' := 26) (i := 1) dX8_first_25 rfl rfl rfl ?_
      refine jr_bipush (pc' := 28) (v := 40) dX8_first_26 rfl (by decide) ?_
      obtain ⟨P1, hC1, hK1⟩ := k2 c1 c2
      exact jr_callV (pc' := 31) (k := 52) (av := [.int x, .int 40]) (st := []) sX8_firstOf wmX8_294 dX8_first_28 rfl (by decide) rfl (by decide) rfl rfl rfl (Nat.le_of_ble_eq_true rfl) rfl hC1 (fun v h2 hp => jG.weak (lv' := [some (.ref 52), none, some (.int y), none]) ⟨rfl, rfl, trivial⟩ (hK1 v h2 hp))

theorem q_Mofirst_31 {E : jEnv} {n : Nat} {X : State → Prop} {Post : Option Value → HP → Prop} (a2 : Int32) (s0 : Int32) (h : HP)
    (k0 : (s0 = (-1)) → Post (some (.int s0)) h)
    (k1 : (¬ s0 = (-1)) → (a2 = 0) → Post (some (.int s0)) h)
    (k2 : (¬ s0 = (-1)) → (¬ a2 = 0) → Post (some (.int (h.1 52 40))) h)
    : jG E mX8_first (n + 2) X Post 31 [some (.ref 52), none, some (.int a2), none] [.int s0] h := by
  refine jr_istore_n (pc' := 32) (i := 3) (lv' := [some (.ref 52), none, some (.int a2), some (.int s0)]) dX8_first_31 rfl rfl (by decide) rfl ?_
  refine jr_iload_n (pc' := 33) (i := 3) dX8_first_32 rfl rfl rfl ?_
  refine jr_iconst (pc' := 34) (v := (-1)) dX8_first_33 rfl (by decide) ?_
  by_cases c1 : s0 = (-1)
  · refine jr_icmp_eqT (pc' := 41) dX8_first_34 rfl c1 ?_
    refine jr_iload_n (pc' := 42) (i := 3) dX8_first_41 rfl rfl rfl ?_
    refine jr_goto (pc' := 49) dX8_first_42 rfl ?_
    exact jr_iret dX8_first_49 rfl rfl (k0 c1)
  · refine jr_icmp_eqF (pc' := 37) (tgt := 41) dX8_first_34 rfl rfl c1 ?_
    refine jr_iload_n (pc' := 38) (i := 2) dX8_first_37 rfl rfl rfl ?_
    by_cases c2 : a2 = 0
    · refine jr_if_neF (pc' := 41) (tgt := 45) dX8_first_38 rfl rfl c2 ?_
      refine jr_iload_n (pc' := 42) (i := 3) dX8_first_41 rfl rfl rfl ?_
      refine jr_goto (pc' := 49) dX8_first_42 rfl ?_
      exact jr_iret dX8_first_49 rfl rfl (k1 c1 c2)
    · refine jr_if_neT (pc' := 45) dX8_first_38 rfl c2 ?_
      refine jr_aload_n (pc' := 46) (i := 0) dX8_first_45 rfl rfl rfl ?_
      refine jr_get (pc' := 49) jK8 (k := 52) (j := 40) (v := .int (h.1 52 40)) wfX8_291 dX8_first_46 rfl (by decide) rfl (by decide) rfl ?_
      exact jr_iret dX8_first_49 rfl rfl (k2 c1 c2)

theorem q_MofirstOf_0 {E : jEnv} {n : Nat} {X : State → Prop} {Post : Option Value → HP → Prop} (x : Int32) (y : Int32) (h : HP)
    (k0 : jCall E mX8_begins n [.ref 52, .int x] h (fun v h2 => jG E mX8_firstOf (n + 1) X Post 5 [some (.ref 52), some (.int x), some (.int y), none, none] (v.toList ++ []) h2))
    : jG E mX8_firstOf (n + 1) X Post 0 [some (.ref 52), some (.int x), some (.int y), none, none] [] h := by
  refine jr_aload_n (pc' := 1) (i := 0) dX8_firstOf_0 rfl rfl rfl ?_
  refine jr_iload_n (pc' := 2) (i := 1) dX8_firstOf_1 rfl rfl rfl ?_
  obtain ⟨P1, hC1, hK1⟩ := k0
  exact jr_callV (pc' := 5) (k := 52) (av := [.int x]) (st := []) sX8_begins wmX8_284 dX8_firstOf_2 rfl (by decide) rfl (by decide) rfl rfl rfl (Nat.le_of_ble_eq_true rfl) rfl hC1 (fun v h2 hp => jG.weak (lv' := [some (.ref 52), some (.int x), some (.int y), none, none]) ⟨rfl, rfl, rfl, trivial⟩ (hK1 v h2 hp))

theorem q_MofirstOf_5 {E : jEnv} {n : Nat} {X : State → Prop} {Post : Option Value → HP → Prop} (a1 : Int32) (a2 : Int32) (h : HP)
    (k0 : jG E mX8_firstOf (n + 1) X Post 7 [some (.ref 52), some (.int a1), some (.int a2), some (.int 0), none] [] h)
    : jG E mX8_firstOf (n + 1) X Post 5 [some (.ref 52), some (.int a1), some (.int a2), none, none] [] h := by
  refine jr_iconst (pc' := 6) (v := 0) dX8_firstOf_5 rfl (by decide) ?_
  refine jr_istore_n (pc' := 7) (i := 3) (lv' := [some (.ref 52), some (.int a1), some (.int a2), some (.int 0), none]) dX8_firstOf_6 rfl rfl (by decide) rfl ?_
  exact jG.weak (lv' := [some (.ref 52), some (.int a1), some (.int a2), some (.int 0), none]) ⟨rfl, rfl, rfl, rfl, trivial⟩ (k0)

theorem q_MofirstOf_7 {E : jEnv} {n : Nat} {X : State → Prop} {Post : Option Value → HP → Prop} (a1 : Int32) (a2 : Int32) (a3 : Int32) (h : HP)
    (k0 : (a2 < a3) → Post (some (.int (-1))) h)
    (k1 : (¬ a2 < a3) → jG E mX8_firstOf (n + 1) X Post 15 [some (.ref 52), some (.int a1), some (.int a2), some (.int a3), some (.int 0)] [] h)
    : jG E mX8_firstOf (n + 1) X Post 7 [some (.ref 52), some (.int a1), some (.int a2), some (.int a3), none] [] h := by
  refine jr_iload_n (pc' := 8) (i := 3) dX8_firstOf_7 rfl rfl rfl ?_
  refine jr_iload_n (pc' := 9) (i := 2) dX8_firstOf_8 rfl rfl rfl ?_
  by_cases c1 : a2 < a3
  · refine jr_icmp_gtT (pc' := 78) dX8_firstOf_9 rfl c1 ?_
    refine jr_iconst (pc' := 79) (v := (-1)) dX8_firstOf_78 rfl (by decide) ?_
    exact jr_iret dX8_firstOf_79 rfl rfl (k0 c1)
  · refine jr_icmp_gtF (pc' := 12) (tgt := 78) dX8_firstOf_9 rfl rfl c1 ?_
    refine jr_iconst (pc' := 13) (v := 0) dX8_firstOf_12 rfl (by decide) ?_
    refine jr_istore (pc' := 15) (i := 4) (lv' := [some (.ref 52), some (.int a1), some (.int a2), some (.int a3), some (.int 0)]) dX8_firstOf_13 rfl (by decide) rfl ?_
    exact jG.weak (lv' := [some (.ref 52), some (.int a1), some (.int a2), some (.int a3), some (.int 0)]) ⟨rfl, rfl, rfl, rfl, rfl, trivial⟩ (k1 c1)

theorem q_MofirstOf_15 {E : jEnv} {n : Nat} {X : State → Prop} {Post : Option Value → HP → Prop} (a1 : Int32) (a2 : Int32) (a3 : Int32) (a4 : Int32) (h : HP)
    (k0 : ((h.1 52 5) ≤ a4) → jCall E mX8_comes n [.ref 52, .int a1, .int (((h.1 56 0) + a3) + 1)] h (fun v h2 => jG E mX8_firstOf (n + 1) X Post 72 [some (.ref 52), some (.int a1), some (.int a2), some (.int a3), none] (v.toList ++ []) h2))
    (b0 : (¬ (h.1 52 5) ≤ a4) → vp_in a4 4)
    (k1 : (¬ (h.1 52 5) ≤ a4) → ((lg_cmp (((h.2 67 a4.toNatClampNeg) >>> ((h.1 52 8).toInt64 &&& 63)) &&& 1) 1) = 0) → Post (some (.int a3)) (jPI h 52 40 a4))
    (k2 : (¬ (h.1 52 5) ≤ a4) → (¬ (lg_cmp (((h.2 67 a4.toNatClampNeg) >>> ((h.1 52 8).toInt64 &&& 63)) &&& 1) 1) = 0) → jG E mX8_firstOf (n + 1) X Post 15 [some (.ref 52), some (.int a1), some (.int a2), some (.int a3), some (.int (a4 + 1))] [] h)
    : jG E mX8_firstOf (n + 1) X Post 15 [some (.ref 52), some (.int a1), some (.int a2), some (.int a3), some (.int a4)] [] h := by
  refine jr_iload (pc' := 17) (i := 4) dX8_firstOf_15 rfl rfl ?_
  refine jr_aload_n (pc' := 18) (i := 0) dX8_firstOf_17 rfl rfl rfl ?_
  refine jr_get (pc' := 21) jK8 (k := 52) (j := 5) (v := .int (h.1 52 5)) wfX8_86 dX8_firstOf_18 rfl (by decide) rfl (by decide) rfl ?_
  by_cases c1 : (h.1 52 5) ≤ a4
  · refine jr_icmp_geT (pc' := 57) dX8_firstOf_21 rfl c1 ?_
    refine jr_aload_n (pc' := 58) (i := 0) dX8_firstOf_57 rfl rfl rfl ?_
    refine jr_iload_n (pc' := 59) (i := 1) dX8_firstOf_58 rfl rfl rfl ?_
    refine jr_aload_n (pc' := 60) (i := 0) dX8_firstOf_59 rfl rfl rfl ?_
    refine jr_get (pc' := 63) jK8 (k := 52) (j := 9) (v := .ref 56) wfX8_19 dX8_firstOf_60 rfl (by decide) rfl (by decide) rfl ?_
    refine jr_iconst (pc' := 64) (v := 0) dX8_firstOf_63 rfl (by decide) ?_
    refine jr_iald (pc' := 65) (v := h.1 56 0) dX8_firstOf_64 rfl (by decide) rfl (jvin (by decide)) ((congrArg (h.1 56) (by decide : (0 : Int32).toNatClampNeg = 0)).trans rfl) ?_
    refine jr_iload_n (pc' := 66) (i := 3) dX8_firstOf_65 rfl rfl rfl ?_
    refine jr_iadd (pc' := 67)  dX8_firstOf_66 rfl  ?_
    refine jr_iconst (pc' := 68) (v := 1) dX8_firstOf_67 rfl (by decide) ?_
    refine jr_iadd (pc' := 69)  dX8_firstOf_68 rfl  ?_
    obtain ⟨P1, hC1, hK1⟩ := k0 c1
    exact jr_callV (pc' := 72) (k := 52) (av := [.int a1, .int (((h.1 56 0) + a3) + 1)]) (st := []) sX8_comes wmX8_287 dX8_firstOf_69 rfl (by decide) rfl (by decide) rfl rfl rfl (Nat.le_of_ble_eq_true rfl) rfl hC1 (fun v h2 hp => jG.weak (lv' := [some (.ref 52), some (.int a1), some (.int a2), some (.int a3), none]) ⟨rfl, rfl, rfl, rfl, trivial⟩ (hK1 v h2 hp))
  · refine jr_icmp_geF (pc' := 24) (tgt := 57) dX8_firstOf_21 rfl rfl c1 ?_
    refine jr_aload_n (pc' := 25) (i := 0) dX8_firstOf_24 rfl rfl rfl ?_
    refine jr_get (pc' := 28) jK8 (k := 52) (j := 39) (v := .ref 67) wfX8_54 dX8_firstOf_25 rfl (by decide) rfl (by decide) rfl ?_
    refine jr_iload (pc' := 30) (i := 4) dX8_firstOf_28 rfl rfl ?_
    refine jr_lald (pc' := 31) (v := h.2 67 a4.toNatClampNeg) dX8_firstOf_30 rfl (by decide) rfl (b0 c1) rfl ?_
    refine jr_aload_n (pc' := 32) (i := 0) dX8_firstOf_31 rfl rfl rfl ?_
    refine jr_get (pc' := 35) jK8 (k := 52) (j := 8) (v := .int (h.1 52 8)) wfX8_211 dX8_firstOf_32 rfl (by decide) rfl (by decide) rfl ?_
    refine jr_lshr (pc' := 36)  dX8_firstOf_35 rfl  ?_
    refine jr_lconst (pc' := 37) (v := 1) dX8_firstOf_36 rfl (by decide) ?_
    refine jr_land (pc' := 38)  dX8_firstOf_37 rfl  ?_
    refine jr_lconst (pc' := 39) (v := 1) dX8_firstOf_38 rfl (by decide) ?_
    refine jr_lcmp (pc' := 40)  dX8_firstOf_39 rfl  ?_
    by_cases c2 : (lg_cmp (((h.2 67 a4.toNatClampNeg) >>> ((h.1 52 8).toInt64 &&& 63)) &&& 1) 1) = 0
    · refine jr_if_neF (pc' := 43) (tgt := 51) dX8_firstOf_40 rfl rfl c2 ?_
      refine jr_aload_n (pc' := 44) (i := 0) dX8_firstOf_43 rfl rfl rfl ?_
      refine jr_iload (pc' := 46) (i := 4) dX8_firstOf_44 rfl rfl ?_
      refine jr_putI (pc' := 49) jK8 (k := 52) (j := 40) wfX8_291 dX8_firstOf_46 rfl (by decide) rfl (by decide) (by decide) rfl rfl rfl ?_
      refine jr_iload_n (pc' := 50) (i := 3) dX8_firstOf_49 rfl rfl rfl ?_
      exact jr_iret dX8_firstOf_50 rfl rfl (k1 c1 c2)
    · refine jr_if_neT (pc' := 51) dX8_firstOf_40 rfl c2 ?_
      refine jr_iinc (pc' := 54) (i := 4) (v := (a4 + 1)) (lv' := [some (.ref 52), some (.int a1), some (.int a2), some (.int a3), some (.int (a4 + 1))]) dX8_firstOf_51 rfl rfl (congrArg (a4 + ·) (by decide)) (by decide) rfl ?_
      refine jr_goto (pc' := 15) dX8_firstOf_54 rfl ?_
      exact jG.weak (lv' := [some (.ref 52), some (.int a1), some (.int a2), some (.int a3), some (.int (a4 + 1))]) ⟨rfl, rfl, rfl, rfl, rfl, trivial⟩ (k2 c1 c2)

theorem q_MofirstOf_72 {E : jEnv} {n : Nat} {X : State → Prop} {Post : Option Value → HP → Prop} (a1 : Int32) (a2 : Int32) (a3 : Int32) (h : HP)
    (k0 : jG E mX8_firstOf (n + 1) X Post 7 [some (.ref 52), some (.int a1), some (.int a2), some (.int (a3 + 1)), none] [] h)
    : jG E mX8_firstOf (n + 1) X Post 72 [some (.ref 52), some (.int a1), some (.int a2), some (.int a3), none] [] h := by
  refine jr_iinc (pc' := 75) (i := 3) (v := (a3 + 1)) (lv' := [some (.ref 52), some (.int a1), some (.int a2), some (.int (a3 + 1)), none]) dX8_firstOf_72 rfl rfl (congrArg (a3 + ·) (by decide)) (by decide) rfl ?_
  refine jr_goto (pc' := 7) dX8_firstOf_75 rfl ?_
  exact jG.weak (lv' := [some (.ref 52), some (.int a1), some (.int a2), some (.int (a3 + 1)), none]) ⟨rfl, rfl, rfl, rfl, trivial⟩ (k0)

theorem q_Mosawed_0 {E : jEnv} {n : Nat} {X : State → Prop} {Post : Option Value → HP → Prop} (x : Int32) (y : Int32) (z : Int32) (h : HP)
    (k0 : ((f_MoisNews (h.1 52 6) x) = 0) → Post (some (.int (-1000000001))) h)
    (k1 : (¬ (f_MoisNews (h.1 52 6) x) = 0) → (z = (-1)) → ((f_Moin y.toInt64 0 20) = 0) → Post (some (.int (-1000000002))) h)
    (k2 : (¬ (f_MoisNews (h.1 52 6) x) = 0) → (z = (-1)) → (¬ (f_Moin y.toInt64 0 20) = 0) → jG E mX8_sawed (n + 2) X Post 45 [some (.ref 52), some (.int x), some (.int y), some (.int z), some (.int 1), some (.int 0), none, none, none, none, none] [] h)
    (k3 : (¬ (f_MoisNews (h.1 52 6) x) = 0) → (¬ z = (-1)) → ((f_MoisMan (h.1 52 5) z) = 0) → Post (some (.int (-1000000001))) h)
    (k4 : (¬ (f_MoisNews (h.1 52 6) x) = 0) → (¬ z = (-1)) → (¬ (f_MoisMan (h.1 52 5) z) = 0) → ((f_Moin y.toInt64 0 20) = 0) → Post (some (.int (-1000000002))) h)
    (k5 : (¬ (f_MoisNews (h.1 52 6) x) = 0) → (¬ z = (-1)) → (¬ (f_MoisMan (h.1 52 5) z) = 0) → (¬ (f_Moin y.toInt64 0 20) = 0) → jG E mX8_sawed (n + 2) X Post 45 [some (.ref 52), some (.int x), some (.int y), some (.int z), some (.int 1), some (.int 0), none, none, none, none, none] [] h)
    : jG E mX8_sawed (n + 2) X Post 0 [some (.ref 52), some (.int x), some (.int y), some (.int z), none, none, none, none, none, none, none] [] h := by
  refine jr_aload_n (pc' := 1) (i := 0) dX8_sawed_0 rfl rfl rfl ?_
  refine jr_iload_n (pc' := 2) (i := 1) dX8_sawed_1 rfl rfl rfl ?_
  refine jr_callV (pc' := 5) (k := 52) (av := [.int x]) (st := []) sX8_isNews wmX8_281 dX8_sawed_2 rfl (by decide) rfl (by decide) rfl rfl rfl (Nat.le_of_ble_eq_true rfl) rfl (c_MoisNews (n := n) x h ) (fun v h2 hp => ?_)
  rw [hp.1, hp.2]
  show jG E mX8_sawed (n + 2) X Post 5 [some (.ref 52), some (.int x), some (.int y), some (.int z), none, none, none, none, none, none, none] [.int (f_MoisNews (h.1 52 6) x)] h
  by_cases c1 : (f_MoisNews (h.1 52 6) x) = 0
  · refine jr_if_eqT (pc' := 21) dX8_sawed_5 rfl c1 ?_
    refine jr_ldc (pc' := 23) (v := (-1000000001)) dX8_sawed_21 rfl wcX8_249 ?_
    exact jr_iret dX8_sawed_23 rfl rfl (k0 c1)
  · refine jr_if_eqF (pc' := 8) (tgt := 21) dX8_sawed_5 rfl rfl c1 ?_
    refine jr_iload_n (pc' := 9) (i := 3) dX8_sawed_8 rfl rfl rfl ?_
    refine jr_iconst (pc' := 10) (v := (-1)) dX8_sawed_9 rfl (by decide) ?_
    by_cases c2 : z = (-1)
    · refine jr_icmp_eqT (pc' := 24) dX8_sawed_10 rfl c2 ?_
      refine jr_iload_n (pc' := 25) (i := 2) dX8_sawed_24 rfl rfl rfl ?_
      refine jr_i2l (pc' := 26)  dX8_sawed_25 rfl  ?_
      refine jr_lconst (pc' := 27) (v := 0) dX8_sawed_26 rfl (by decide) ?_
      refine jr_ldc2 (pc' := 30) (v := 20) dX8_sawed_27 rfl wcX8_297 ?_
      refine jr_callS (pc' := 33) (av := [.long y.toInt64, .long 0, .long 20]) (st := []) sX8_in wmX8_79 dX8_sawed_30 rfl rfl (Nat.le_of_ble_eq_true rfl) rfl (c_Moin (n := n + 1) y.toInt64 0 20 h ) (fun v h2 hp => ?_)
      rw [hp.1, hp.2]
      show jG E mX8_sawed (n + 2) X Post 33 [some (.ref 52), some (.int x), some (.int y), some (.int z), none, none, none, none, none, none, none] [.int (f_Moin y.toInt64 0 20)] h
      by_cases c3 : (f_Moin y.toInt64 0 20) = 0
      · refine jr_if_neF (pc' := 36) (tgt := 39) dX8_sawed_33 rfl rfl c3 ?_
        refine jr_ldc (pc' := 38) (v := (-1000000002)) dX8_sawed_36 rfl wcX8_94 ?_
        exact jr_iret dX8_sawed_38 rfl rfl (k1 c1 c2 c3)
      · refine jr_if_neT (pc' := 39) dX8_sawed_33 rfl c3 ?_
        refine jr_iconst (pc' := 40) (v := 1) dX8_sawed_39 rfl (by decide) ?_
        refine jr_istore (pc' := 42) (i := 4) (lv' := [some (.ref 52), some (.int x), some (.int y), some (.int z), some (.int 1), none, none, none, none, none, none]) dX8_sawed_40 rfl (by decide) rfl ?_
        refine jr_iconst (pc' := 43) (v := 0) dX8_sawed_42 rfl (by decide) ?_
        refine jr_istore (pc' := 45) (i := 5) (lv' := [some (.ref 52), some (.int x), some (.int y), some (.int z), some (.int 1), some (.int 0), none, none, none, none, none]) dX8_sawed_43 rfl (by decide) rfl ?_
        exact jG.weak (lv' := [some (.ref 52), some (.int x), some (.int y), some (.int z), some (.int 1), some (.int 0), none, none, none, none, none]) ⟨rfl, rfl, rfl, rfl, rfl, rfl, trivial⟩ (k2 c1 c2 c3)
    · refine jr_icmp_eqF (pc' := 13) (tgt := 24) dX8_sawed_10 rfl rfl c2 ?_
      refine jr_aload_n (pc' := 14) (i := 0) dX8_sawed_13 rfl rfl rfl ?_
      refine jr_iload_n (pc' := 15) (i := 3) dX8_sawed_14 rfl rfl rfl ?_
      refine jr_callV (pc' := 18) (k := 52) (av := [.int z]) (st := []) sX8_isMan wmX8_252 dX8_sawed_15 rfl (by decide) rfl (by decide) rfl rfl rfl (Nat.le_of_ble_eq_true rfl) rfl (c_MoisMan (n := n) z h ) (fun v h2 hp => ?_)
      rw [hp.1, hp.2]
      show jG E mX8_sawed (n + 2) X Post 18 [some (.ref 52), some (.int x), some (.int y), some (.int z), none, none, none, none, none, none, none] [.int (f_MoisMan (h.1 52 5) z)] h
      by_cases c4 : (f_MoisMan (h.1 52 5) z) = 0
      · refine jr_if_neF (pc' := 21) (tgt := 24) dX8_sawed_18 rfl rfl c4 ?_
        refine jr_ldc (pc' := 23) (v := (-1000000001)) dX8_sawed_21 rfl wcX8_249 ?_
        exact jr_iret dX8_sawed_23 rfl rfl (k3 c1 c2 c4)
      · refine jr_if_neT (pc' := 24) dX8_sawed_18 rfl c4 ?_
        refine jr_iload_n (pc' := 25) (i := 2) dX8_sawed_24 rfl rfl rfl ?_
        refine jr_i2l (pc' := 26)  dX8_sawed_25 rfl  ?_
        refine jr_lconst (pc' := 27) (v := 0) dX8_sawed_26 rfl (by decide) ?_
        refine jr_ldc2 (pc' := 30) (v := 20) dX8_sawed_27 rfl wcX8_297 ?_
        refine jr_callS (pc' := 33) (av := [.long y.toInt64, .long 0, .long 20]) (st := []) sX8_in wmX8_79 dX8_sawed_30 rfl rfl (Nat.le_of_ble_eq_true rfl) rfl (c_Moin (n := n + 1) y.toInt64 0 20 h ) (fun v h2 hp => ?_)
        rw [hp.1, hp.2]
        show jG E mX8_sawed (n + 2) X Post 33 [some (.ref 52), some (.int x), some (.int y), some (.int z), none, none, none, none, none, none, none] [.int (f_Moin y.toInt64 0 20)] h
        by_cases c5 : (f_Moin y.toInt64 0 20) = 0
        · refine jr_if_neF (pc' := 36) (tgt := 39) dX8_sawed_33 rfl rfl c5 ?_
          refine jr_ldc (pc' := 38) (v := (-1000000002)) dX8_sawed_36 rfl wcX8_94 ?_
          exact jr_iret dX8_sawed_38 rfl rfl (k4 c1 c2 c4 c5)
        · refine jr_if_neT (pc' := 39) dX8_sawed_33 rfl c5 ?_
          refine jr_iconst (pc' := 40) (v := 1) dX8_sawed_39 rfl (by decide) ?_
          refine jr_istore (pc' := 42) (i := 4) (lv' := [some (.ref 52), some (.int x), some (.int y), some (.int z), some (.int 1), none, none, none, none, none, none]) dX8_sawed_40 rfl (by decide) rfl ?_
          refine jr_iconst (pc' := 43) (v := 0) dX8_sawed_42 rfl (by decide) ?_
          refine jr_istore (pc' := 45) (i := 5) (lv' := [some (.ref 52), some (.int x), some (.int y), some (.int z), some (.int 1), some (.int 0), none, none, none, none, none]) dX8_sawed_43 rfl (by decide) rfl ?_
          exact jG.weak (lv' := [some (.ref 52), some (.int x), some (.int y), some (.int z), some (.int 1), some (.int 0), none, none, none, none, none]) ⟨rfl, rfl, rfl, rfl, rfl, rfl, trivial⟩ (k5 c1 c2 c4 c5)

theorem q_Mosawed_45 {E : jEnv} {n : Nat} {X : State → Prop} {Post : Option Value → HP → Prop} (a1 : Int32) (a2 : Int32) (a3 : Int32) (a4 : Int32) (a5 : Int32) (h : HP)
    (k0 : ((h.1 52 5) ≤ a5) → jG E mX8_sawed (n + 2) X Post 101 [some (.ref 52), some (.int a1), some (.int a2), some (.int a3), some (.int a4), some (.int (-1)), some (.int 0), none, none, none, none] [] h)
    (b0 : (¬ (h.1 52 5) ≤ a5) → vp_in ((2 + (6 * a5)) + 2) 62)
    (b1 : (¬ (h.1 52 5) ≤ a5) → vp_in a5 4)
    (b2 : (¬ (h.1 52 5) ≤ a5) → vp_in a5 4)
    (k1 : (¬ (h.1 52 5) ≤ a5) → jG E mX8_sawed (n + 2) X Post 45 [some (.ref 52), some (.int a1), some (.int a2), some (.int a3), some (.int (a4 * ((h.1 56 (((2 + (6 * a5)) + 2).toNatClampNeg)) + 1))), some (.int (a5 + 1)), none, none, none, none, none] [] (jPI h 69 a5.toNatClampNeg (h.1 56 (((2 + (6 * a5)) + 2).toNatClampNeg))))
    : jG E mX8_sawed (n + 2) X Post 45 [some (.ref 52), some (.int a1), some (.int a2), some (.int a3), some (.int a4), some (.int a5), none, none, none, none, none] [] h := by
  refine jr_iload (pc' := 47) (i := 5) dX8_sawed_45 rfl rfl ?_
  refine jr_aload_n (pc' := 48) (i := 0) dX8_sawed_47 rfl rfl rfl ?_
  refine jr_get (pc' := 51) jK8 (k := 52) (j := 5) (v := .int (h.1 52 5)) wfX8_86 dX8_sawed_48 rfl (by decide) rfl (by decide) rfl ?_
  by_cases c1 : (h.1 52 5) ≤ a5
  · refine jr_icmp_geT (pc' := 95) dX8_sawed_51 rfl c1 ?_
    refine jr_iconst (pc' := 96) (v := (-1)) dX8_sawed_95 rfl (by decide) ?_
    refine jr_istore (pc' := 98) (i := 5) (lv' := [some (.ref 52), some (.int a1), some (.int a2), some (.int a3), some (.int a4), some (.int (-1)), none, none, none, none, none]) dX8_sawed_96 rfl (by decide) rfl ?_
    refine jr_iconst (pc' := 99) (v := 0) dX8_sawed_98 rfl (by decide) ?_
    refine jr_istore (pc' := 101) (i := 6) (lv' := [some (.ref 52), some (.int a1), some (.int a2), some (.int a3), some (.int a4), some (.int (-1)), some (.int 0), none, none, none, none]) dX8_sawed_99 rfl (by decide) rfl ?_
    exact jG.weak (lv' := [some (.ref 52), some (.int a1), some (.int a2), some (.int a3), some (.int a4), some (.int (-1)), some (.int 0), none, none, none, none]) ⟨rfl, rfl, rfl, rfl, rfl, rfl, rfl, trivial⟩ (k0 c1)
  · refine jr_icmp_geF (pc' := 54) (tgt := 95) dX8_sawed_51 rfl rfl c1 ?_
    refine jr_aload_n (pc' := 55) (i := 0) dX8_sawed_54 rfl rfl rfl ?_
    refine jr_get (pc' := 58) jK8 (k := 52) (j := 42) (v := .ref 69) wfX8_60 dX8_sawed_55 rfl (by decide) rfl (by decide) rfl ?_
    refine jr_iload (pc' := 60) (i := 5) dX8_sawed_58 rfl rfl ?_
    refine jr_aload_n (pc' := 61) (i := 0) dX8_sawed_60 rfl rfl rfl ?_
    refine jr_get (pc' := 64) jK8 (k := 52) (j := 9) (v := .ref 56) wfX8_19 dX8_sawed_61 rfl (by decide) rfl (by decide) rfl ?_
    refine jr_iconst (pc' := 65) (v := 2) dX8_sawed_64 rfl (by decide) ?_
    refine jr_bipush (pc' := 67) (v := 6) dX8_sawed_65 rfl (by decide) ?_
    refine jr_iload (pc' := 69) (i := 5) dX8_sawed_67 rfl rfl ?_
    refine jr_imul (pc' := 70)  dX8_sawed_69 rfl  ?_
    refine jr_iadd (pc' := 71)  dX8_sawed_70 rfl  ?_
    refine jr_iconst (pc' := 72) (v := 2) dX8_sawed_71 rfl (by decide) ?_
    refine jr_iadd (pc' := 73)  dX8_sawed_72 rfl  ?_
    refine jr_iald (pc' := 74) (v := h.1 56 (((2 + (6 * a5)) + 2).toNatClampNeg)) dX8_sawed_73 rfl (by decide) rfl (b0 c1) rfl ?_
    refine jr_iast (pc' := 75) (j := a5.toNatClampNeg) dX8_sawed_74 rfl (by decide) rfl (b1 c1) rfl ?_
    refine jr_iload (pc' := 77) (i := 4) dX8_sawed_75 rfl rfl ?_
    refine jr_aload_n (pc' := 78) (i := 0) dX8_sawed_77 rfl rfl rfl ?_
    refine jr_get (pc' := 81) jK8 (k := 52) (j := 42) (v := .ref 69) wfX8_60 dX8_sawed_78 rfl (by decide) rfl (by decide) rfl ?_
    refine jr_iload (pc' := 83) (i := 5) dX8_sawed_81 rfl rfl ?_
    refine jr_iald (pc' := 84) (v := h.1 56 (((2 + (6 * a5)) + 2).toNatClampNeg)) dX8_sawed_83 rfl (by decide) rfl (b2 c1) (jPI_at (h := h) (k := 69) (j := a5.toNatClampNeg) (x := h.1 56 (((2 + (6 * a5)) + 2).toNatClampNeg))) ?_
    refine jr_iconst (pc' := 85) (v := 1) dX8_sawed_84 rfl (by decide) ?_
    refine jr_iadd (pc' := 86)  dX8_sawed_85 rfl  ?_
    refine jr_imul (pc' := 87)  dX8_sawed_86 rfl  ?_
    refine jr_istore (pc' := 89) (i := 4) (lv' := [some (.ref 52), some (.int a1), some (.int a2), some (.int a3), some (.int (a4 * ((h.1 56 (((2 + (6 * a5)) + 2).toNatClampNeg)) + 1))), some (.int a5), none, none, none, none, none]) dX8_sawed_87 rfl (by decide) rfl ?_
    refine jr_iinc (pc' := 92) (i := 5) (v := (a5 + 1)) (lv' := [some (.ref 52), some (.int a1), some (.int a2), some (.int a3), some (.int (a4 * ((h.1 56 (((2 + (6 * a5)) + 2).toNatClampNeg)) + 1))), some (.int (a5 + 1)), none, none, none, none, none]) dX8_sawed_89 rfl rfl (congrArg (a5 + ·) (by decide)) (by decide) rfl ?_
    refine jr_goto (pc' := 45) dX8_sawed_92 rfl ?_
    exact jG.weak (lv' := [some (.ref 52), some (.int a1), some (.int a2), some (.int a3), some (.int (a4 * ((h.1 56 (((2 + (6 * a5)) + 2).toNatClampNeg)) + 1))), some (.int (a5 + 1)), none, none, none, none, none]) ⟨rfl, rfl, rfl, rfl, rfl, rfl, trivial⟩ (k1 c1)

theorem q_Mosawed_101 {E : jEnv} {n : Nat} {X : State → Prop} {Post : Option Value → HP → Prop} (a1 : Int32) (a2 : Int32) (a3 : Int32) (a4 : Int32) (a5 : Int32) (a6 : Int32) (h : HP)
    (k0 : (a4 ≤ a6) → jG E mX8_sawed (n + 2) X Post 276 [some (.ref 52), none, none, some (.int a3), none, some (.int a5), some (.int 0), none, none, none, none] [] h)
    (k1 : (¬ a4 ≤ a6) → jG E mX8_sawed (n + 2) X Post 123 [some (.ref 52), some (.int a1), some (.int a2), some (.int a3), some (.int a4), some (.int a5), some (.int a6), some (.int a6), some (.int 0), some (.int ((h.1 52 5) - 1)), none] [] h)
    : jG E mX8_sawed (n + 2) X Post 101 [some (.ref 52), some (.int a1), some (.int a2), some (.int a3), some (.int a4), some (.int a5), some (.int a6), none, none, none, none] [] h := by
  refine jr_iload (pc' := 103) (i := 6) dX8_sawed_101 rfl rfl ?_
  refine jr_iload (pc' := 105) (i := 4) dX8_sawed_103 rfl rfl ?_
  by_cases c1 : a4 ≤ a6
  · refine jr_icmp_geT (pc' := 273) dX8_sawed_105 rfl c1 ?_
    refine jr_iconst (pc' := 274) (v := 0) dX8_sawed_273 rfl (by decide) ?_
    refine jr_istore (pc' := 276) (i := 6) (lv' := [some (.ref 52), some (.int a1), some (.int a2), some (.int a3), some (.int a4), some (.int a5), some (.int 0), none, none, none, none]) dX8_sawed_274 rfl (by decide) rfl ?_
    exact jG.weak (lv' := [some (.ref 52), none, none, some (.int a3), none, some (.int a5), some (.int 0), none, none, none, none]) ⟨rfl, rfl, rfl, rfl, trivial⟩ (k0 c1)
  · refine jr_icmp_geF (pc' := 108) (tgt := 273) dX8_sawed_105 rfl rfl c1 ?_
    refine jr_iload (pc' := 110) (i := 6) dX8_sawed_108 rfl rfl ?_
    refine jr_istore (pc' := 112) (i := 7) (lv' := [some (.ref 52), some (.int a1), some (.int a2), some (.int a3), some (.int a4), some (.int a5), some (.int a6), some (.int a6), none, none, none]) dX8_sawed_110 rfl (by decide) rfl ?_
    refine jr_iconst (pc' := 113) (v := 0) dX8_sawed_112 rfl (by decide) ?_
    refine jr_istore (pc' := 115) (i := 8) (lv' := [some (.ref 52), some (.int a1), some (.int a2), some (.int a3), some (.int a4), some (.int a5), some (.int a6), some (.int a6), some (.int 0), none, none]) dX8_sawed_113 rfl (by decide) rfl ?_
    refine jr_aload_n (pc' := 116) (i := 0) dX8_sawed_115 rfl rfl rfl ?_
    refine jr_get (pc' := 119) jK8 (k := 52) (j := 5) (v := .int (h.1 52 5)) wfX8_86 dX8_sawed_116 rfl (by decide) rfl (by decide) rfl ?_
    refine jr_iconst (pc' := 120) (v := 1) dX8_sawed_119 rfl (by decide) ?_
    refine jr_isub (pc' := 121)  dX8_sawed_120 rfl  ?_
    refine jr_istore (pc' := 123) (i := 9) (lv' := [some (.ref 52), some (.int a1), some (.int a2), some (.int a3), some (.int a4), some (.int a5), some (.int a6), some (.int a6), some (.int 0), some (.int ((h.1 52 5) - 1)), none]) dX8_sawed_121 rfl (by decide) rfl ?_
    exact jG.weak (lv' := [some (.ref 52), some (.int a1), some (.int a2), some (.int a3), some (.int a4), some (.int a5), some (.int a6), some (.int a6), some (.int 0), some (.int ((h.1 52 5) - 1)), none]) ⟨rfl, rfl, rfl, rfl, rfl, rfl, rfl, rfl, rfl, rfl, trivial⟩ (k1 c1)

theorem q_Mosawed_276 {E : jEnv} {n : Nat} {X : State → Prop} {Post : Option Value → HP → Prop} (a3 : Int32) (a5 : Int32) (a6 : Int32) (h : HP)
    (k0 : ((h.1 52 5) ≤ a6) → (a5 = (-1)) → Post (some (.int a5)) h)
    (k1 : ((h.1 52 5) ≤ a6) → (¬ a5 = (-1)) → (a3 = (-1)) → Post (some (.int a5)) h)
    (b0 : ((h.1 52 5) ≤ a6) → (¬ a5 = (-1)) → (¬ a3 = (-1)) → vp_in a3 4)
    (k2 : ((h.1 52 5) ≤ a6) → (¬ a5 = (-1)) → (¬ a3 = (-1)) → Post (some (.int (h.1 68 a3.toNatClampNeg))) h)
    (b1 : (¬ (h.1 52 5) ≤ a6) → vp_in a6 4)
    (b2 : (¬ (h.1 52 5) ≤ a6) → vp_in ((2 + (6 * a6)) + 2) 62)
    (k3 : (¬ (h.1 52 5) ≤ a6) → jG E mX8_sawed (n + 2) X Post 276 [some (.ref 52), none, none, some (.int a3), none, some (.int a5), some (.int (a6 + 1)), none, none, none, none] [] (jPI h 56 (((2 + (6 * a6)) + 2).toNatClampNeg) (h.1 69 a6.toNatClampNeg)))
    : jG E mX8_sawed (n + 2) X Post 276 [some (.ref 52), none, none, some (.int a3), none, some (.int a5), some (.int a6), none, none, none, none] [] h := by
  refine jr_iload (pc' := 278) (i := 6) dX8_sawed_276 rfl rfl ?_
  refine jr_aload_n (pc' := 279) (i := 0) dX8_sawed_278 rfl rfl rfl ?_
  refine jr_get (pc' := 282) jK8 (k := 52) (j := 5) (v := .int (h.1 52 5)) wfX8_86 dX8_sawed_279 rfl (by decide) rfl (by decide) rfl ?_
  by_cases c1 : (h.1 52 5) ≤ a6
  · refine jr_icmp_geT (pc' := 312) dX8_sawed_282 rfl c1 ?_
    refine jr_iload (pc' := 314) (i := 5) dX8_sawed_312 rfl rfl ?_
    refine jr_iconst (pc' := 315) (v := (-1)) dX8_sawed_314 rfl (by decide) ?_
    by_cases c2 : a5 = (-1)
    · refine jr_icmp_eqT (pc' := 323) dX8_sawed_315 rfl c2 ?_
      refine jr_iload (pc' := 325) (i := 5) dX8_sawed_323 rfl rfl ?_
      refine jr_goto (pc' := 334) dX8_sawed_325 rfl ?_
      exact jr_iret dX8_sawed_334 rfl rfl (k0 c1 c2)
    · refine jr_icmp_eqF (pc' := 318) (tgt := 323) dX8_sawed_315 rfl rfl c2 ?_
      refine jr_iload_n (pc' := 319) (i := 3) dX8_sawed_318 rfl rfl rfl ?_
      refine jr_iconst (pc' := 320) (v := (-1)) dX8_sawed_319 rfl (by decide) ?_
      by_cases c3 : a3 = (-1)
      · refine jr_icmp_neF (pc' := 323) (tgt := 328) dX8_sawed_320 rfl rfl c3 ?_
        refine jr_iload (pc' := 325) (i := 5) dX8_sawed_323 rfl rfl ?_
        refine jr_goto (pc' := 334) dX8_sawed_325 rfl ?_
        exact jr_iret dX8_sawed_334 rfl rfl (k1 c1 c2 c3)
      · refine jr_icmp_neT (pc' := 328) dX8_sawed_320 rfl c3 ?_
        refine jr_aload_n (pc' := 329) (i := 0) dX8_sawed_328 rfl rfl rfl ?_
        refine jr_get (pc' := 332) jK8 (k := 52) (j := 41) (v := .ref 68) wfX8_57 dX8_sawed_329 rfl (by decide) rfl (by decide) rfl ?_
        refine jr_iload_n (pc' := 333) (i := 3) dX8_sawed_332 rfl rfl rfl ?_
        refine jr_iald (pc' := 334) (v := h.1 68 a3.toNatClampNeg) dX8_sawed_333 rfl (by decide) rfl (b0 c1 c2 c3) rfl ?_
        exact jr_iret dX8_sawed_334 rfl rfl (k2 c1 c2 c3)
  · refine jr_icmp_geF (pc' := 285) (tgt := 312) dX8_sawed_282 rfl rfl c1 ?_
    refine jr_aload_n (pc' := 286) (i := 0) dX8_sawed_285 rfl rfl rfl ?_
    refine jr_get (pc' := 289) jK8 (k := 52) (j := 9) (v := .ref 56) wfX8_19 dX8_sawed_286 rfl (by decide) rfl (by decide) rfl ?_
    refine jr_iconst (pc' := 290) (v := 2) dX8_sawed_289 rfl (by decide) ?_
    refine jr_bipush (pc' := 292) (v := 6) dX8_sawed_290 rfl (by decide) ?_
    refine jr_iload (pc' := 294) (i := 6) dX8_sawed_292 rfl rfl ?_
    refine jr_imul (pc' := 295)  dX8_sawed_294 rfl  ?_
    refine jr_iadd (pc' := 296)  dX8_sawed_295 rfl  ?_
    refine jr_iconst (pc' := 297) (v := 2) dX8_sawed_296 rfl (by decide) ?_
    refine jr_iadd (pc' := 298)  dX8_sawed_297 rfl  ?_
    refine jr_aload_n (pc' := 299) (i := 0) dX8_sawed_298 rfl rfl rfl ?_
    refine jr_get (pc' := 302) jK8 (k := 52) (j := 42) (v := .ref 69) wfX8_60 dX8_sawed_299 rfl (by decide) rfl (by decide) rfl ?_
    refine jr_iload (pc' := 304) (i := 6) dX8_sawed_302 rfl rfl ?_
    refine jr_iald (pc' := 305) (v := h.1 69 a6.toNatClampNeg) dX8_sawed_304 rfl (by decide) rfl (b1 c1) rfl ?_
    refine jr_iast (pc' := 306) (j := ((2 + (6 * a6)) + 2).toNatClampNeg) dX8_sawed_305 rfl (by decide) rfl (b2 c1) rfl ?_
    refine jr_iinc (pc' := 309) (i := 6) (v := (a6 + 1)) (lv' := [some (.ref 52), none, none, some (.int a3), none, some (.int a5), some (.int (a6 + 1)), none, none, none, none]) dX8_sawed_306 rfl rfl (congrArg (a6 + ·) (by decide)) (by decide) rfl ?_
    refine jr_goto (pc' := 276) dX8_sawed_309 rfl ?_
    exact jG.weak (lv' := [some (.ref 52), none, none, some (.int a3), none, some (.int a5), some (.int (a6 + 1)), none, none, none, none]) ⟨rfl, rfl, rfl, rfl, trivial⟩ (k3 c1)

set_option maxRecDepth 4000 in
theorem q_Mosawed_123 {E : jEnv} {n : Nat} {X : State → Prop} {Post : Option Value → HP → Prop} (a1 : Int32) (a2 : Int32) (a3 : Int32) (a4 : Int32) (a5 : Int32) (a6 : Int32) (a7 : Int32) (a8 : Int32) (a9 : Int32) (h : HP)
    (k0 : (a9 < 0) → (a5 = (-1)) → jCall E mX8_firstOf (n + 1) [.ref 52, .int a1, .int a2] h (fun v h2 => jG E mX8_sawed (n + 2) X Post 212 [some (.ref 52), some (.int a1), some (.int a2), some (.int a3), some (.int a4), some (.int a5), some (.int a6), none, some (.int a8), none, none] (v.toList ++ []) h2))
    (k1 : (a9 < 0) → (¬ a5 = (-1)) → (a5 ≤ a8) → jG E mX8_sawed (n + 2) X Post 101 [some (.ref 52), some (.int a1), some (.int a2), some (.int a3), some (.int a4), some (.int a5), some (.int (a6 + 1)), none, none, none, none] [] h)
    (k2 : (a9 < 0) → (¬ a5 = (-1)) → (¬ a5 ≤ a8) → jCall E mX8_firstOf (n + 1) [.ref 52, .int a1, .int a2] h (fun v h2 => jG E mX8_sawed (n + 2) X Post 212 [some (.ref 52), some (.int a1), some (.int a2), some (.int a3), some (.int a4), some (.int a5), some (.int a6), none, some (.int a8), none, none] (v.toList ++ []) h2))
    (b0 : (¬ a9 < 0) → vp_in a9 4)
    (b1 : (¬ a9 < 0) → ¬ ((h.1 69 a9.toNatClampNeg) + 1) = 0)
    (b2 : (¬ a9 < 0) → vp_in a9 4)
    (b3 : (¬ a9 < 0) → ¬ ((h.1 69 a9.toNatClampNeg) + 1) = 0)
    (b4 : (¬ a9 < 0) → vp_in a9 4)
    (b5 : (¬ a9 < 0) → vp_in ((2 + (6 * a9)) + 2) 62)
    (k3 : (¬ a9 < 0) → jG E mX8_sawed (n + 2) X Post 123 [some (.ref 52), some (.int a1), some (.int a2), some (.int a3), some (.int a4), some (.int a5), some (.int a6), some (.int (a7 / ((h.1 69 a9.toNatClampNeg) + 1))), some (.int (a8 + (a7 - a7 / ((h.1 69 a9.toNatClampNeg) + 1) * ((h.1 69 a9.toNatClampNeg) + 1)))), some (.int (a9 + (-1))), none] [] (jPI h 56 (((2 + (6 * a9)) + 2).toNatClampNeg) ((h.1 69 a9.toNatClampNeg) - (a7 - a7 / ((h.1 69 a9.toNatClampNeg) + 1) * ((h.1 69 a9.toNatClampNeg) + 1)))))
    : jG E mX8_sawed (n + 2) X Post 123 [some (.ref 52), some (.int a1), some (.int a2), some (.int a3), some (.int a4), some (.int a5), some (.int a6), some (.int a7), some (.int a8), some (.int a9), none] [] h := by
  refine jr_iload (pc' := 125) (i := 9) dX8_sawed_123 rfl rfl ?_
  by_cases c1 : a9 < 0
  · refine jr_if_ltT (pc' := 193) dX8_sawed_125 rfl c1 ?_
    refine jr_iload (pc' := 195) (i := 5) dX8_sawed_193 rfl rfl ?_
    refine jr_iconst (pc' := 196) (v := (-1)) dX8_sawed_195 rfl (by decide) ?_
    by_cases c2 : a5 = (-1)
    · refine jr_icmp_eqT (pc' := 206) dX8_sawed_196 rfl c2 ?_
      refine jr_aload_n (pc' := 207) (i := 0) dX8_sawed_206 rfl rfl rfl ?_
      refine jr_iload_n (pc' := 208) (i := 1) dX8_sawed_207 rfl rfl rfl ?_
      refine jr_iload_n (pc' := 209) (i := 2) dX8_sawed_208 rfl rfl rfl ?_
      obtain ⟨P1, hC1, hK1⟩ := k0 c1 c2
      exact jr_callV (pc' := 212) (k := 52) (av := [.int a1, .int a2]) (st := []) sX8_firstOf wmX8_294 dX8_sawed_209 rfl (by decide) rfl (by decide) rfl rfl rfl (Nat.le_of_ble_eq_true rfl) rfl hC1 (fun v h2 hp => jG.weak (lv' := [some (.ref 52), some (.int a1), some (.int a2), some (.int a3), some (.int a4), some (.int a5), some (.int a6), none, some (.int a8), none, none]) ⟨rfl, rfl, rfl, rfl, rfl, rfl, rfl, rfl, trivial⟩ (hK1 v h2 hp))
    · refine jr_icmp_eqF (pc' := 199) (tgt := 206) dX8_sawed_196 rfl rfl c2 ?_
      refine jr_iload (pc' := 201) (i := 8) dX8_sawed_199 rfl rfl ?_
      refine jr_iload (pc' := 203) (i := 5) dX8_sawed_201 rfl rfl ?_
      by_cases c3 : a5 ≤ a8
      · refine jr_icmp_geT (pc' := 267) dX8_sawed_203 rfl c3 ?_
        refine jr_iinc (pc' := 270) (i := 6) (v := (a6 + 1)) (lv' := [some (.ref 52), some (.int a1), some (.int a2), some (.int a3), some (.int a4), some (.int a5), some (.int (a6 + 1)), some (.int a7), some (.int a8), some (.int a9), none]) dX8_sawed_267 rfl rfl (congrArg (a6 + ·) (by decide)) (by decide) rfl ?_
        refine jr_goto (pc' := 101) dX8_sawed_270 rfl ?_
        exact jG.weak (lv' := [some (.ref 52), some (.int a1), some (.int a2), some (.int a3), some (.int a4), some (.int a5), some (.int (a6 + 1)), none, none, none, none]) ⟨rfl, rfl, rfl, rfl, rfl, rfl, rfl, trivial⟩ (k1 c1 c2 c3)
      · refine jr_icmp_geF (pc' := 206) (tgt := 267) dX8_sawed_203 rfl rfl c3 ?_
        refine jr_aload_n (pc' := 207) (i := 0) dX8_sawed_206 rfl rfl rfl ?_
        refine jr_iload_n (pc' := 208) (i := 1) dX8_sawed_207 rfl rfl rfl ?_
        refine jr_iload_n (pc' := 209) (i := 2) dX8_sawed_208 rfl rfl rfl ?_
        obtain ⟨P1, hC1, hK1⟩ := k2 c1 c2 c3
        exact jr_callV (pc' := 212) (k := 52) (av := [.int a1, .int a2]) (st := []) sX8_firstOf wmX8_294 dX8_sawed_209 rfl (by decide) rfl (by decide) rfl rfl rfl (Nat.le_of_ble_eq_true rfl) rfl hC1 (fun v h2 hp => jG.weak (lv' := [some (.ref 52), some (.int a1), some (.int a2), some (.int a3), some (.int a4), some (.int a5), some (.int a6), none, some (.int a8), none, none]) ⟨rfl, rfl, rfl, rfl, rfl, rfl, rfl, rfl, trivial⟩ (hK1 v h2 hp))
  · refine jr_if_ltF (pc' := 128) (tgt := 193) dX8_sawed_125 rfl rfl c1 ?_
    refine jr_iload (pc' := 130) (i := 7) dX8_sawed_128 rfl rfl ?_
    refine jr_aload_n (pc' := 131) (i := 0) dX8_sawed_130 rfl rfl rfl ?_
    refine jr_get (pc' := 134) jK8 (k := 52) (j := 42) (v := .ref 69) wfX8_60 dX8_sawed_131 rfl (by decide) rfl (by decide) rfl ?_
    refine jr_iload (pc' := 136) (i := 9) dX8_sawed_134 rfl rfl ?_
    refine jr_iald (pc' := 137) (v := h.1 69 a9.toNatClampNeg) dX8_sawed_136 rfl (by decide) rfl (b0 c1) rfl ?_
    refine jr_iconst (pc' := 138) (v := 1) dX8_sawed_137 rfl (by decide) ?_
    refine jr_iadd (pc' := 139)  dX8_sawed_138 rfl  ?_
    refine jr_irem (pc' := 140)  dX8_sawed_139 rfl (b1 c1) ?_
    refine jr_istore (pc' := 142) (i := 10) (lv' := [some (.ref 52), some (.int a1), some (.int a2), some (.int a3), some (.int a4), some (.int a5), some (.int a6), some (.int a7), some (.int a8), some (.int a9), some (.int (a7 - a7 / ((h.1 69 a9.toNatClampNeg) + 1) * ((h.1 69 a9.toNatClampNeg) + 1)))]) dX8_sawed_140 rfl (by decide) rfl ?_
    refine jr_iload (pc' := 144) (i := 7) dX8_sawed_142 rfl rfl ?_
    refine jr_aload_n (pc' := 145) (i := 0) dX8_sawed_144 rfl rfl rfl ?_
    refine jr_get (pc' := 148) jK8 (k := 52) (j := 42) (v := .ref 69) wfX8_60 dX8_sawed_145 rfl (by decide) rfl (by decide) rfl ?_
    refine jr_iload (pc' := 150) (i := 9) dX8_sawed_148 rfl rfl ?_
    refine jr_iald (pc' := 151) (v := h.1 69 a9.toNatClampNeg) dX8_sawed_150 rfl (by decide) rfl (b2 c1) rfl ?_
    refine jr_iconst (pc' := 152) (v := 1) dX8_sawed_151 rfl (by decide) ?_
    refine jr_iadd (pc' := 153)  dX8_sawed_152 rfl  ?_
    refine jr_idiv (pc' := 154)  dX8_sawed_153 rfl (b3 c1) ?_
    refine jr_istore (pc' := 156) (i := 7) (lv' := [some (.ref 52), some (.int a1), some (.int a2), some (.int a3), some (.int a4), some (.int a5), some (.int a6), some (.int (a7 / ((h.1 69 a9.toNatClampNeg) + 1))), some (.int a8), some (.int a9), some (.int (a7 - a7 / ((h.1 69 a9.toNatClampNeg) + 1) * ((h.1 69 a9.toNatClampNeg) + 1)))]) dX8_sawed_154 rfl (by decide) rfl ?_
    refine jr_aload_n (pc' := 157) (i := 0) dX8_sawed_156 rfl rfl rfl ?_
    refine jr_get (pc' := 160) jK8 (k := 52) (j := 9) (v := .ref 56) wfX8_19 dX8_sawed_157 rfl (by decide) rfl (by decide) rfl ?_
    refine jr_iconst (pc' := 161) (v := 2) dX8_sawed_160 rfl (by decide) ?_
    refine jr_bipush (pc' := 163) (v := 6) dX8_sawed_161 rfl (by decide) ?_
    refine jr_iload (pc' := 165) (i := 9) dX8_sawed_163 rfl rfl ?_
    refine jr_imul (pc' := 166)  dX8_sawed_165 rfl  ?_
    refine jr_iadd (pc' := 167)  dX8_sawed_166 rfl  ?_
    refine jr_iconst (pc' := 168) (v := 2) dX8_sawed_167 rfl (by decide) ?_
    refine jr_iadd (pc' := 169)  dX8_sawed_168 rfl  ?_
    refine jr_aload_n (pc' := 170) (i := 0) dX8_sawed_169 rfl rfl rfl ?_
    refine jr_get (pc' := 173) jK8 (k := 52) (j := 42) (v := .ref 69) wfX8_60 dX8_sawed_170 rfl (by decide) rfl (by decide) rfl ?_
    refine jr_iload (pc' := 175) (i := 9) dX8_sawed_173 rfl rfl ?_
    refine jr_iald (pc' := 176) (v := h.1 69 a9.toNatClampNeg) dX8_sawed_175 rfl (by decide) rfl (b4 c1) rfl ?_
    refine jr_iload (pc' := 178) (i := 10) dX8_sawed_176 rfl rfl ?_
    refine jr_isub (pc' := 179)  dX8_sawed_178 rfl  ?_
    refine jr_iast (pc' := 180) (j := ((2 + (6 * a9)) + 2).toNatClampNeg) dX8_sawed_179 rfl (by decide) rfl (b5 c1) rfl ?_
    refine jr_iload (pc' := 182) (i := 8) dX8_sawed_180 rfl rfl ?_
    refine jr_iload (pc' := 184) (i := 10) dX8_sawed_182 rfl rfl ?_
    refine jr_iadd (pc' := 185)  dX8_sawed_184 rfl  ?_
    refine jr_istore (pc' := 187) (i := 8) (lv' := [some (.ref 52), some (.int a1), some (.int a2), some (.int a3), some (.int a4), some (.int a5), some (.int a6), some (.int (a7 / ((h.1 69 a9.toNatClampNeg) + 1))), some (.int (a8 + (a7 - a7 / ((h.1 69 a9.toNatClampNeg) + 1) * ((h.1 69 a9.toNatClampNeg) + 1)))), some (.int a9), some (.int (a7 - a7 / ((h.1 69 a9.toNatClampNeg) + 1) * ((h.1 69 a9.toNatClampNeg) + 1)))]) dX8_sawed_185 rfl (by decide) rfl ?_
    refine jr_iinc (pc' := 190) (i := 9) (v := (a9 + (-1))) (lv' := [some (.ref 52), some (.int a1), some (.int a2), some (.int a3), some (.int a4), some (.int a5), some (.int a6), some (.int (a7 / ((h.1 69 a9.toNatClampNeg) + 1))), some (.int (a8 + (a7 - a7 / ((h.1 69 a9.toNatClampNeg) + 1) * ((h.1 69 a9.toNatClampNeg) + 1)))), some (.int (a9 + (-1))), some (.int (a7 - a7 / ((h.1 69 a9.toNatClampNeg) + 1) * ((h.1 69 a9.toNatClampNeg) + 1)))]) dX8_sawed_187 rfl rfl (congrArg (a9 + ·) (by decide)) (by decide) rfl ?_
    refine jr_goto (pc' := 123) dX8_sawed_190 rfl ?_
    exact jG.weak (lv' := [some (.ref 52), some (.int a1), some (.int a2), some (.int a3), some (.int a4), some (.int a5), some (.int a6), some (.int (a7 / ((h.1 69 a9.toNatClampNeg) + 1))), some (.int (a8 + (a7 - a7 / ((h.1 69 a9.toNatClampNeg) + 1) * ((h.1 69 a9.toNatClampNeg) + 1)))), some (.int (a9 + (-1))), none]) ⟨rfl, rfl, rfl, rfl, rfl, rfl, rfl, rfl, rfl, rfl, trivial⟩ (k3 c1)

theorem q_Mosawed_212 {E : jEnv} {n : Nat} {X : State → Prop} {Post : Option Value → HP → Prop} (a1 : Int32) (a2 : Int32) (a3 : Int32) (a4 : Int32) (a5 : Int32) (a6 : Int32) (a8 : Int32) (s0 : Int32) (h : HP)
    (k0 : (s0 = (-1)) → jG E mX8_sawed (n + 2) X Post 223 [some (.ref 52), some (.int a1), some (.int a2), some (.int a3), some (.int a4), some (.int a8), some (.int a6), none, none, some (.int 0), none] [] h)
    (k1 : (¬ s0 = (-1)) → jG E mX8_sawed (n + 2) X Post 101 [some (.ref 52), some (.int a1), some (.int a2), some (.int a3), some (.int a4), some (.int a5), some (.int (a6 + 1)), none, none, none, none] [] h)
    : jG E mX8_sawed (n + 2) X Post 212 [some (.ref 52), some (.int a1), some (.int a2), some (.int a3), some (.int a4), some (.int a5), some (.int a6), none, some (.int a8), none, none] [.int s0] h := by
  refine jr_iconst (pc' := 213) (v := (-1)) dX8_sawed_212 rfl (by decide) ?_
  by_cases c1 : s0 = (-1)
  · refine jr_icmp_neF (pc' := 216) (tgt := 267) dX8_sawed_213 rfl rfl c1 ?_
    refine jr_iload (pc' := 218) (i := 8) dX8_sawed_216 rfl rfl ?_
    refine jr_istore (pc' := 220) (i := 5) (lv' := [some (.ref 52), some (.int a1), some (.int a2), some (.int a3), some (.int a4), some (.int a8), some (.int a6), none, some (.int a8), none, none]) dX8_sawed_218 rfl (by decide) rfl ?_
    refine jr_iconst (pc' := 221) (v := 0) dX8_sawed_220 rfl (by decide) ?_
    refine jr_istore (pc' := 223) (i := 9) (lv' := [some (.ref 52), some (.int a1), some (.int a2), some (.int a3), some (.int a4), some (.int a8), some (.int a6), none, some (.int a8), some (.int 0), none]) dX8_sawed_221 rfl (by decide) rfl ?_
    exact jG.weak (lv' := [some (.ref 52), some (.int a1), some (.int a2), some (.int a3), some (.int a4), some (.int a8), some (.int a6), none, none, some (.int 0), none]) ⟨rfl, rfl, rfl, rfl, rfl, rfl, rfl, rfl, trivial⟩ (k0 c1)
  · refine jr_icmp_neT (pc' := 267) dX8_sawed_213 rfl c1 ?_
    refine jr_iinc (pc' := 270) (i := 6) (v := (a6 + 1)) (lv' := [some (.ref 52), some (.int a1), some (.int a2), some (.int a3), some (.int a4), some (.int a5), some (.int (a6 + 1)), none, some (.int a8), none, none]) dX8_sawed_267 rfl rfl (congrArg (a6 + ·) (by decide)) (by decide) rfl ?_
    refine jr_goto (pc' := 101) dX8_sawed_270 rfl ?_
    exact jG.weak (lv' := [some (.ref 52), some (.int a1), some (.int a2), some (.int a3), some (.int a4), some (.int a5), some (.int (a6 + 1)), none, none, none, none]) ⟨rfl, rfl, rfl, rfl, rfl, rfl, rfl, trivial⟩ (k1 c1)

theorem q_Mosawed_223 {E : jEnv} {n : Nat} {X : State → Prop} {Post : Option Value → HP → Prop} (a1 : Int32) (a2 : Int32) (a3 : Int32) (a4 : Int32) (a5 : Int32) (a6 : Int32) (a9 : Int32) (h : HP)
    (k0 : ((h.1 52 5) ≤ a9) → jG E mX8_sawed (n + 2) X Post 101 [some (.ref 52), some (.int a1), some (.int a2), some (.int a3), some (.int a4), some (.int a5), some (.int (a6 + 1)), none, none, none, none] [] h)
    (b0 : (¬ (h.1 52 5) ≤ a9) → vp_in a9 4)
    (b1 : (¬ (h.1 52 5) ≤ a9) → vp_in ((2 + (6 * a9)) + 2) 62)
    (b2 : (¬ (h.1 52 5) ≤ a9) → vp_in a9 4)
    (k1 : (¬ (h.1 52 5) ≤ a9) → jG E mX8_sawed (n + 2) X Post 223 [some (.ref 52), some (.int a1), some (.int a2), some (.int a3), some (.int a4), some (.int a5), some (.int a6), none, none, some (.int (a9 + 1)), none] [] (jPI h 68 a9.toNatClampNeg ((h.1 69 a9.toNatClampNeg) - (h.1 56 (((2 + (6 * a9)) + 2).toNatClampNeg)))))
    : jG E mX8_sawed (n + 2) X Post 223 [some (.ref 52), some (.int a1), some (.int a2), some (.int a3), some (.int a4), some (.int a5), some (.int a6), none, none, some (.int a9), none] [] h := by
  refine jr_iload (pc' := 225) (i := 9) dX8_sawed_223 rfl rfl ?_
  refine jr_aload_n (pc' := 226) (i := 0) dX8_sawed_225 rfl rfl rfl ?_
  refine jr_get (pc' := 229) jK8 (k := 52) (j := 5) (v := .int (h.1 52 5)) wfX8_86 dX8_sawed_226 rfl (by decide) rfl (by decide) rfl ?_
  by_cases c1 : (h.1 52 5) ≤ a9
  · refine jr_icmp_geT (pc' := 267) dX8_sawed_229 rfl c1 ?_
    refine jr_iinc (pc' := 270) (i := 6) (v := (a6 + 1)) (lv' := [some (.ref 52), some (.int a1), some (.int a2), some (.int a3), some (.int a4), some (.int a5), some (.int (a6 + 1)), none, none, some (.int a9), none]) dX8_sawed_267 rfl rfl (congrArg (a6 + ·) (by decide)) (by decide) rfl ?_
    refine jr_goto (pc' := 101) dX8_sawed_270 rfl ?_
    exact jG.weak (lv' := [some (.ref 52), some (.int a1), some (.int a2), some (.int a3), some (.int a4), some (.int a5), some (.int (a6 + 1)), none, none, none, none]) ⟨rfl, rfl, rfl, rfl, rfl, rfl, rfl, trivial⟩ (k0 c1)
  · refine jr_icmp_geF (pc' := 232) (tgt := 267) dX8_sawed_229 rfl rfl c1 ?_
    refine jr_aload_n (pc' := 233) (i := 0) dX8_sawed_232 rfl rfl rfl ?_
    refine jr_get (pc' := 236) jK8 (k := 52) (j := 41) (v := .ref 68) wfX8_57 dX8_sawed_233 rfl (by decide) rfl (by decide) rfl ?_
    refine jr_iload (pc' := 238) (i := 9) dX8_sawed_236 rfl rfl ?_
    refine jr_aload_n (pc' := 239) (i := 0) dX8_sawed_238 rfl rfl rfl ?_
    refine jr_get (pc' := 242) jK8 (k := 52) (j := 42) (v := .ref 69) wfX8_60 dX8_sawed_239 rfl (by decide) rfl (by decide) rfl ?_
    refine jr_iload (pc' := 244) (i := 9) dX8_sawed_242 rfl rfl ?_
    refine jr_iald (pc' := 245) (v := h.1 69 a9.toNatClampNeg) dX8_sawed_244 rfl (by decide) rfl (b0 c1) rfl ?_
    refine jr_aload_n (pc' := 246) (i := 0) dX8_sawed_245 rfl rfl rfl ?_
    refine jr_get (pc' := 249) jK8 (k := 52) (j := 9) (v := .ref 56) wfX8_19 dX8_sawed_246 rfl (by decide) rfl (by decide) rfl ?_
    refine jr_iconst (pc' := 250) (v := 2) dX8_sawed_249 rfl (by decide) ?_
    refine jr_bipush (pc' := 252) (v := 6) dX8_sawed_250 rfl (by decide) ?_
    refine jr_iload (pc' := 254) (i := 9) dX8_sawed_252 rfl rfl ?_
    refine jr_imul (pc' := 255)  dX8_sawed_254 rfl  ?_
    refine jr_iadd (pc' := 256)  dX8_sawed_255 rfl  ?_
    refine jr_iconst (pc' := 257) (v := 2) dX8_sawed_256 rfl (by decide) ?_
    refine jr_iadd (pc' := 258)  dX8_sawed_257 rfl  ?_
    refine jr_iald (pc' := 259) (v := h.1 56 (((2 + (6 * a9)) + 2).toNatClampNeg)) dX8_sawed_258 rfl (by decide) rfl (b1 c1) rfl ?_
    refine jr_isub (pc' := 260)  dX8_sawed_259 rfl  ?_
    refine jr_iast (pc' := 261) (j := a9.toNatClampNeg) dX8_sawed_260 rfl (by decide) rfl (b2 c1) rfl ?_
    refine jr_iinc (pc' := 264) (i := 9) (v := (a9 + 1)) (lv' := [some (.ref 52), some (.int a1), some (.int a2), some (.int a3), some (.int a4), some (.int a5), some (.int a6), none, none, some (.int (a9 + 1)), none]) dX8_sawed_261 rfl rfl (congrArg (a9 + ·) (by decide)) (by decide) rfl ?_
    refine jr_goto (pc' := 223) dX8_sawed_264 rfl ?_
    exact jG.weak (lv' := [some (.ref 52), some (.int a1), some (.int a2), some (.int a3), some (.int a4), some (.int a5), some (.int a6), none, none, some (.int (a9 + 1)), none]) ⟨rfl, rfl, rfl, rfl, rfl, rfl, rfl, rfl, trivial⟩ (k1 c1)

theorem q_MobestStake_0 {E : jEnv} {n : Nat} {X : State → Prop} {Post : Option Value → HP → Prop} (x : Int32) (y : Int32) (h : HP)
    (k0 : ((f_MoisNews (h.1 52 6) x) = 0) → Post (some (.int (-1000000001))) h)
    (k1 : (¬ (f_MoisNews (h.1 52 6) x) = 0) → ((f_Moin y.toInt64 0 1) = 0) → Post (some (.int (-1000000002))) h)
    (k2 : (¬ (f_MoisNews (h.1 52 6) x) = 0) → (¬ (f_Moin y.toInt64 0 1) = 0) → jG E mX8_bestStake (n + 2) X Post 32 [some (.ref 52), some (.int x), some (.int y), some (.int (-1)), some (.int (-1)), some (.int 0), none, none] [] h)
    : jG E mX8_bestStake (n + 2) X Post 0 [some (.ref 52), some (.int x), some (.int y), none, none, none, none, none] [] h := by
  refine jr_aload_n (pc' := 1) (i := 0) dX8_bestStake_0 rfl rfl rfl ?_
  refine jr_iload_n (pc' := 2) (i := 1) dX8_bestStake_1 rfl rfl rfl ?_
  refine jr_callV (pc' := 5) (k := 52) (av := [.int x]) (st := []) sX8_isNews wmX8_281 dX8_bestStake_2 rfl (by decide) rfl (by decide) rfl rfl rfl (Nat.le_of_ble_eq_true rfl) rfl (c_MoisNews (n := n) x h ) (fun v h2 hp => ?_)
  rw [hp.1, hp.2]
  show jG E mX8_bestStake (n + 2) X Post 5 [some (.ref 52), some (.int x), some (.int y), none, none, none, none, none] [.int (f_MoisNews (h.1 52 6) x)] h
  by_cases c1 : (f_MoisNews (h.1 52 6) x) = 0
  · refine jr_if_neF (pc' := 8) (tgt := 11) dX8_bestStake_5 rfl rfl c1 ?_
    refine jr_ldc (pc' := 10) (v := (-1000000001)) dX8_bestStake_8 rfl wcX8_249 ?_
    exact jr_iret dX8_bestStake_10 rfl rfl (k0 c1)
  · refine jr_if_neT (pc' := 11) dX8_bestStake_5 rfl c1 ?_
    refine jr_iload_n (pc' := 12) (i := 2) dX8_bestStake_11 rfl rfl rfl ?_
    refine jr_i2l (pc' := 13)  dX8_bestStake_12 rfl  ?_
    refine jr_lconst (pc' := 14) (v := 0) dX8_bestStake_13 rfl (by decide) ?_
    refine jr_lconst (pc' := 15) (v := 1) dX8_bestStake_14 rfl (by decide) ?_
    refine jr_callS (pc' := 18) (av := [.long y.toInt64, .long 0, .long 1]) (st := []) sX8_in wmX8_79 dX8_bestStake_15 rfl rfl (Nat.le_of_ble_eq_true rfl) rfl (c_Moin (n := n + 1) y.toInt64 0 1 h ) (fun v h2 hp => ?_)
    rw [hp.1, hp.2]
    show jG E mX8_bestStake (n + 2) X Post 18 [some (.ref 52), some (.int x), some (.int y), none, none, none, none, none] [.int (f_Moin y.toInt64 0 1)] h
    by_cases c2 : (f_Moin y.toInt64 0 1) = 0
    · refine jr_if_neF (pc' := 21) (tgt := 24) dX8_bestStake_18 rfl rfl c2 ?_
      refine jr_ldc (pc' := 23) (v := (-1000000002)) dX8_bestStake_21 rfl wcX8_94 ?_
      exact jr_iret dX8_bestStake_23 rfl rfl (k1 c1 c2)
    · refine jr_if_neT (pc' := 24) dX8_bestStake_18 rfl c2 ?_
      refine jr_iconst (pc' := 25) (v := (-1)) dX8_bestStake_24 rfl (by decide) ?_
      refine jr_istore_n (pc' := 26) (i := 3) (lv' := [some (.ref 52), some (.int x), some (.int y), some (.int (-1)), none, none, none, none]) dX8_bestStake_25 rfl rfl (by decide) rfl ?_
      refine jr_iconst (pc' := 27) (v := (-1)) dX8_bestStake_26 rfl (by decide) ?_
      refine jr_istore (pc' := 29) (i := 4) (lv' := [some (.ref 52), some (.int x), some (.int y), some (.int (-1)), some (.int (-1)), none, none, none]) dX8_bestStake_27 rfl (by decide) rfl ?_
      refine jr_iconst (pc' := 30) (v := 0) dX8_bestStake_29 rfl (by decide) ?_
      refine jr_istore (pc' := 32) (i := 5) (lv' := [some (.ref 52), some (.int x), some (.int y), some (.int (-1)), some (.int (-1)), some (.int 0), none, none]) dX8_bestStake_30 rfl (by decide) rfl ?_
      exact jG.weak (lv' := [some (.ref 52), some (.int x), some (.int y), some (.int (-1)), some (.int (-1)), some (.int 0), none, none]) ⟨rfl, rfl, rfl, rfl, rfl, rfl, trivial⟩ (k2 c1 c2)

theorem q_MobestStake_32 {E : jEnv} {n : Nat} {X : State → Prop} {Post : Option Value → HP → Prop} (a1 : Int32) (a2 : Int32) (a3 : Int32) (a4 : Int32) (a5 : Int32) (h : HP)
    (k0 : (((h.1 52 0) * (h.1 52 1)) ≤ a5) → (a2 = 1) → Post (some (.int a4)) h)
    (k1 : (((h.1 52 0) * (h.1 52 1)) ≤ a5) → (¬ a2 = 1) → (a3 = (-1)) → Post (some (.int (-1))) h)
    (b0 : (((h.1 52 0) * (h.1 52 1)) ≤ a5) → (¬ a2 = 1) → (¬ a3 = (-1)) → (¬ ((h.1 52 0)) = 0))
    (b1 : (((h.1 52 0) * (h.1 52 1)) ≤ a5) → (¬ a2 = 1) → (¬ a3 = (-1)) → (¬ ((h.1 52 0)) = 0))
    (k2 : (((h.1 52 0) * (h.1 52 1)) ≤ a5) → (¬ a2 = 1) → (¬ a3 = (-1)) → Post (some (.int (f_MocodeOf (h.1 52 0) a3))) h)
    (b2 : (¬ ((h.1 52 0) * (h.1 52 1)) ≤ a5) → vp_in (26 + a5) 62)
    (b3 : (¬ ((h.1 52 0) * (h.1 52 1)) ≤ a5) → vp_in (26 + a5) 62)
    (k3 : (¬ ((h.1 52 0) * (h.1 52 1)) ≤ a5) → jCall E mX8_firstOf (n + 1) [.ref 52, .int a1, .int 40] (jPI h 56 ((26 + a5).toNatClampNeg) 1) (fun v h2 => jG E mX8_bestStake (n + 2) X Post 76 [some (.ref 52), some (.int a1), some (.int a2), some (.int a3), some (.int a4), some (.int a5), some (.int (h.1 56 ((26 + a5).toNatClampNeg))), none] (v.toList ++ []) h2))
    : jG E mX8_bestStake (n + 2) X Post 32 [some (.ref 52), some (.int a1), some (.int a2), some (.int a3), some (.int a4), some (.int a5), none, none] [] h := by
  refine jr_iload (pc' := 34) (i := 5) dX8_bestStake_32 rfl rfl ?_
  refine jr_aload_n (pc' := 35) (i := 0) dX8_bestStake_34 rfl rfl rfl ?_
  refine jr_get (pc' := 38) jK8 (k := 52) (j := 0) (v := .int (h.1 52 0)) wfX8_76 dX8_bestStake_35 rfl (by decide) rfl (by decide) rfl ?_
  refine jr_aload_n (pc' := 39) (i := 0) dX8_bestStake_38 rfl rfl rfl ?_
  refine jr_get (pc' := 42) jK8 (k := 52) (j := 1) (v := .int (h.1 52 1)) wfX8_83 dX8_bestStake_39 rfl (by decide) rfl (by decide) rfl ?_
  refine jr_imul (pc' := 43)  dX8_bestStake_42 rfl  ?_
  by_cases c1 : ((h.1 52 0) * (h.1 52 1)) ≤ a5
  · refine jr_icmp_geT (pc' := 122) dX8_bestStake_43 rfl c1 ?_
    refine jr_iload_n (pc' := 123) (i := 2) dX8_bestStake_122 rfl rfl rfl ?_
    refine jr_iconst (pc' := 124) (v := 1) dX8_bestStake_123 rfl (by decide) ?_
    by_cases c2 : a2 = 1
    · refine jr_icmp_neF (pc' := 127) (tgt := 132) dX8_bestStake_124 rfl rfl c2 ?_
      refine jr_iload (pc' := 129) (i := 4) dX8_bestStake_127 rfl rfl ?_
      refine jr_goto (pc' := 146) dX8_bestStake_129 rfl ?_
      exact jr_iret dX8_bestStake_146 rfl rfl (k0 c1 c2)
    · refine jr_icmp_neT (pc' := 132) dX8_bestStake_124 rfl c2 ?_
      refine jr_iload_n (pc' := 133) (i := 3) dX8_bestStake_132 rfl rfl rfl ?_
      refine jr_iconst (pc' := 134) (v := (-1)) dX8_bestStake_133 rfl (by decide) ?_
      by_cases c3 : a3 = (-1)
      · refine jr_icmp_neF (pc' := 137) (tgt := 141) dX8_bestStake_134 rfl rfl c3 ?_
        refine jr_iconst (pc' := 138) (v := (-1)) dX8_bestStake_137 rfl (by decide) ?_
        refine jr_goto (pc' := 146) dX8_bestStake_138 rfl ?_
        exact jr_iret dX8_bestStake_146 rfl rfl (k1 c1 c2 c3)
      · refine jr_icmp_neT (pc' := 141) dX8_bestStake_134 rfl c3 ?_
        refine jr_aload_n (pc' := 142) (i := 0) dX8_bestStake_141 rfl rfl rfl ?_
        refine jr_iload_n (pc' := 143) (i := 3) dX8_bestStake_142 rfl rfl rfl ?_
        refine jr_callV (pc' := 146) (k := 52) (av := [.int a3]) (st := []) sX8_codeOf wmX8_246 dX8_bestStake_143 rfl (by decide) rfl (by decide) rfl rfl rfl (Nat.le_of_ble_eq_true rfl) rfl (c_MocodeOf (n := n + 1) a3 h (b0 c1 c2 c3) (b1 c1 c2 c3)) (fun v h2 hp => ?_)
        rw [hp.1, hp.2]
        show jG E mX8_bestStake (n + 2) X Post 146 [some (.ref 52), some (.int a1), some (.int a2), some (.int a3), some (.int a4), some (.int a5), none, none] [.int (f_MocodeOf (h.1 52 0) a3)] h
        exact jr_iret dX8_bestStake_146 rfl rfl (k2 c1 c2 c3)
  · refine jr_icmp_geF (pc' := 46) (tgt := 122) dX8_bestStake_43 rfl rfl c1 ?_
    refine jr_aload_n (pc' := 47) (i := 0) dX8_bestStake_46 rfl rfl rfl ?_
    refine jr_get (pc' := 50) jK8 (k := 52) (j := 9) (v := .ref 56) wfX8_19 dX8_bestStake_47 rfl (by decide) rfl (by decide) rfl ?_
    refine jr_bipush (pc' := 52) (v := 26) dX8_bestStake_50 rfl (by decide) ?_
    refine jr_iload (pc' := 54) (i := 5) dX8_bestStake_52 rfl rfl ?_
    refine jr_iadd (pc' := 55)  dX8_bestStake_54 rfl  ?_
    refine jr_iald (pc' := 56) (v := h.1 56 ((26 + a5).toNatClampNeg)) dX8_bestStake_55 rfl (by decide) rfl (b2 c1) rfl ?_
    refine jr_istore (pc' := 58) (i := 6) (lv' := [some (.ref 52), some (.int a1), some (.int a2), some (.int a3), some (.int a4), some (.int a5), some (.int (h.1 56 ((26 + a5).toNatClampNeg))), none]) dX8_bestStake_56 rfl (by decide) rfl ?_
    refine jr_aload_n (pc' := 59) (i := 0) dX8_bestStake_58 rfl rfl rfl ?_
    refine jr_get (pc' := 62) jK8 (k := 52) (j := 9) (v := .ref 56) wfX8_19 dX8_bestStake_59 rfl (by decide) rfl (by decide) rfl ?_
    refine jr_bipush (pc' := 64) (v := 26) dX8_bestStake_62 rfl (by decide) ?_
    refine jr_iload (pc' := 66) (i := 5) dX8_bestStake_64 rfl rfl ?_
    refine jr_iadd (pc' := 67)  dX8_bestStake_66 rfl  ?_
    refine jr_iconst (pc' := 68) (v := 1) dX8_bestStake_67 rfl (by decide) ?_
    refine jr_iast (pc' := 69) (j := (26 + a5).toNatClampNeg) dX8_bestStake_68 rfl (by decide) rfl (b3 c1) rfl ?_
    refine jr_aload_n (pc' := 70) (i := 0) dX8_bestStake_69 rfl rfl rfl ?_
    refine jr_iload_n (pc' := 71) (i := 1) dX8_bestStake_70 rfl rfl rfl ?_
    refine jr_bipush (pc' := 73) (v := 40) dX8_bestStake_71 rfl (by decide) ?_
    obtain ⟨P1, hC1, hK1⟩ := k3 c1
    exact jr_callV (pc' := 76) (k := 52) (av := [.int a1, .int 40]) (st := []) sX8_firstOf wmX8_294 dX8_bestStake_73 rfl (by decide) rfl (by decide) rfl rfl rfl (Nat.le_of_ble_eq_true rfl) rfl hC1 (fun v h2 hp => jG.weak (lv' := [some (.ref 52), some (.int a1), some (.int a2), some (.int a3), some (.int a4), some (.int a5), some (.int (h.1 56 ((26 + a5).toNatClampNeg))), none]) ⟨rfl, rfl, rfl, rfl, rfl, rfl, rfl, trivial⟩ (hK1 v h2 hp))

theorem q_MobestStake_76 {E : jEnv} {n : Nat} {X : State → Prop} {Post : Option Value → HP → Prop} (a1 : Int32) (a2 : Int32) (a3 : Int32) (a4 : Int32) (a5 : Int32) (a6 : Int32) (s0 : Int32) (h : HP)
    (b0 : vp_in (26 + a5) 62)
    (k0 : (s0 = (-1)) → jG E mX8_bestStake (n + 2) X Post 32 [some (.ref 52), some (.int a1), some (.int a2), some (.int a3), some (.int a4), some (.int (a5 + 1)), none, none] [] (jPI h 56 ((26 + a5).toNatClampNeg) a6))
    (k1 : (¬ s0 = (-1)) → (a4 = (-1)) → jG E mX8_bestStake (n + 2) X Post 32 [some (.ref 52), some (.int a1), some (.int a2), some (.int a5), some (.int s0), some (.int (a5 + 1)), none, none] [] (jPI h 56 ((26 + a5).toNatClampNeg) a6))
    (k2 : (¬ s0 = (-1)) → (¬ a4 = (-1)) → (a4 ≤ s0) → jG E mX8_bestStake (n + 2) X Post 32 [some (.ref 52), some (.int a1), some (.int a2), some (.int a3), some (.int a4), some (.int (a5 + 1)), none, none] [] (jPI h 56 ((26 + a5).toNatClampNeg) a6))
    (k3 : (¬ s0 = (-1)) → (¬ a4 = (-1)) → (¬ a4 ≤ s0) → jG E mX8_bestStake (n + 2) X Post 32 [some (.ref 52), some (.int a1), some (.int a2), some (.int a5), some (.int s0), some (.int (a5 + 1)), none, none] [] (jPI h 56 ((26 + a5).toNatClampNeg) a6))
    : jG E mX8_bestStake (n + 2) X Post 76 [some (.ref 52), some (.int a1), some (.int a2), some (.int a3), some (.int a4), some (.int a5), some (.int a6), none] [.int s0] h := by
  refine jr_istore (pc' := 78) (i := 7) (lv' := [some (.ref 52), some (.int a1), some (.int a2), some (.int a3), some (.int a4), some (.int a5), some (.int a6), some (.int s0)]) dX8_bestStake_76 rfl (by decide) rfl ?_
  refine jr_aload_n (pc' := 79) (i := 0) dX8_bestStake_78 rfl rfl rfl ?_
  refine jr_get (pc' := 82) jK8 (k := 52) (j := 9) (v := .ref 56) wfX8_19 dX8_bestStake_79 rfl (by decide) rfl (by decide) rfl ?_
  refine jr_bipush (pc' := 84) (v := 26) dX8_bestStake_82 rfl (by decide) ?_
  refine jr_iload (pc' := 86) (i := 5) dX8_bestStake_84 rfl rfl ?_
  refine jr_iadd (pc' := 87)  dX8_bestStake_86 rfl  ?_
  refine jr_iload (pc' := 89) (i := 6) dX8_bestStake_87 rfl rfl ?_
  refine jr_iast (pc' := 90) (j := (26 + a5).toNatClampNeg) dX8_bestStake_89 rfl (by decide) rfl (b0) rfl ?_
  refine jr_iload (pc' := 92) (i := 7) dX8_bestStake_90 rfl rfl ?_
  refine jr_iconst (pc' := 93) (v := (-1)) dX8_bestStake_92 rfl (by decide) ?_
  by_cases c1 : s0 = (-1)
  · refine jr_icmp_eqT (pc' := 116) dX8_bestStake_93 rfl c1 ?_
    refine jr_iinc (pc' := 119) (i := 5) (v := (a5 + 1)) (lv' := [some (.ref 52), some (.int a1), some (.int a2), some (.int a3), some (.int a4), some (.int (a5 + 1)), some (.int a6), some (.int s0)]) dX8_bestStake_116 rfl rfl (congrArg (a5 + ·) (by decide)) (by decide) rfl ?_
    refine jr_goto (pc' := 32) dX8_bestStake_119 rfl ?_
    exact jG.weak (lv' := [some (.ref 52), some (.int a1), some (.int a2), some (.int a3), some (.int a4), some (.int (a5 + 1)), none, none]) ⟨rfl, rfl, rfl, rfl, rfl, rfl, trivial⟩ (k0 c1)
  · refine jr_icmp_eqF (pc' := 96) (tgt := 116) dX8_bestStake_93 rfl rfl c1 ?_
    refine jr_iload (pc' := 98) (i := 4) dX8_bestStake_96 rfl rfl ?_
    refine jr_iconst (pc' := 99) (v := (-1)) dX8_bestStake_98 rfl (by decide) ?_
    by_cases c2 : a4 = (-1)
    · refine jr_icmp_eqT (pc' := 109) dX8_bestStake_99 rfl c2 ?_
      refine jr_iload (pc' := 111) (i := 7) dX8_bestStake_109 rfl rfl ?_
      refine jr_istore (pc' := 113) (i := 4) (lv' := [some (.ref 52), some (.int a1), some (.int a2), some (.int a3), some (.int s0), some (.int a5), some (.int a6), some (.int s0)]) dX8_bestStake_111 rfl (by decide) rfl ?_
      refine jr_iload (pc' := 115) (i := 5) dX8_bestStake_113 rfl rfl ?_
      refine jr_istore_n (pc' := 116) (i := 3) (lv' := [some (.ref 52), some (.int a1), some (.int a2), some (.int a5), some (.int s0), some (.int a5), some (.int a6), some (.int s0)]) dX8_bestStake_115 rfl rfl (by decide) rfl ?_
      refine jr_iinc (pc' := 119) (i := 5) (v := (a5 + 1)) (lv' := [some (.ref 52), some (.int a1), some (.int a2), some (.int a5), some (.int s0), some (.int (a5 + 1)), some (.int a6), some (.int s0)]) dX8_bestStake_116 rfl rfl (congrArg (a5 + ·) (by decide)) (by decide) rfl ?_
      refine jr_goto (pc' := 32) dX8_bestStake_119 rfl ?_
      exact jG.weak (lv' := [some (.ref 52), some (.int a1), some (.int a2), some (.int a5), some (.int s0), some (.int (a5 + 1)), none, none]) ⟨rfl, rfl, rfl, rfl, rfl, rfl, trivial⟩ (k1 c1 c2)
    · refine jr_icmp_eqF (pc' := 102) (tgt := 109) dX8_bestStake_99 rfl rfl c2 ?_
      refine jr_iload (pc' := 104) (i := 7) dX8_bestStake_102 rfl rfl ?_
      refine jr_iload (pc' := 106) (i := 4) dX8_bestStake_104 rfl rfl ?_
      by_cases c3 : a4 ≤ s0
      · refine jr_icmp_geT (pc' := 116) dX8_bestStake_106 rfl c3 ?_
        refine jr_iinc (pc' := 119) (i := 5) (v := (a5 + 1)) (lv' := [some (.ref 52), some (.int a1), some (.int a2), some (.int a3), some (.int a4), some (.int (a5 + 1)), some (.int a6), some (.int s0)]) dX8_bestStake_116 rfl rfl (congrArg (a5 + ·) (by decide)) (by decide) rfl ?_
        refine jr_goto (pc' := 32) dX8_bestStake_119 rfl ?_
        exact jG.weak (lv' := [some (.ref 52), some (.int a1), some (.int a2), some (.int a3), some (.int a4), some (.int (a5 + 1)), none, none]) ⟨rfl, rfl, rfl, rfl, rfl, rfl, trivial⟩ (k2 c1 c2 c3)
      · refine jr_icmp_geF (pc' := 109) (tgt := 116) dX8_bestStake_106 rfl rfl c3 ?_
        refine jr_iload (pc' := 111) (i := 7) dX8_bestStake_109 rfl rfl ?_
        refine jr_istore (pc' := 113) (i := 4) (lv' := [some (.ref 52), some (.int a1), some (.int a2), some (.int a3), some (.int s0), some (.int a5), some (.int a6), some (.int s0)]) dX8_bestStake_111 rfl (by decide) rfl ?_
        refine jr_iload (pc' := 115) (i := 5) dX8_bestStake_113 rfl rfl ?_
        refine jr_istore_n (pc' := 116) (i := 3) (lv' := [some (.ref 52), some (.int a1), some (.int a2), some (.int a5), some (.int s0), some (.int a5), some (.int a6), some (.int s0)]) dX8_bestStake_115 rfl rfl (by decide) rfl ?_
        refine jr_iinc (pc' := 119) (i := 5) (v := (a5 + 1)) (lv' := [some (.ref 52), some (.int a1), some (.int a2), some (.int a5), some (.int s0), some (.int (a5 + 1)), some (.int a6), some (.int s0)]) dX8_bestStake_116 rfl rfl (congrArg (a5 + ·) (by decide)) (by decide) rfl ?_
        refine jr_goto (pc' := 32) dX8_bestStake_119 rfl ?_
        exact jG.weak (lv' := [some (.ref 52), some (.int a1), some (.int a2), some (.int a5), some (.int s0), some (.int (a5 + 1)), none, none]) ⟨rfl, rfl, rfl, rfl, rfl, rfl, trivial⟩ (k3 c1 c2 c3)

theorem q_Moinch_0 {E : jEnv} {n : Nat} {X : State → Prop} {Post : Option Value → HP → Prop} (x : Int32) (y : Int32) (h : HP)
    (k0 : ((f_MoisNews (h.1 52 6) x) = 0) → Post (some (.int (-1000000001))) h)
    (k1 : (¬ (f_MoisNews (h.1 52 6) x) = 0) → ((f_MoisMan (h.1 52 5) y) = 0) → Post (some (.int (-1000000001))) h)
    (k2 : (¬ (f_MoisNews (h.1 52 6) x) = 0) → (¬ (f_MoisMan (h.1 52 5) y) = 0) → jCall E mX8_firstOf (n + 1) [.ref 52, .int x, .int 40] h (fun v h2 => jG E mX8_inch (n + 2) X Post 26 [some (.ref 52), some (.int x), some (.int y), none, none] (v.toList ++ []) h2))
    : jG E mX8_inch (n + 2) X Post 0 [some (.ref 52), some (.int x), some (.int y), none, none] [] h := by
  refine jr_aload_n (pc' := 1) (i := 0) dX8_inch_0 rfl rfl rfl ?_
  refine jr_iload_n (pc' := 2) (i := 1) dX8_inch_1 rfl rfl rfl ?_
  refine jr_callV (pc' := 5) (k := 52) (av := [.int x]) (st := []) sX8_isNews wmX8_281 dX8_inch_2 rfl (by decide) rfl (by decide) rfl rfl rfl (Nat.le_of_ble_eq_true rfl) rfl (c_MoisNews (n := n) x h ) (fun v h2 hp => ?_)
  rw [hp.1, hp.2]
  show jG E mX8_inch (n + 2) X Post 5 [some (.ref 52), some (.int x), some (.int y), none, none] [.int (f_MoisNews (h.1 52 6) x)] h
  by_cases c1 : (f_MoisNews (h.1 52 6) x) = 0
  · refine jr_if_eqT (pc' := 16) dX8_inch_5 rfl c1 ?_
    refine jr_ldc (pc' := 18) (v := (-1000000001)) dX8_inch_16 rfl wcX8_249 ?_
    exact jr_iret dX8_inch_18 rfl rfl (k0 c1)
  · refine jr_if_eqF (pc' := 8) (tgt := 16) dX8_inch_5 rfl rfl c1 ?_
    refine jr_aload_n (pc' := 9) (i := 0) dX8_inch_8 rfl rfl rfl ?_
    refine jr_iload_n (pc' := 10) (i := 2) dX8_inch_9 rfl rfl rfl ?_
    refine jr_callV (pc' := 13) (k := 52) (av := [.int y]) (st := []) sX8_isMan wmX8_252 dX8_inch_10 rfl (by decide) rfl (by decide) rfl rfl rfl (Nat.le_of_ble_eq_true rfl) rfl (c_MoisMan (n := n) y h ) (fun v h2 hp => ?_)
    rw [hp.1, hp.2]
    show jG E mX8_inch (n + 2) X Post 13 [some (.ref 52), some (.int x), some (.int y), none, none] [.int (f_MoisMan (h.1 52 5) y)] h
    by_cases c2 : (f_MoisMan (h.1 52 5) y) = 0
    · refine jr_if_neF (pc' := 16) (tgt := 19) dX8_inch_13 rfl rfl c2 ?_
      refine jr_ldc (pc' := 18) (v := (-1000000001)) dX8_inch_16 rfl wcX8_249 ?_
      exact jr_iret dX8_inch_18 rfl rfl (k1 c1 c2)
    · refine jr_if_neT (pc' := 19) dX8_inch_13 rfl c2 ?_
      refine jr_aload_n (pc' := 20) (i := 0) dX8_inch_19 rfl rfl rfl ?_
      refine jr_iload_n (pc' := 21) (i := 1) dX8_inch_20 rfl rfl rfl ?_
      refine jr_bipush (pc' := 23) (v := 40) dX8_inch_21 rfl (by decide) ?_
      obtain ⟨P1, hC1, hK1⟩ := k2 c1 c2
      exact jr_callV (pc' := 26) (k := 52) (av := [.int x, .int 40]) (st := []) sX8_firstOf wmX8_294 dX8_inch_23 rfl (by decide) rfl (by decide) rfl rfl rfl (Nat.le_of_ble_eq_true rfl) rfl hC1 (fun v h2 hp => jG.weak (lv' := [some (.ref 52), some (.int x), some (.int y), none, none]) ⟨rfl, rfl, rfl, trivial⟩ (hK1 v h2 hp))

theorem q_Moinch_26 {E : jEnv} {n : Nat} {X : State → Prop} {Post : Option Value → HP → Prop} (a1 : Int32) (a2 : Int32) (s0 : Int32) (h : HP)
    (b0 : vp_in ((2 + (6 * a2)) + 2) 62)
    (b1 : vp_in ((2 + (6 * a2)) + 2) 62)
    (k0 : jCall E mX8_firstOf (n + 1) [.ref 52, .int a1, .int 40] (jPI h 56 (((2 + (6 * a2)) + 2).toNatClampNeg) ((h.1 56 (((2 + (6 * a2)) + 2).toNatClampNeg)) + 1)) (fun v h2 => jG E mX8_inch (n + 2) X Post 51 [some (.ref 52), none, some (.int a2), some (.int s0), none] (v.toList ++ []) h2))
    : jG E mX8_inch (n + 2) X Post 26 [some (.ref 52), some (.int a1), some (.int a2), none, none] [.int s0] h := by
  refine jr_istore_n (pc' := 27) (i := 3) (lv' := [some (.ref 52), some (.int a1), some (.int a2), some (.int s0), none]) dX8_inch_26 rfl rfl (by decide) rfl ?_
  refine jr_aload_n (pc' := 28) (i := 0) dX8_inch_27 rfl rfl rfl ?_
  refine jr_get (pc' := 31) jK8 (k := 52) (j := 9) (v := .ref 56) wfX8_19 dX8_inch_28 rfl (by decide) rfl (by decide) rfl ?_
  refine jr_iconst (pc' := 32) (v := 2) dX8_inch_31 rfl (by decide) ?_
  refine jr_bipush (pc' := 34) (v := 6) dX8_inch_32 rfl (by decide) ?_
  refine jr_iload_n (pc' := 35) (i := 2) dX8_inch_34 rfl rfl rfl ?_
  refine jr_imul (pc' := 36)  dX8_inch_35 rfl  ?_
  refine jr_iadd (pc' := 37)  dX8_inch_36 rfl  ?_
  refine jr_iconst (pc' := 38) (v := 2) dX8_inch_37 rfl (by decide) ?_
  refine jr_iadd (pc' := 39)  dX8_inch_38 rfl  ?_
  refine jr_dup2 (pc' := 40)  dX8_inch_39 rfl rfl rfl ?_
  refine jr_iald (pc' := 41) (v := h.1 56 (((2 + (6 * a2)) + 2).toNatClampNeg)) dX8_inch_40 rfl (by decide) rfl (b0) rfl ?_
  refine jr_iconst (pc' := 42) (v := 1) dX8_inch_41 rfl (by decide) ?_
  refine jr_iadd (pc' := 43)  dX8_inch_42 rfl  ?_
  refine jr_iast (pc' := 44) (j := ((2 + (6 * a2)) + 2).toNatClampNeg) dX8_inch_43 rfl (by decide) rfl (b1) rfl ?_
  refine jr_aload_n (pc' := 45) (i := 0) dX8_inch_44 rfl rfl rfl ?_
  refine jr_iload_n (pc' := 46) (i := 1) dX8_inch_45 rfl rfl rfl ?_
  refine jr_bipush (pc' := 48) (v := 40) dX8_inch_46 rfl (by decide) ?_
  obtain ⟨P1, hC1, hK1⟩ := k0
  exact jr_callV (pc' := 51) (k := 52) (av := [.int a1, .int 40]) (st := []) sX8_firstOf wmX8_294 dX8_inch_48 rfl (by decide) rfl (by decide) rfl rfl rfl (Nat.le_of_ble_eq_true rfl) rfl hC1 (fun v h2 hp => jG.weak (lv' := [some (.ref 52), none, some (.int a2), some (.int s0), none]) ⟨rfl, rfl, rfl, trivial⟩ (hK1 v h2 hp))

theorem q_Moinch_51 {E : jEnv} {n : Nat} {X : State → Prop} {Post : Option Value → HP → Prop} (a2 : Int32) (a3 : Int32) (s0 : Int32) (h : HP)
    (b0 : vp_in ((2 + (6 * a2)) + 2) 62)
    (b1 : vp_in ((2 + (6 * a2)) + 2) 62)
    (k0 : (a3 = (-1)) → (s0 = (-1)) → Post (some (.int (41 - 41))) (jPI h 56 (((2 + (6 * a2)) + 2).toNatClampNeg) ((h.1 56 (((2 + (6 * a2)) + 2).toNatClampNeg)) - 1)))
    (k1 : (a3 = (-1)) → (¬ s0 = (-1)) → Post (some (.int (41 - s0))) (jPI h 56 (((2 + (6 * a2)) + 2).toNatClampNeg) ((h.1 56 (((2 + (6 * a2)) + 2).toNatClampNeg)) - 1)))
    (k2 : (¬ a3 = (-1)) → (s0 = (-1)) → Post (some (.int (a3 - 41))) (jPI h 56 (((2 + (6 * a2)) + 2).toNatClampNeg) ((h.1 56 (((2 + (6 * a2)) + 2).toNatClampNeg)) - 1)))
    (k3 : (¬ a3 = (-1)) → (¬ s0 = (-1)) → Post (some (.int (a3 - s0))) (jPI h 56 (((2 + (6 * a2)) + 2).toNatClampNeg) ((h.1 56 (((2 + (6 * a2)) + 2).toNatClampNeg)) - 1)))
    : jG E mX8_inch (n + 2) X Post 51 [some (.ref 52), none, some (.int a2), some (.int a3), none] [.int s0] h := by
  refine jr_istore (pc' := 53) (i := 4) (lv' := [some (.ref 52), none, some (.int a2), some (.int a3), some (.int s0)]) dX8_inch_51 rfl (by decide) rfl ?_
  refine jr_aload_n (pc' := 54) (i := 0) dX8_inch_53 rfl rfl rfl ?_
  refine jr_get (pc' := 57) jK8 (k := 52) (j := 9) (v := .ref 56) wfX8_19 dX8_inch_54 rfl (by decide) rfl (by decide) rfl ?_
  refine jr_iconst (pc' := 58) (v := 2) dX8_inch_57 rfl (by decide) ?_
  refine jr_bipush (pc' := 60) (v := 6) dX8_inch_58 rfl (by decide) ?_
  refine jr_iload_n (pc' := 61) (i := 2) dX8_inch_60 rfl rfl rfl ?_
  refine jr_imul (pc' := 62)  dX8_inch_61 rfl  ?_
  refine jr_iadd (pc' := 63)  dX8_inch_62 rfl  ?_
  refine jr_iconst (pc' := 64) (v := 2) dX8_inch_63 rfl (by decide) ?_
  refine jr_iadd (pc' := 65)  dX8_inch_64 rfl  ?_
  refine jr_dup2 (pc' := 66)  dX8_inch_65 rfl rfl rfl ?_
  refine jr_iald (pc' := 67) (v := h.1 56 (((2 + (6 * a2)) + 2).toNatClampNeg)) dX8_inch_66 rfl (by decide) rfl (b0) rfl ?_
  refine jr_iconst (pc' := 68) (v := 1) dX8_inch_67 rfl (by decide) ?_
  refine jr_isub (pc' := 69)  dX8_inch_68 rfl  ?_
  refine jr_iast (pc' := 70) (j := ((2 + (6 * a2)) + 2).toNatClampNeg) dX8_inch_69 rfl (by decide) rfl (b1) rfl ?_
  refine jr_iload_n (pc' := 71) (i := 3) dX8_inch_70 rfl rfl rfl ?_
  refine jr_iconst (pc' := 72) (v := (-1)) dX8_inch_71 rfl (by decide) ?_
  by_cases c1 : a3 = (-1)
  · refine jr_icmp_neF (pc' := 75) (tgt := 80) dX8_inch_72 rfl rfl c1 ?_
    refine jr_bipush (pc' := 77) (v := 41) dX8_inch_75 rfl (by decide) ?_
    refine jr_goto (pc' := 81) dX8_inch_77 rfl ?_
    refine jr_iload (pc' := 83) (i := 4) dX8_inch_81 rfl rfl ?_
    refine jr_iconst (pc' := 84) (v := (-1)) dX8_inch_83 rfl (by decide) ?_
    by_cases c2 : s0 = (-1)
    · refine jr_icmp_neF (pc' := 87) (tgt := 92) dX8_inch_84 rfl rfl c2 ?_
      refine jr_bipush (pc' := 89) (v := 41) dX8_inch_87 rfl (by decide) ?_
      refine jr_goto (pc' := 94) dX8_inch_89 rfl ?_
      refine jr_isub (pc' := 95)  dX8_inch_94 rfl  ?_
      exact jr_iret dX8_inch_95 rfl rfl (k0 c1 c2)
    · refine jr_icmp_neT (pc' := 92) dX8_inch_84 rfl c2 ?_
      refine jr_iload (pc' := 94) (i := 4) dX8_inch_92 rfl rfl ?_
      refine jr_isub (pc' := 95)  dX8_inch_94 rfl  ?_
      exact jr_iret dX8_inch_95 rfl rfl (k1 c1 c2)
  · refine jr_icmp_neT (pc' := 80) dX8_inch_72 rfl c1 ?_
    refine jr_iload_n (pc' := 81) (i := 3) dX8_inch_80 rfl rfl rfl ?_
    refine jr_iload (pc' := 83) (i := 4) dX8_inch_81 rfl rfl ?_
    refine jr_iconst (pc' := 84) (v := (-1)) dX8_inch_83 rfl (by decide) ?_
    by_cases c3 : s0 = (-1)
    · refine jr_icmp_neF (pc' := 87) (tgt := 92) dX8_inch_84 rfl rfl c3 ?_
      refine jr_bipush (pc' := 89) (v := 41) dX8_inch_87 rfl (by decide) ?_
      refine jr_goto (pc' := 94) dX8_inch_89 rfl ?_
      refine jr_isub (pc' := 95)  dX8_inch_94 rfl  ?_
      exact jr_iret dX8_inch_95 rfl rfl (k2 c1 c3)
    · refine jr_icmp_neT (pc' := 92) dX8_inch_84 rfl c3 ?_
      refine jr_iload (pc' := 94) (i := 4) dX8_inch_92 rfl rfl ?_
      refine jr_isub (pc' := 95)  dX8_inch_94 rfl  ?_
      exact jr_iret dX8_inch_95 rfl rfl (k3 c1 c3)

theorem q_Monobody_0 {E : jEnv} {n : Nat} {X : State → Prop} {Post : Option Value → HP → Prop} (x : Int32) (h : HP)
    (k0 : jG E mX8_nobody (n + 1) X Post 5 [some (.ref 52), some (.int x), some (.long 0), none, some (.int 0), none] [] h)
    : jG E mX8_nobody (n + 1) X Post 0 [some (.ref 52), some (.int x), none, none, none, none] [] h := by
  refine jr_lconst (pc' := 1) (v := 0) dX8_nobody_0 rfl (by decide) ?_
  refine jr_lstore_n (pc' := 2) (i := 2) (lv' := [some (.ref 52), some (.int x), some (.long 0), none, none, none]) dX8_nobody_1 rfl rfl (by decide) rfl ?_
  refine jr_iconst (pc' := 3) (v := 0) dX8_nobody_2 rfl (by decide) ?_
  refine jr_istore (pc' := 5) (i := 4) (lv' := [some (.ref 52), some (.int x), some (.long 0), none, some (.int 0), none]) dX8_nobody_3 rfl (by decide) rfl ?_
  exact jG.weak (lv' := [some (.ref 52), some (.int x), some (.long 0), none, some (.int 0), none]) ⟨rfl, rfl, rfl, rfl, trivial⟩ (k0)

theorem q_Monobody_5 {E : jEnv} {n : Nat} {X : State → Prop} {Post : Option Value → HP → Prop} (a1 : Int32) (l2 : Int64) (a4 : Int32) (h : HP)
    (k0 : ((h.1 52 5) ≤ a4) → jG E mX8_nobody (n + 1) X Post 35 [some (.ref 52), some (.int a1), some (.long l2), none, some (.int 0), some (.int 0)] [] h)
    (k1 : (¬ (h.1 52 5) ≤ a4) → jCall E mX8_reach n [.ref 52, .int a4] h (fun v h2 => jG E mX8_nobody (n + 1) X Post 21 [some (.ref 52), some (.int a1), none, none, some (.int a4), none] (v.toList ++ [.long l2]) h2))
    : jG E mX8_nobody (n + 1) X Post 5 [some (.ref 52), some (.int a1), some (.long l2), none, some (.int a4), none] [] h := by
  refine jr_iload (pc' := 7) (i := 4) dX8_nobody_5 rfl rfl ?_
  refine jr_aload_n (pc' := 8) (i := 0) dX8_nobody_7 rfl rfl rfl ?_
  refine jr_get (pc' := 11) jK8 (k := 52) (j := 5) (v := .int (h.1 52 5)) wfX8_86 dX8_nobody_8 rfl (by decide) rfl (by decide) rfl ?_
  by_cases c1 : (h.1 52 5) ≤ a4
  · refine jr_icmp_geT (pc' := 29) dX8_nobody_11 rfl c1 ?_
    refine jr_iconst (pc' := 30) (v := 0) dX8_nobody_29 rfl (by decide) ?_
    refine jr_istore (pc' := 32) (i := 4) (lv' := [some (.ref 52), some (.int a1), some (.long l2), none, some (.int 0), none]) dX8_nobody_30 rfl (by decide) rfl ?_
    refine jr_iconst (pc' := 33) (v := 0) dX8_nobody_32 rfl (by decide) ?_
    refine jr_istore (pc' := 35) (i := 5) (lv' := [some (.ref 52), some (.int a1), some (.long l2), none, some (.int 0), some (.int 0)]) dX8_nobody_33 rfl (by decide) rfl ?_
    exact jG.weak (lv' := [some (.ref 52), some (.int a1), some (.long l2), none, some (.int 0), some (.int 0)]) ⟨rfl, rfl, rfl, rfl, rfl, trivial⟩ (k0 c1)
  · refine jr_icmp_geF (pc' := 14) (tgt := 29) dX8_nobody_11 rfl rfl c1 ?_
    refine jr_lload_n (pc' := 15) (i := 2) dX8_nobody_14 rfl rfl rfl ?_
    refine jr_aload_n (pc' := 16) (i := 0) dX8_nobody_15 rfl rfl rfl ?_
    refine jr_iload (pc' := 18) (i := 4) dX8_nobody_16 rfl rfl ?_
    obtain ⟨P1, hC1, hK1⟩ := k1 c1
    exact jr_callV (pc' := 21) (k := 52) (av := [.int a4]) (st := [.long l2]) sX8_reach wmX8_299 dX8_nobody_18 rfl (by decide) rfl (by decide) rfl rfl rfl (Nat.le_of_ble_eq_true rfl) rfl hC1 (fun v h2 hp => jG.weak (lv' := [some (.ref 52), some (.int a1), none, none, some (.int a4), none]) ⟨rfl, rfl, rfl, trivial⟩ (hK1 v h2 hp))

theorem q_Monobody_35 {E : jEnv} {n : Nat} {X : State → Prop} {Post : Option Value → HP → Prop} (a1 : Int32) (l2 : Int64) (a4 : Int32) (a5 : Int32) (h : HP)
    (k0 : (((h.1 52 0) * (h.1 52 1)) ≤ a5) → (a1 = (-1)) → Post (some (.int a4)) h)
    (k1 : (((h.1 52 0) * (h.1 52 1)) ≤ a5) → (¬ a1 = (-1)) → Post (some (.int (-1))) h)
    (b0 : (¬ ((h.1 52 0) * (h.1 52 1)) ≤ a5) → ((lg_cmp ((l2 >>> (a5.toInt64 &&& 63)) &&& 1) 0) = 0) → (a4 = a1) → (¬ ((h.1 52 0)) = 0))
    (b1 : (¬ ((h.1 52 0) * (h.1 52 1)) ≤ a5) → ((lg_cmp ((l2 >>> (a5.toInt64 &&& 63)) &&& 1) 0) = 0) → (a4 = a1) → (¬ ((h.1 52 0)) = 0))
    (k2 : (¬ ((h.1 52 0) * (h.1 52 1)) ≤ a5) → ((lg_cmp ((l2 >>> (a5.toInt64 &&& 63)) &&& 1) 0) = 0) → (a4 = a1) → Post (some (.int (f_MocodeOf (h.1 52 0) a5))) h)
    (k3 : (¬ ((h.1 52 0) * (h.1 52 1)) ≤ a5) → ((lg_cmp ((l2 >>> (a5.toInt64 &&& 63)) &&& 1) 0) = 0) → (¬ a4 = a1) → jG E mX8_nobody (n + 1) X Post 35 [some (.ref 52), some (.int a1), some (.long l2), none, some (.int (a4 + 1)), some (.int (a5 + 1))] [] h)
    (k4 : (¬ ((h.1 52 0) * (h.1 52 1)) ≤ a5) → (¬ (lg_cmp ((l2 >>> (a5.toInt64 &&& 63)) &&& 1) 0) = 0) → jG E mX8_nobody (n + 1) X Post 35 [some (.ref 52), some (.int a1), some (.long l2), none, some (.int a4), some (.int (a5 + 1))] [] h)
    : jG E mX8_nobody (n + 1) X Post 35 [some (.ref 52), some (.int a1), some (.long l2), none, some (.int a4), some (.int a5)] [] h := by
  refine jr_iload (pc' := 37) (i := 5) dX8_nobody_35 rfl rfl ?_
  refine jr_aload_n (pc' := 38) (i := 0) dX8_nobody_37 rfl rfl rfl ?_
  refine jr_get (pc' := 41) jK8 (k := 52) (j := 0) (v := .int (h.1 52 0)) wfX8_76 dX8_nobody_38 rfl (by decide) rfl (by decide) rfl ?_
  refine jr_aload_n (pc' := 42) (i := 0) dX8_nobody_41 rfl rfl rfl ?_
  refine jr_get (pc' := 45) jK8 (k := 52) (j := 1) (v := .int (h.1 52 1)) wfX8_83 dX8_nobody_42 rfl (by decide) rfl (by decide) rfl ?_
  refine jr_imul (pc' := 46)  dX8_nobody_45 rfl  ?_
  by_cases c1 : ((h.1 52 0) * (h.1 52 1)) ≤ a5
  · refine jr_icmp_geT (pc' := 82) dX8_nobody_46 rfl c1 ?_
    refine jr_iload_n (pc' := 83) (i := 1) dX8_nobody_82 rfl rfl rfl ?_
    refine jr_iconst (pc' := 84) (v := (-1)) dX8_nobody_83 rfl (by decide) ?_
    by_cases c2 : a1 = (-1)
    · refine jr_icmp_neF (pc' := 87) (tgt := 92) dX8_nobody_84 rfl rfl c2 ?_
      refine jr_iload (pc' := 89) (i := 4) dX8_nobody_87 rfl rfl ?_
      refine jr_goto (pc' := 93) dX8_nobody_89 rfl ?_
      exact jr_iret dX8_nobody_93 rfl rfl (k0 c1 c2)
    · refine jr_icmp_neT (pc' := 92) dX8_nobody_84 rfl c2 ?_
      refine jr_iconst (pc' := 93) (v := (-1)) dX8_nobody_92 rfl (by decide) ?_
      exact jr_iret dX8_nobody_93 rfl rfl (k1 c1 c2)
  · refine jr_icmp_geF (pc' := 49) (tgt := 82) dX8_nobody_46 rfl rfl c1 ?_
    refine jr_lload_n (pc' := 50) (i := 2) dX8_nobody_49 rfl rfl rfl ?_
    refine jr_iload (pc' := 52) (i := 5) dX8_nobody_50 rfl rfl ?_
    refine jr_lshr (pc' := 53)  dX8_nobody_52 rfl  ?_
    refine jr_lconst (pc' := 54) (v := 1) dX8_nobody_53 rfl (by decide) ?_
    refine jr_land (pc' := 55)  dX8_nobody_54 rfl  ?_
    refine jr_lconst (pc' := 56) (v := 0) dX8_nobody_55 rfl (by decide) ?_
    refine jr_lcmp (pc' := 57)  dX8_nobody_56 rfl  ?_
    by_cases c3 : (lg_cmp ((l2 >>> (a5.toInt64 &&& 63)) &&& 1) 0) = 0
    · refine jr_if_neF (pc' := 60) (tgt := 76) dX8_nobody_57 rfl rfl c3 ?_
      refine jr_iload (pc' := 62) (i := 4) dX8_nobody_60 rfl rfl ?_
      refine jr_iload_n (pc' := 63) (i := 1) dX8_nobody_62 rfl rfl rfl ?_
      by_cases c4 : a4 = a1
      · refine jr_icmp_neF (pc' := 66) (tgt := 73) dX8_nobody_63 rfl rfl c4 ?_
        refine jr_aload_n (pc' := 67) (i := 0) dX8_nobody_66 rfl rfl rfl ?_
        refine jr_iload (pc' := 69) (i := 5) dX8_nobody_67 rfl rfl ?_
        refine jr_callV (pc' := 72) (k := 52) (av := [.int a5]) (st := []) sX8_codeOf wmX8_246 dX8_nobody_69 rfl (by decide) rfl (by decide) rfl rfl rfl (Nat.le_of_ble_eq_true rfl) rfl (c_MocodeOf (n := n) a5 h (b0 c1 c3 c4) (b1 c1 c3 c4)) (fun v h2 hp => ?_)
        rw [hp.1, hp.2]
        show jG E mX8_nobody (n + 1) X Post 72 [some (.ref 52), some (.int a1), some (.long l2), none, some (.int a4), some (.int a5)] [.int (f_MocodeOf (h.1 52 0) a5)] h
        exact jr_iret dX8_nobody_72 rfl rfl (k2 c1 c3 c4)
      · refine jr_icmp_neT (pc' := 73) dX8_nobody_63 rfl c4 ?_
        refine jr_iinc (pc' := 76) (i := 4) (v := (a4 + 1)) (lv' := [some (.ref 52), some (.int a1), some (.long l2), none, some (.int (a4 + 1)), some (.int a5)]) dX8_nobody_73 rfl rfl (congrArg (a4 + ·) (by decide)) (by decide) rfl ?_
        refine jr_iinc (pc' := 79) (i := 5) (v := (a5 + 1)) (lv' := [some (.ref 52), some (.int a1), some (.long l2), none, some (.int (a4 + 1)), some (.int (a5 + 1))]) dX8_nobody_76 rfl rfl (congrArg (a5 + ·) (by decide)) (by decide) rfl ?_
        refine jr_goto (pc' := 35) dX8_nobody_79 rfl ?_
        exact jG.weak (lv' := [some (.ref 52), some (.int a1), some (.long l2), none, some (.int (a4 + 1)), some (.int (a5 + 1))]) ⟨rfl, rfl, rfl, rfl, rfl, trivial⟩ (k3 c1 c3 c4)
    · refine jr_if_neT (pc' := 76) dX8_nobody_57 rfl c3 ?_
      refine jr_iinc (pc' := 79) (i := 5) (v := (a5 + 1)) (lv' := [some (.ref 52), some (.int a1), some (.long l2), none, some (.int a4), some (.int (a5 + 1))]) dX8_nobody_76 rfl rfl (congrArg (a5 + ·) (by decide)) (by decide) rfl ?_
      refine jr_goto (pc' := 35) dX8_nobody_79 rfl ?_
      exact jG.weak (lv' := [some (.ref 52), some (.int a1), some (.long l2), none, some (.int a4), some (.int (a5 + 1))]) ⟨rfl, rfl, rfl, rfl, rfl, trivial⟩ (k4 c1 c3)

theorem q_Monobody_21 {E : jEnv} {n : Nat} {X : State → Prop} {Post : Option Value → HP → Prop} (a1 : Int32) (a4 : Int32) (t0 : Int64) (t1 : Int64) (h : HP)
    (k0 : jG E mX8_nobody (n + 1) X Post 5 [some (.ref 52), some (.int a1), some (.long (t1 ||| t0)), none, some (.int (a4 + 1)), none] [] h)
    : jG E mX8_nobody (n + 1) X Post 21 [some (.ref 52), some (.int a1), none, none, some (.int a4), none] [.long t0, .long t1] h := by
  refine jr_lor (pc' := 22)  dX8_nobody_21 rfl  ?_
  refine jr_lstore_n (pc' := 23) (i := 2) (lv' := [some (.ref 52), some (.int a1), some (.long (t1 ||| t0)), none, some (.int a4), none]) dX8_nobody_22 rfl rfl (by decide) rfl ?_
  refine jr_iinc (pc' := 26) (i := 4) (v := (a4 + 1)) (lv' := [some (.ref 52), some (.int a1), some (.long (t1 ||| t0)), none, some (.int (a4 + 1)), none]) dX8_nobody_23 rfl rfl (congrArg (a4 + ·) (by decide)) (by decide) rfl ?_
  refine jr_goto (pc' := 5) dX8_nobody_26 rfl ?_
  exact jG.weak (lv' := [some (.ref 52), some (.int a1), some (.long (t1 ||| t0)), none, some (.int (a4 + 1)), none]) ⟨rfl, rfl, rfl, rfl, trivial⟩ (k0)

theorem q_Moreach_0 {E : jEnv} {n : Nat} {X : State → Prop} {Post : Option Value → HP → Prop} (x : Int32) (h : HP)
    (b0 : (vp_in ((2 + (6 * x)) + 1) 62))
    (b1 : (vp_in (2 + (6 * x)) 62))
    (k0 : jG E mX8_reach (n + 1) X Post 11 [some (.ref 52), some (.int x), some (.long (1 <<< ((f_MospotOf (h.1 52 0) (h.1 56) x).toInt64 &&& 63))), none, some (.int 1)] [] h)
    : jG E mX8_reach (n + 1) X Post 0 [some (.ref 52), some (.int x), none, none, none] [] h := by
  refine jr_lconst (pc' := 1) (v := 1) dX8_reach_0 rfl (by decide) ?_
  refine jr_aload_n (pc' := 2) (i := 0) dX8_reach_1 rfl rfl rfl ?_
  refine jr_iload_n (pc' := 3) (i := 1) dX8_reach_2 rfl rfl rfl ?_
  refine jr_callV (pc' := 6) (k := 52) (av := [.int x]) (st := [.long 1]) sX8_spotOf wmX8_223 dX8_reach_3 rfl (by decide) rfl (by decide) rfl rfl rfl (Nat.le_of_ble_eq_true rfl) rfl (c_MospotOf (n := n) x h (b0) (b1)) (fun v h2 hp => ?_)
  rw [hp.1, hp.2]
  show jG E mX8_reach (n + 1) X Post 6 [some (.ref 52), some (.int x), none, none, none] [.int (f_MospotOf (h.1 52 0) (h.1 56) x), .long 1] h
  refine jr_lshl (pc' := 7)  dX8_reach_6 rfl  ?_
  refine jr_lstore_n (pc' := 8) (i := 2) (lv' := [some (.ref 52), some (.int x), some (.long (1 <<< ((f_MospotOf (h.1 52 0) (h.1 56) x).toInt64 &&& 63))), none, none]) dX8_reach_7 rfl rfl (by decide) rfl ?_
  refine jr_iconst (pc' := 9) (v := 1) dX8_reach_8 rfl (by decide) ?_
  refine jr_istore (pc' := 11) (i := 4) (lv' := [some (.ref 52), some (.int x), some (.long (1 <<< ((f_MospotOf (h.1 52 0) (h.1 56) x).toInt64 &&& 63))), none, some (.int 1)]) dX8_reach_9 rfl (by decide) rfl ?_
  exact jG.weak (lv' := [some (.ref 52), some (.int x), some (.long (1 <<< ((f_MospotOf (h.1 52 0) (h.1 56) x).toInt64 &&& 63))), none, some (.int 1)]) ⟨rfl, rfl, rfl, rfl, trivial⟩ (k0)

theorem q_Moreach_11 {E : jEnv} {n : Nat} {X : State → Prop} {Post : Option Value → HP → Prop} (a1 : Int32) (l2 : Int64) (a4 : Int32) (h : HP)
    (k0 : ((40 : Int32) < a4) → Post (some (.long l2)) h)
    (b0 : (¬ (40 : Int32) < a4) → vp_in ((2 + (6 * a1)) + 2) 62)
    (k1 : (¬ (40 : Int32) < a4) → jCall E mX8_stepped n [.ref 52, .long l2, .int (h.1 56 (((2 + (6 * a1)) + 2).toNatClampNeg)), .int ((h.1 56 0) + a4)] h (fun v h2 => jG E mX8_reach (n + 1) X Post 45 [some (.ref 52), some (.int a1), none, none, some (.int a4)] (v.toList ++ []) h2))
    : jG E mX8_reach (n + 1) X Post 11 [some (.ref 52), some (.int a1), some (.long l2), none, some (.int a4)] [] h := by
  refine jr_iload (pc' := 13) (i := 4) dX8_reach_11 rfl rfl ?_
  refine jr_bipush (pc' := 15) (v := 40) dX8_reach_13 rfl (by decide) ?_
  by_cases c1 : (40 : Int32) < a4
  · refine jr_icmp_gtT (pc' := 52) dX8_reach_15 rfl c1 ?_
    refine jr_lload_n (pc' := 53) (i := 2) dX8_reach_52 rfl rfl rfl ?_
    exact jr_lret dX8_reach_53 rfl (k0 c1)
  · refine jr_icmp_gtF (pc' := 18) (tgt := 52) dX8_reach_15 rfl rfl c1 ?_
    refine jr_aload_n (pc' := 19) (i := 0) dX8_reach_18 rfl rfl rfl ?_
    refine jr_lload_n (pc' := 20) (i := 2) dX8_reach_19 rfl rfl rfl ?_
    refine jr_aload_n (pc' := 21) (i := 0) dX8_reach_20 rfl rfl rfl ?_
    refine jr_get (pc' := 24) jK8 (k := 52) (j := 9) (v := .ref 56) wfX8_19 dX8_reach_21 rfl (by decide) rfl (by decide) rfl ?_
    refine jr_iconst (pc' := 25) (v := 2) dX8_reach_24 rfl (by decide) ?_
    refine jr_bipush (pc' := 27) (v := 6) dX8_reach_25 rfl (by decide) ?_
    refine jr_iload_n (pc' := 28) (i := 1) dX8_reach_27 rfl rfl rfl ?_
    refine jr_imul (pc' := 29)  dX8_reach_28 rfl  ?_
    refine jr_iadd (pc' := 30)  dX8_reach_29 rfl  ?_
    refine jr_iconst (pc' := 31) (v := 2) dX8_reach_30 rfl (by decide) ?_
    refine jr_iadd (pc' := 32)  dX8_reach_31 rfl  ?_
    refine jr_iald (pc' := 33) (v := h.1 56 (((2 + (6 * a1)) + 2).toNatClampNeg)) dX8_reach_32 rfl (by decide) rfl (b0 c1) rfl ?_
    refine jr_aload_n (pc' := 34) (i := 0) dX8_reach_33 rfl rfl rfl ?_
    refine jr_get (pc' := 37) jK8 (k := 52) (j := 9) (v := .ref 56) wfX8_19 dX8_reach_34 rfl (by decide) rfl (by decide) rfl ?_
    refine jr_iconst (pc' := 38) (v := 0) dX8_reach_37 rfl (by decide) ?_
    refine jr_iald (pc' := 39) (v := h.1 56 0) dX8_reach_38 rfl (by decide) rfl (jvin (by decide)) ((congrArg (h.1 56) (by decide : (0 : Int32).toNatClampNeg = 0)).trans rfl) ?_
    refine jr_iload (pc' := 41) (i := 4) dX8_reach_39 rfl rfl ?_
    refine jr_iadd (pc' := 42)  dX8_reach_41 rfl  ?_
    obtain ⟨P1, hC1, hK1⟩ := k1 c1
    exact jr_callV (pc' := 45) (k := 52) (av := [.long l2, .int (h.1 56 (((2 + (6 * a1)) + 2).toNatClampNeg)), .int ((h.1 56 0) + a4)]) (st := []) sX8_stepped wmX8_274 dX8_reach_42 rfl (by decide) rfl (by decide) rfl rfl rfl (Nat.le_of_ble_eq_true rfl) rfl hC1 (fun v h2 hp => jG.weak (lv' := [some (.ref 52), some (.int a1), none, none, some (.int a4)]) ⟨rfl, rfl, rfl, trivial⟩ (hK1 v h2 hp))

theorem q_Moreach_45 {E : jEnv} {n : Nat} {X : State → Prop} {Post : Option Value → HP → Prop} (a1 : Int32) (a4 : Int32) (t0 : Int64) (h : HP)
    (k0 : jG E mX8_reach (n + 1) X Post 11 [some (.ref 52), some (.int a1), some (.long t0), none, some (.int (a4 + 1))] [] h)
    : jG E mX8_reach (n + 1) X Post 45 [some (.ref 52), some (.int a1), none, none, some (.int a4)] [.long t0] h := by
  refine jr_lstore_n (pc' := 46) (i := 2) (lv' := [some (.ref 52), some (.int a1), some (.long t0), none, some (.int a4)]) dX8_reach_45 rfl rfl (by decide) rfl ?_
  refine jr_iinc (pc' := 49) (i := 4) (v := (a4 + 1)) (lv' := [some (.ref 52), some (.int a1), some (.long t0), none, some (.int (a4 + 1))]) dX8_reach_46 rfl rfl (congrArg (a4 + ·) (by decide)) (by decide) rfl ?_
  refine jr_goto (pc' := 11) dX8_reach_49 rfl ?_
  exact jG.weak (lv' := [some (.ref 52), some (.int a1), some (.long t0), none, some (.int (a4 + 1))]) ⟨rfl, rfl, rfl, rfl, trivial⟩ (k0)

theorem q_Moalone_0 {E : jEnv} {n : Nat} {X : State → Prop} {Post : Option Value → HP → Prop} (x : Int32) (h : HP)
    (k0 : ((f_MoisMan (h.1 52 5) x) = 0) → Post (some (.int (-1000000001))) h)
    (k1 : (¬ (f_MoisMan (h.1 52 5) x) = 0) → jG E mX8_alone (n + 2) X Post 16 [some (.ref 52), some (.int x), some (.long 0), none, some (.int 0), none, none, none] [] h)
    : jG E mX8_alone (n + 2) X Post 0 [some (.ref 52), some (.int x), none, none, none, none, none, none] [] h := by
  refine jr_aload_n (pc' := 1) (i := 0) dX8_alone_0 rfl rfl rfl ?_
  refine jr_iload_n (pc' := 2) (i := 1) dX8_alone_1 rfl rfl rfl ?_
  refine jr_callV (pc' := 5) (k := 52) (av := [.int x]) (st := []) sX8_isMan wmX8_252 dX8_alone_2 rfl (by decide) rfl (by decide) rfl rfl rfl (Nat.le_of_ble_eq_true rfl) rfl (c_MoisMan (n := n) x h ) (fun v h2 hp => ?_)
  rw [hp.1, hp.2]
  show jG E mX8_alone (n + 2) X Post 5 [some (.ref 52), some (.int x), none, none, none, none, none, none] [.int (f_MoisMan (h.1 52 5) x)] h
  by_cases c1 : (f_MoisMan (h.1 52 5) x) = 0
  · refine jr_if_neF (pc' := 8) (tgt := 11) dX8_alone_5 rfl rfl c1 ?_
    refine jr_ldc (pc' := 10) (v := (-1000000001)) dX8_alone_8 rfl wcX8_249 ?_
    exact jr_iret dX8_alone_10 rfl rfl (k0 c1)
  · refine jr_if_neT (pc' := 11) dX8_alone_5 rfl c1 ?_
    refine jr_lconst (pc' := 12) (v := 0) dX8_alone_11 rfl (by decide) ?_
    refine jr_lstore_n (pc' := 13) (i := 2) (lv' := [some (.ref 52), some (.int x), some (.long 0), none, none, none, none, none]) dX8_alone_12 rfl rfl (by decide) rfl ?_
    refine jr_iconst (pc' := 14) (v := 0) dX8_alone_13 rfl (by decide) ?_
    refine jr_istore (pc' := 16) (i := 4) (lv' := [some (.ref 52), some (.int x), some (.long 0), none, some (.int 0), none, none, none]) dX8_alone_14 rfl (by decide) rfl ?_
    exact jG.weak (lv' := [some (.ref 52), some (.int x), some (.long 0), none, some (.int 0), none, none, none]) ⟨rfl, rfl, rfl, rfl, trivial⟩ (k1 c1)

theorem q_Moalone_16 {E : jEnv} {n : Nat} {X : State → Prop} {Post : Option Value → HP → Prop} (a1 : Int32) (l2 : Int64) (a4 : Int32) (h : HP)
    (k0 : ((h.1 52 5) ≤ a4) → jCall E mX8_reach (n + 1) [.ref 52, .int a1] h (fun v h2 => jG E mX8_alone (n + 2) X Post 55 [some (.ref 52), none, some (.long l2), none, none, none, none, none] (v.toList ++ []) h2))
    (k1 : (¬ (h.1 52 5) ≤ a4) → (a4 = a1) → jG E mX8_alone (n + 2) X Post 16 [some (.ref 52), some (.int a1), some (.long (l2 ||| 0)), none, some (.int (a4 + 1)), none, none, none] [] h)
    (k2 : (¬ (h.1 52 5) ≤ a4) → (¬ a4 = a1) → jCall E mX8_reach (n + 1) [.ref 52, .int a4] h (fun v h2 => jG E mX8_alone (n + 2) X Post 42 [some (.ref 52), some (.int a1), none, none, some (.int a4), none, none, none] (v.toList ++ [.long l2]) h2))
    : jG E mX8_alone (n + 2) X Post 16 [some (.ref 52), some (.int a1), some (.long l2), none, some (.int a4), none, none, none] [] h := by
  refine jr_iload (pc' := 18) (i := 4) dX8_alone_16 rfl rfl ?_
  refine jr_aload_n (pc' := 19) (i := 0) dX8_alone_18 rfl rfl rfl ?_
  refine jr_get (pc' := 22) jK8 (k := 52) (j := 5) (v := .int (h.1 52 5)) wfX8_86 dX8_alone_19 rfl (by decide) rfl (by decide) rfl ?_
  by_cases c1 : (h.1 52 5) ≤ a4
  · refine jr_icmp_geT (pc' := 50) dX8_alone_22 rfl c1 ?_
    refine jr_aload_n (pc' := 51) (i := 0) dX8_alone_50 rfl rfl rfl ?_
    refine jr_iload_n (pc' := 52) (i := 1) dX8_alone_51 rfl rfl rfl ?_
    obtain ⟨P1, hC1, hK1⟩ := k0 c1
    exact jr_callV (pc' := 55) (k := 52) (av := [.int a1]) (st := []) sX8_reach wmX8_299 dX8_alone_52 rfl (by decide) rfl (by decide) rfl rfl rfl (Nat.le_of_ble_eq_true rfl) rfl hC1 (fun v h2 hp => jG.weak (lv' := [some (.ref 52), none, some (.long l2), none, none, none, none, none]) ⟨rfl, rfl, trivial⟩ (hK1 v h2 hp))
  · refine jr_icmp_geF (pc' := 25) (tgt := 50) dX8_alone_22 rfl rfl c1 ?_
    refine jr_lload_n (pc' := 26) (i := 2) dX8_alone_25 rfl rfl rfl ?_
    refine jr_iload (pc' := 28) (i := 4) dX8_alone_26 rfl rfl ?_
    refine jr_iload_n (pc' := 29) (i := 1) dX8_alone_28 rfl rfl rfl ?_
    by_cases c2 : a4 = a1
    · refine jr_icmp_neF (pc' := 32) (tgt := 36) dX8_alone_29 rfl rfl c2 ?_
      refine jr_lconst (pc' := 33) (v := 0) dX8_alone_32 rfl (by decide) ?_
      refine jr_goto (pc' := 42) dX8_alone_33 rfl ?_
      refine jr_lor (pc' := 43)  dX8_alone_42 rfl  ?_
      refine jr_lstore_n (pc' := 44) (i := 2) (lv' := [some (.ref 52), some (.int a1), some (.long (l2 ||| 0)), none, some (.int a4), none, none, none]) dX8_alone_43 rfl rfl (by decide) rfl ?_
      refine jr_iinc (pc' := 47) (i := 4) (v := (a4 + 1)) (lv' := [some (.ref 52), some (.int a1), some (.long (l2 ||| 0)), none, some (.int (a4 + 1)), none, none, none]) dX8_alone_44 rfl rfl (congrArg (a4 + ·) (by decide)) (by decide) rfl ?_
      refine jr_goto (pc' := 16) dX8_alone_47 rfl ?_
      exact jG.weak (lv' := [some (.ref 52), some (.int a1), some (.long (l2 ||| 0)), none, some (.int (a4 + 1)), none, none, none]) ⟨rfl, rfl, rfl, rfl, trivial⟩ (k1 c1 c2)
    · refine jr_icmp_neT (pc' := 36) dX8_alone_29 rfl c2 ?_
      refine jr_aload_n (pc' := 37) (i := 0) dX8_alone_36 rfl rfl rfl ?_
      refine jr_iload (pc' := 39) (i := 4) dX8_alone_37 rfl rfl ?_
      obtain ⟨P1, hC1, hK1⟩ := k2 c1 c2
      exact jr_callV (pc' := 42) (k := 52) (av := [.int a4]) (st := [.long l2]) sX8_reach wmX8_299 dX8_alone_39 rfl (by decide) rfl (by decide) rfl rfl rfl (Nat.le_of_ble_eq_true rfl) rfl hC1 (fun v h2 hp => jG.weak (lv' := [some (.ref 52), some (.int a1), none, none, some (.int a4), none, none, none]) ⟨rfl, rfl, rfl, trivial⟩ (hK1 v h2 hp))

theorem q_Moalone_55 {E : jEnv} {n : Nat} {X : State → Prop} {Post : Option Value → HP → Prop} (l2 : Int64) (t0 : Int64) (h : HP)
    (k0 : jG E mX8_alone (n + 2) X Post 69 [some (.ref 52), none, none, none, some (.long (t0 &&& (l2 ^^^ (-1)))), none, some (.int 0), some (.int 0)] [] h)
    : jG E mX8_alone (n + 2) X Post 55 [some (.ref 52), none, some (.long l2), none, none, none, none, none] [.long t0] h := by
  refine jr_lload_n (pc' := 56) (i := 2) dX8_alone_55 rfl rfl rfl ?_
  refine jr_ldc2 (pc' := 59) (v := (-1)) dX8_alone_56 rfl wcX8_126 ?_
  refine jr_lxor (pc' := 60)  dX8_alone_59 rfl  ?_
  refine jr_land (pc' := 61)  dX8_alone_60 rfl  ?_
  refine jr_lstore (pc' := 63) (i := 4) (lv' := [some (.ref 52), none, some (.long l2), none, some (.long (t0 &&& (l2 ^^^ (-1)))), none, none, none]) dX8_alone_61 rfl (by decide) rfl ?_
  refine jr_iconst (pc' := 64) (v := 0) dX8_alone_63 rfl (by decide) ?_
  refine jr_istore (pc' := 66) (i := 6) (lv' := [some (.ref 52), none, some (.long l2), none, some (.long (t0 &&& (l2 ^^^ (-1)))), none, some (.int 0), none]) dX8_alone_64 rfl (by decide) rfl ?_
  refine jr_iconst (pc' := 67) (v := 0) dX8_alone_66 rfl (by decide) ?_
  refine jr_istore (pc' := 69) (i := 7) (lv' := [some (.ref 52), none, some (.long l2), none, some (.long (t0 &&& (l2 ^^^ (-1)))), none, some (.int 0), some (.int 0)]) dX8_alone_67 rfl (by decide) rfl ?_
  exact jG.weak (lv' := [some (.ref 52), none, none, none, some (.long (t0 &&& (l2 ^^^ (-1)))), none, some (.int 0), some (.int 0)]) ⟨rfl, rfl, rfl, rfl, trivial⟩ (k0)

theorem q_Moalone_42 {E : jEnv} {n : Nat} {X : State → Prop} {Post : Option Value → HP → Prop} (a1 : Int32) (a4 : Int32) (t0 : Int64) (t1 : Int64) (h : HP)
    (k0 : jG E mX8_alone (n + 2) X Post 16 [some (.ref 52), some (.int a1), some (.long (t1 ||| t0)), none, some (.int (a4 + 1)), none, none, none] [] h)
    : jG E mX8_alone (n + 2) X Post 42 [some (.ref 52), some (.int a1), none, none, some (.int a4), none, none, none] [.long t0, .long t1] h := by
  refine jr_lor (pc' := 43)  dX8_alone_42 rfl  ?_
  refine jr_lstore_n (pc' := 44) (i := 2) (lv' := [some (.ref 52), some (.int a1), some (.long (t1 ||| t0)), none, some (.int a4), none, none, none]) dX8_alone_43 rfl rfl (by decide) rfl ?_
  refine jr_iinc (pc' := 47) (i := 4) (v := (a4 + 1)) (lv' := [some (.ref 52), some (.int a1), some (.long (t1 ||| t0)), none, some (.int (a4 + 1)), none, none, none]) dX8_alone_44 rfl rfl (congrArg (a4 + ·) (by decide)) (by decide) rfl ?_
  refine jr_goto (pc' := 16) dX8_alone_47 rfl ?_
  exact jG.weak (lv' := [some (.ref 52), some (.int a1), some (.long (t1 ||| t0)), none, some (.int (a4 + 1)), none, none, none]) ⟨rfl, rfl, rfl, rfl, trivial⟩ (k0)

theorem q_Moalone_69 {E : jEnv} {n : Nat} {X : State → Prop} {Post : Option Value → HP → Prop} (l4 : Int64) (a6 : Int32) (a7 : Int32) (h : HP)
    (k0 : (((h.1 52 0) * (h.1 52 1)) ≤ a7) → Post (some (.int a6)) h)
    (k1 : (¬ ((h.1 52 0) * (h.1 52 1)) ≤ a7) → jG E mX8_alone (n + 2) X Post 69 [some (.ref 52), none, none, none, some (.long l4), none, some (.int (a6 + (((l4 >>> (a7.toInt64 &&& 63)) &&& 1).toInt32))), some (.int (a7 + 1))] [] h)
    : jG E mX8_alone (n + 2) X Post 69 [some (.ref 52), none, none, none, some (.long l4), none, some (.int a6), some (.int a7)] [] h := by
  refine jr_iload (pc' := 71) (i := 7) dX8_alone_69 rfl rfl ?_
  refine jr_aload_n (pc' := 72) (i := 0) dX8_alone_71 rfl rfl rfl ?_
  refine jr_get (pc' := 75) jK8 (k := 52) (j := 0) (v := .int (h.1 52 0)) wfX8_76 dX8_alone_72 rfl (by decide) rfl (by decide) rfl ?_
  refine jr_aload_n (pc' := 76) (i := 0) dX8_alone_75 rfl rfl rfl ?_
  refine jr_get (pc' := 79) jK8 (k := 52) (j := 1) (v := .int (h.1 52 1)) wfX8_83 dX8_alone_76 rfl (by decide) rfl (by decide) rfl ?_
  refine jr_imul (pc' := 80)  dX8_alone_79 rfl  ?_
  by_cases c1 : ((h.1 52 0) * (h.1 52 1)) ≤ a7
  · refine jr_icmp_geT (pc' := 102) dX8_alone_80 rfl c1 ?_
    refine jr_iload (pc' := 104) (i := 6) dX8_alone_102 rfl rfl ?_
    exact jr_iret dX8_alone_104 rfl rfl (k0 c1)
  · refine jr_icmp_geF (pc' := 83) (tgt := 102) dX8_alone_80 rfl rfl c1 ?_
    refine jr_iload (pc' := 85) (i := 6) dX8_alone_83 rfl rfl ?_
    refine jr_lload (pc' := 87) (i := 4) dX8_alone_85 rfl rfl ?_
    refine jr_iload (pc' := 89) (i := 7) dX8_alone_87 rfl rfl ?_
    refine jr_lshr (pc' := 90)  dX8_alone_89 rfl  ?_
    refine jr_lconst (pc' := 91) (v := 1) dX8_alone_90 rfl (by decide) ?_
    refine jr_land (pc' := 92)  dX8_alone_91 rfl  ?_
    refine jr_l2i (pc' := 93)  dX8_alone_92 rfl  ?_
    refine jr_iadd (pc' := 94)  dX8_alone_93 rfl  ?_
    refine jr_istore (pc' := 96) (i := 6) (lv' := [some (.ref 52), none, none, none, some (.long l4), none, some (.int (a6 + (((l4 >>> (a7.toInt64 &&& 63)) &&& 1).toInt32))), some (.int a7)]) dX8_alone_94 rfl (by decide) rfl ?_
    refine jr_iinc (pc' := 99) (i := 7) (v := (a7 + 1)) (lv' := [some (.ref 52), none, none, none, some (.long l4), none, some (.int (a6 + (((l4 >>> (a7.toInt64 &&& 63)) &&& 1).toInt32))), some (.int (a7 + 1))]) dX8_alone_96 rfl rfl (congrArg (a7 + ·) (by decide)) (by decide) rfl ?_
    refine jr_goto (pc' := 69) dX8_alone_99 rfl ?_
    exact jG.weak (lv' := [some (.ref 52), none, none, none, some (.long l4), none, some (.int (a6 + (((l4 >>> (a7.toInt64 &&& 63)) &&& 1).toInt32))), some (.int (a7 + 1))]) ⟨rfl, rfl, rfl, rfl, trivial⟩ (k1 c1)

theorem q_Mofits_0 {E : jEnv} {n : Nat} {X : State → Prop} {Post : Option Value → HP → Prop}  (h : HP)
    (k0 : ((h.1 52 12) = (-1)) → Post (some (.int (-1000000003))) h)
    (k1 : (¬ (h.1 52 12) = (-1)) → jG E mX8_fits (n + 1) X Post 16 [some (.ref 52), some (.int 0), some (.int 0), none, none, none] [] h)
    : jG E mX8_fits (n + 1) X Post 0 [some (.ref 52), none, none, none, none, none] [] h := by
  refine jr_aload_n (pc' := 1) (i := 0) dX8_fits_0 rfl rfl rfl ?_
  refine jr_get (pc' := 4) jK8 (k := 52) (j := 12) (v := .int (h.1 52 12)) wfX8_73 dX8_fits_1 rfl (by decide) rfl (by decide) rfl ?_
  refine jr_iconst (pc' := 5) (v := (-1)) dX8_fits_4 rfl (by decide) ?_
  by_cases c1 : (h.1 52 12) = (-1)
  · refine jr_icmp_neF (pc' := 8) (tgt := 12) dX8_fits_5 rfl rfl c1 ?_
    refine jr_ldcw (pc' := 11) (v := (-1000000003)) dX8_fits_8 rfl wcX8_259 ?_
    exact jr_iret dX8_fits_11 rfl rfl (k0 c1)
  · refine jr_icmp_neT (pc' := 12) dX8_fits_5 rfl c1 ?_
    refine jr_iconst (pc' := 13) (v := 0) dX8_fits_12 rfl (by decide) ?_
    refine jr_istore_n (pc' := 14) (i := 1) (lv' := [some (.ref 52), some (.int 0), none, none, none, none]) dX8_fits_13 rfl rfl (by decide) rfl ?_
    refine jr_iconst (pc' := 15) (v := 0) dX8_fits_14 rfl (by decide) ?_
    refine jr_istore_n (pc' := 16) (i := 2) (lv' := [some (.ref 52), some (.int 0), some (.int 0), none, none, none]) dX8_fits_15 rfl rfl (by decide) rfl ?_
    exact jG.weak (lv' := [some (.ref 52), some (.int 0), some (.int 0), none, none, none]) ⟨rfl, rfl, rfl, trivial⟩ (k1 c1)

theorem q_Mofits_16 {E : jEnv} {n : Nat} {X : State → Prop} {Post : Option Value → HP → Prop} (a1 : Int32) (a2 : Int32) (h : HP)
    (k0 : ((7 : Int32) ≤ a2) → Post (some (.int a1)) h)
    (k1 : (¬ (7 : Int32) ≤ a2) → jCall E mX8_allowed n [.ref 52, .long (1 <<< ((h.1 52 12).toInt64 &&& 63)), .int 0] h (fun v h2 => jG E mX8_fits (n + 1) X Post 33 [some (.ref 52), some (.int a1), some (.int a2), none, none, none] (v.toList ++ []) h2))
    : jG E mX8_fits (n + 1) X Post 16 [some (.ref 52), some (.int a1), some (.int a2), none, none, none] [] h := by
  refine jr_iload_n (pc' := 17) (i := 2) dX8_fits_16 rfl rfl rfl ?_
  refine jr_bipush (pc' := 19) (v := 7) dX8_fits_17 rfl (by decide) ?_
  by_cases c1 : (7 : Int32) ≤ a2
  · refine jr_icmp_geT (pc' := 94) dX8_fits_19 rfl c1 ?_
    refine jr_iload_n (pc' := 95) (i := 1) dX8_fits_94 rfl rfl rfl ?_
    exact jr_iret dX8_fits_95 rfl rfl (k0 c1)
  · refine jr_icmp_geF (pc' := 22) (tgt := 94) dX8_fits_19 rfl rfl c1 ?_
    refine jr_aload_n (pc' := 23) (i := 0) dX8_fits_22 rfl rfl rfl ?_
    refine jr_lconst (pc' := 24) (v := 1) dX8_fits_23 rfl (by decide) ?_
    refine jr_aload_n (pc' := 25) (i := 0) dX8_fits_24 rfl rfl rfl ?_
    refine jr_get (pc' := 28) jK8 (k := 52) (j := 12) (v := .int (h.1 52 12)) wfX8_73 dX8_fits_25 rfl (by decide) rfl (by decide) rfl ?_
    refine jr_lshl (pc' := 29)  dX8_fits_28 rfl  ?_
    refine jr_iconst (pc' := 30) (v := 0) dX8_fits_29 rfl (by decide) ?_
    obtain ⟨P1, hC1, hK1⟩ := k1 c1
    exact jr_callV (pc' := 33) (k := 52) (av := [.long (1 <<< ((h.1 52 12).toInt64 &&& 63)), .int 0]) (st := []) sX8_allowed wmX8_305 dX8_fits_30 rfl (by decide) rfl (by decide) rfl rfl rfl (Nat.le_of_ble_eq_true rfl) rfl hC1 (fun v h2 hp => jG.weak (lv' := [some (.ref 52), some (.int a1), some (.int a2), none, none, none]) ⟨rfl, rfl, rfl, trivial⟩ (hK1 v h2 hp))

theorem q_Mofits_33 {E : jEnv} {n : Nat} {X : State → Prop} {Post : Option Value → HP → Prop} (a1 : Int32) (a2 : Int32) (t0 : Int64) (h : HP)
    (k0 : jG E mX8_fits (n + 1) X Post 37 [some (.ref 52), some (.int a1), some (.int a2), some (.long t0), none, some (.int 1)] [] h)
    : jG E mX8_fits (n + 1) X Post 33 [some (.ref 52), some (.int a1), some (.int a2), none, none, none] [.long t0] h := by
  refine jr_lstore_n (pc' := 34) (i := 3) (lv' := [some (.ref 52), some (.int a1), some (.int a2), some (.long t0), none, none]) dX8_fits_33 rfl rfl (by decide) rfl ?_
  refine jr_iconst (pc' := 35) (v := 1) dX8_fits_34 rfl (by decide) ?_
  refine jr_istore (pc' := 37) (i := 5) (lv' := [some (.ref 52), some (.int a1), some (.int a2), some (.long t0), none, some (.int 1)]) dX8_fits_35 rfl (by decide) rfl ?_
  exact jG.weak (lv' := [some (.ref 52), some (.int a1), some (.int a2), some (.long t0), none, some (.int 1)]) ⟨rfl, rfl, rfl, rfl, rfl, trivial⟩ (k0)

theorem q_Mofits_37 {E : jEnv} {n : Nat} {X : State → Prop} {Post : Option Value → HP → Prop} (a1 : Int32) (a2 : Int32) (l3 : Int64) (a5 : Int32) (h : HP)
    (k0 : ((40 : Int32) < a5) → ((lg_cmp l3 0) = 0) → jG E mX8_fits (n + 1) X Post 16 [some (.ref 52), some (.int (a1 ||| 0)), some (.int (a2 + 1)), none, none, none] [] h)
    (k1 : ((40 : Int32) < a5) → (¬ (lg_cmp l3 0) = 0) → jG E mX8_fits (n + 1) X Post 16 [some (.ref 52), some (.int (a1 ||| (1 <<< (a2 &&& 31)))), some (.int (a2 + 1)), none, none, none] [] h)
    (k2 : (¬ (40 : Int32) < a5) → jCall E mX8_stepped n [.ref 52, .long l3, .int a2, .int ((h.1 56 0) + a5)] h (fun v h2 => jG E mX8_fits (n + 1) X Post 60 [some (.ref 52), some (.int a1), some (.int a2), none, none, some (.int a5)] (v.toList ++ [.ref 52]) h2))
    : jG E mX8_fits (n + 1) X Post 37 [some (.ref 52), some (.int a1), some (.int a2), some (.long l3), none, some (.int a5)] [] h := by
  refine jr_iload (pc' := 39) (i := 5) dX8_fits_37 rfl rfl ?_
  refine jr_bipush (pc' := 41) (v := 40) dX8_fits_39 rfl (by decide) ?_
  by_cases c1 : (40 : Int32) < a5
  · refine jr_icmp_gtT (pc' := 72) dX8_fits_41 rfl c1 ?_
    refine jr_iload_n (pc' := 73) (i := 1) dX8_fits_72 rfl rfl rfl ?_
    refine jr_lload_n (pc' := 74) (i := 3) dX8_fits_73 rfl rfl rfl ?_
    refine jr_lconst (pc' := 75) (v := 0) dX8_fits_74 rfl (by decide) ?_
    refine jr_lcmp (pc' := 76)  dX8_fits_75 rfl  ?_
    by_cases c2 : (lg_cmp l3 0) = 0
    · refine jr_if_eqT (pc' := 85) dX8_fits_76 rfl c2 ?_
      refine jr_iconst (pc' := 86) (v := 0) dX8_fits_85 rfl (by decide) ?_
      refine jr_ior (pc' := 87)  dX8_fits_86 rfl  ?_
      refine jr_istore_n (pc' := 88) (i := 1) (lv' := [some (.ref 52), some (.int (a1 ||| 0)), some (.int a2), some (.long l3), none, some (.int a5)]) dX8_fits_87 rfl rfl (by decide) rfl ?_
      refine jr_iinc (pc' := 91) (i := 2) (v := (a2 + 1)) (lv' := [some (.ref 52), some (.int (a1 ||| 0)), some (.int (a2 + 1)), some (.long l3), none, some (.int a5)]) dX8_fits_88 rfl rfl (congrArg (a2 + ·) (by decide)) (by decide) rfl ?_
      refine jr_goto (pc' := 16) dX8_fits_91 rfl ?_
      exact jG.weak (lv' := [some (.ref 52), some (.int (a1 ||| 0)), some (.int (a2 + 1)), none, none, none]) ⟨rfl, rfl, rfl, trivial⟩ (k0 c1 c2)
    · refine jr_if_eqF (pc' := 79) (tgt := 85) dX8_fits_76 rfl rfl c2 ?_
      refine jr_iconst (pc' := 80) (v := 1) dX8_fits_79 rfl (by decide) ?_
      refine jr_iload_n (pc' := 81) (i := 2) dX8_fits_80 rfl rfl rfl ?_
      refine jr_ishl (pc' := 82)  dX8_fits_81 rfl  ?_
      refine jr_goto (pc' := 86) dX8_fits_82 rfl ?_
      refine jr_ior (pc' := 87)  dX8_fits_86 rfl  ?_
      refine jr_istore_n (pc' := 88) (i := 1) (lv' := [some (.ref 52), some (.int (a1 ||| (1 <<< (a2 &&& 31)))), some (.int a2), some (.long l3), none, some (.int a5)]) dX8_fits_87 rfl rfl (by decide) rfl ?_
      refine jr_iinc (pc' := 91) (i := 2) (v := (a2 + 1)) (lv' := [some (.ref 52), some (.int (a1 ||| (1 <<< (a2 &&& 31)))), some (.int (a2 + 1)), some (.long l3), none, some (.int a5)]) dX8_fits_88 rfl rfl (congrArg (a2 + ·) (by decide)) (by decide) rfl ?_
      refine jr_goto (pc' := 16) dX8_fits_91 rfl ?_
      exact jG.weak (lv' := [some (.ref 52), some (.int (a1 ||| (1 <<< (a2 &&& 31)))), some (.int (a2 + 1)), none, none, none]) ⟨rfl, rfl, rfl, trivial⟩ (k1 c1 c2)
  · refine jr_icmp_gtF (pc' := 44) (tgt := 72) dX8_fits_41 rfl rfl c1 ?_
    refine jr_aload_n (pc' := 45) (i := 0) dX8_fits_44 rfl rfl rfl ?_
    refine jr_aload_n (pc' := 46) (i := 0) dX8_fits_45 rfl rfl rfl ?_
    refine jr_lload_n (pc' := 47) (i := 3) dX8_fits_46 rfl rfl rfl ?_
    refine jr_iload_n (pc' := 48) (i := 2) dX8_fits_47 rfl rfl rfl ?_
    refine jr_aload_n (pc' := 49) (i := 0) dX8_fits_48 rfl rfl rfl ?_
    refine jr_get (pc' := 52) jK8 (k := 52) (j := 9) (v := .ref 56) wfX8_19 dX8_fits_49 rfl (by decide) rfl (by decide) rfl ?_
    refine jr_iconst (pc' := 53) (v := 0) dX8_fits_52 rfl (by decide) ?_
    refine jr_iald (pc' := 54) (v := h.1 56 0) dX8_fits_53 rfl (by decide) rfl (jvin (by decide)) ((congrArg (h.1 56) (by decide : (0 : Int32).toNatClampNeg = 0)).trans rfl) ?_
    refine jr_iload (pc' := 56) (i := 5) dX8_fits_54 rfl rfl ?_
    refine jr_iadd (pc' := 57)  dX8_fits_56 rfl  ?_
    obtain ⟨P1, hC1, hK1⟩ := k2 c1
    exact jr_callV (pc' := 60) (k := 52) (av := [.long l3, .int a2, .int ((h.1 56 0) + a5)]) (st := [.ref 52]) sX8_stepped wmX8_274 dX8_fits_57 rfl (by decide) rfl (by decide) rfl rfl rfl (Nat.le_of_ble_eq_true rfl) rfl hC1 (fun v h2 hp => jG.weak (lv' := [some (.ref 52), some (.int a1), some (.int a2), none, none, some (.int a5)]) ⟨rfl, rfl, rfl, rfl, trivial⟩ (hK1 v h2 hp))

theorem q_Mofits_60 {E : jEnv} {n : Nat} {X : State → Prop} {Post : Option Value → HP → Prop} (a1 : Int32) (a2 : Int32) (a5 : Int32) (t0 : Int64) (h : HP)
    (k0 : jCall E mX8_allowed n [.ref 52, .long t0, .int a5] h (fun v h2 => jG E mX8_fits (n + 1) X Post 65 [some (.ref 52), some (.int a1), some (.int a2), none, none, some (.int a5)] (v.toList ++ []) h2))
    : jG E mX8_fits (n + 1) X Post 60 [some (.ref 52), some (.int a1), some (.int a2), none, none, some (.int a5)] [.long t0, .ref 52] h := by
  refine jr_iload (pc' := 62) (i := 5) dX8_fits_60 rfl rfl ?_
  obtain ⟨P1, hC1, hK1⟩ := k0
  exact jr_callV (pc' := 65) (k := 52) (av := [.long t0, .int a5]) (st := []) sX8_allowed wmX8_305 dX8_fits_62 rfl (by decide) rfl (by decide) rfl rfl rfl (Nat.le_of_ble_eq_true rfl) rfl hC1 (fun v h2 hp => jG.weak (lv' := [some (.ref 52), some (.int a1), some (.int a2), none, none, some (.int a5)]) ⟨rfl, rfl, rfl, rfl, trivial⟩ (hK1 v h2 hp))

theorem q_Mofits_65 {E : jEnv} {n : Nat} {X : State → Prop} {Post : Option Value → HP → Prop} (a1 : Int32) (a2 : Int32) (a5 : Int32) (t0 : Int64) (h : HP)
    (k0 : jG E mX8_fits (n + 1) X Post 37 [some (.ref 52), some (.int a1), some (.int a2), some (.long t0), none, some (.int (a5 + 1))] [] h)
    : jG E mX8_fits (n + 1) X Post 65 [some (.ref 52), some (.int a1), some (.int a2), none, none, some (.int a5)] [.long t0] h := by
  refine jr_lstore_n (pc' := 66) (i := 3) (lv' := [some (.ref 52), some (.int a1), some (.int a2), some (.long t0), none, some (.int a5)]) dX8_fits_65 rfl rfl (by decide) rfl ?_
  refine jr_iinc (pc' := 69) (i := 5) (v := (a5 + 1)) (lv' := [some (.ref 52), some (.int a1), some (.int a2), some (.long t0), none, some (.int (a5 + 1))]) dX8_fits_66 rfl rfl (congrArg (a5 + ·) (by decide)) (by decide) rfl ?_
  refine jr_goto (pc' := 37) dX8_fits_69 rfl ?_
  exact jG.weak (lv' := [some (.ref 52), some (.int a1), some (.int a2), some (.long t0), none, some (.int (a5 + 1))]) ⟨rfl, rfl, rfl, rfl, rfl, trivial⟩ (k0)

theorem q_Moallowed_0 {E : jEnv} {n : Nat} {X : State → Prop} {Post : Option Value → HP → Prop} (x : Int64) (y : Int32) (h : HP)
    (k0 : jG E mX8_allowed n X Post 6 [some (.ref 52), none, none, some (.int y), some (.long x), none, some (.int 0)] [] h)
    : jG E mX8_allowed n X Post 0 [some (.ref 52), some (.long x), none, some (.int y), none, none, none] [] h := by
  refine jr_lload_n (pc' := 1) (i := 1) dX8_allowed_0 rfl rfl rfl ?_
  refine jr_lstore (pc' := 3) (i := 4) (lv' := [some (.ref 52), some (.long x), none, some (.int y), some (.long x), none, none]) dX8_allowed_1 rfl (by decide) rfl ?_
  refine jr_iconst (pc' := 4) (v := 0) dX8_allowed_3 rfl (by decide) ?_
  refine jr_istore (pc' := 6) (i := 6) (lv' := [some (.ref 52), some (.long x), none, some (.int y), some (.long x), none, some (.int 0)]) dX8_allowed_4 rfl (by decide) rfl ?_
  exact jG.weak (lv' := [some (.ref 52), none, none, some (.int y), some (.long x), none, some (.int 0)]) ⟨rfl, rfl, rfl, rfl, trivial⟩ (k0)

theorem q_Moallowed_6 {E : jEnv} {n : Nat} {X : State → Prop} {Post : Option Value → HP → Prop} (a3 : Int32) (l4 : Int64) (a6 : Int32) (h : HP)
    (k0 : ((h.1 52 14) ≤ a6) → Post (some (.long l4)) h)
    (b0 : (¬ (h.1 52 14) ≤ a6) → vp_in ((2 * a6) + 1) 40)
    (b1 : (¬ (h.1 52 14) ≤ a6) → ((h.1 59 (((2 * a6) + 1).toNatClampNeg)) = a3) → vp_in (2 * a6) 40)
    (k1 : (¬ (h.1 52 14) ≤ a6) → ((h.1 59 (((2 * a6) + 1).toNatClampNeg)) = a3) → jG E mX8_allowed n X Post 6 [some (.ref 52), none, none, some (.int a3), some (.long (l4 &&& (1 <<< ((h.1 59 ((2 * a6).toNatClampNeg)).toInt64 &&& 63)))), none, some (.int (a6 + 1))] [] h)
    (k2 : (¬ (h.1 52 14) ≤ a6) → (¬ (h.1 59 (((2 * a6) + 1).toNatClampNeg)) = a3) → jG E mX8_allowed n X Post 6 [some (.ref 52), none, none, some (.int a3), some (.long (l4 &&& (-1))), none, some (.int (a6 + 1))] [] h)
    : jG E mX8_allowed n X Post 6 [some (.ref 52), none, none, some (.int a3), some (.long l4), none, some (.int a6)] [] h := by
  refine jr_iload (pc' := 8) (i := 6) dX8_allowed_6 rfl rfl ?_
  refine jr_aload_n (pc' := 9) (i := 0) dX8_allowed_8 rfl rfl rfl ?_
  refine jr_get (pc' := 12) jK8 (k := 52) (j := 14) (v := .int (h.1 52 14)) wfX8_214 dX8_allowed_9 rfl (by decide) rfl (by decide) rfl ?_
  by_cases c1 : (h.1 52 14) ≤ a6
  · refine jr_icmp_geT (pc' := 58) dX8_allowed_12 rfl c1 ?_
    refine jr_lload (pc' := 60) (i := 4) dX8_allowed_58 rfl rfl ?_
    exact jr_lret dX8_allowed_60 rfl (k0 c1)
  · refine jr_icmp_geF (pc' := 15) (tgt := 58) dX8_allowed_12 rfl rfl c1 ?_
    refine jr_lload (pc' := 17) (i := 4) dX8_allowed_15 rfl rfl ?_
    refine jr_aload_n (pc' := 18) (i := 0) dX8_allowed_17 rfl rfl rfl ?_
    refine jr_get (pc' := 21) jK8 (k := 52) (j := 13) (v := .ref 59) wfX8_29 dX8_allowed_18 rfl (by decide) rfl (by decide) rfl ?_
    refine jr_iconst (pc' := 22) (v := 2) dX8_allowed_21 rfl (by decide) ?_
    refine jr_iload (pc' := 24) (i := 6) dX8_allowed_22 rfl rfl ?_
    refine jr_imul (pc' := 25)  dX8_allowed_24 rfl  ?_
    refine jr_iconst (pc' := 26) (v := 1) dX8_allowed_25 rfl (by decide) ?_
    refine jr_iadd (pc' := 27)  dX8_allowed_26 rfl  ?_
    refine jr_iald (pc' := 28) (v := h.1 59 (((2 * a6) + 1).toNatClampNeg)) dX8_allowed_27 rfl (by decide) rfl (b0 c1) rfl ?_
    refine jr_iload_n (pc' := 29) (i := 3) dX8_allowed_28 rfl rfl rfl ?_
    by_cases c2 : (h.1 59 (((2 * a6) + 1).toNatClampNeg)) = a3
    · refine jr_icmp_neF (pc' := 32) (tgt := 46) dX8_allowed_29 rfl rfl c2 ?_
      refine jr_lconst (pc' := 33) (v := 1) dX8_allowed_32 rfl (by decide) ?_
      refine jr_aload_n (pc' := 34) (i := 0) dX8_allowed_33 rfl rfl rfl ?_
      refine jr_get (pc' := 37) jK8 (k := 52) (j := 13) (v := .ref 59) wfX8_29 dX8_allowed_34 rfl (by decide) rfl (by decide) rfl ?_
      refine jr_iconst (pc' := 38) (v := 2) dX8_allowed_37 rfl (by decide) ?_
      refine jr_iload (pc' := 40) (i := 6) dX8_allowed_38 rfl rfl ?_
      refine jr_imul (pc' := 41)  dX8_allowed_40 rfl  ?_
      refine jr_iald (pc' := 42) (v := h.1 59 ((2 * a6).toNatClampNeg)) dX8_allowed_41 rfl (by decide) rfl (b1 c1 c2) rfl ?_
      refine jr_lshl (pc' := 43)  dX8_allowed_42 rfl  ?_
      refine jr_goto (pc' := 49) dX8_allowed_43 rfl ?_
      refine jr_land (pc' := 50)  dX8_allowed_49 rfl  ?_
      refine jr_lstore (pc' := 52) (i := 4) (lv' := [some (.ref 52), none, none, some (.int a3), some (.long (l4 &&& (1 <<< ((h.1 59 ((2 * a6).toNatClampNeg)).toInt64 &&& 63)))), none, some (.int a6)]) dX8_allowed_50 rfl (by decide) rfl ?_
      refine jr_iinc (pc' := 55) (i := 6) (v := (a6 + 1)) (lv' := [some (.ref 52), none, none, some (.int a3), some (.long (l4 &&& (1 <<< ((h.1 59 ((2 * a6).toNatClampNeg)).toInt64 &&& 63)))), none, some (.int (a6 + 1))]) dX8_allowed_52 rfl rfl (congrArg (a6 + ·) (by decide)) (by decide) rfl ?_
      refine jr_goto (pc' := 6) dX8_allowed_55 rfl ?_
      exact jG.weak (lv' := [some (.ref 52), none, none, some (.int a3), some (.long (l4 &&& (1 <<< ((h.1 59 ((2 * a6).toNatClampNeg)).toInt64 &&& 63)))), none, some (.int (a6 + 1))]) ⟨rfl, rfl, rfl, rfl, trivial⟩ (k1 c1 c2)
    · refine jr_icmp_neT (pc' := 46) dX8_allowed_29 rfl c2 ?_
      refine jr_ldc2 (pc' := 49) (v := (-1)) dX8_allowed_46 rfl wcX8_126 ?_
      refine jr_land (pc' := 50)  dX8_allowed_49 rfl  ?_
      refine jr_lstore (pc' := 52) (i := 4) (lv' := [some (.ref 52), none, none, some (.int a3), some (.long (l4 &&& (-1))), none, some (.int a6)]) dX8_allowed_50 rfl (by decide) rfl ?_
      refine jr_iinc (pc' := 55) (i := 6) (v := (a6 + 1)) (lv' := [some (.ref 52), none, none, some (.int a3), some (.long (l4 &&& (-1))), none, some (.int (a6 + 1))]) dX8_allowed_52 rfl rfl (congrArg (a6 + ·) (by decide)) (by decide) rfl ?_
      refine jr_goto (pc' := 6) dX8_allowed_55 rfl ?_
      exact jG.weak (lv' := [some (.ref 52), none, none, some (.int a3), some (.long (l4 &&& (-1))), none, some (.int (a6 + 1))]) ⟨rfl, rfl, rfl, rfl, trivial⟩ (k2 c1 c2)

theorem q_Mojudge_0 {E : jEnv} {n : Nat} {X : State → Prop} {Post : Option Value → HP → Prop}  (h : HP)
    (k0 : jG E mX8_judge (n + 4) X Post 2 [some (.ref 52), some (.int 0), none, none] [] h)
    : jG E mX8_judge (n + 4) X Post 0 [some (.ref 52), none, none, none] [] h := by
  refine jr_iconst (pc' := 1) (v := 0) dX8_judge_0 rfl (by decide) ?_
  refine jr_istore_n (pc' := 2) (i := 1) (lv' := [some (.ref 52), some (.int 0), none, none]) dX8_judge_1 rfl rfl (by decide) rfl ?_
  exact jG.weak (lv' := [some (.ref 52), some (.int 0), none, none]) ⟨rfl, rfl, trivial⟩ (k0)

theorem q_Mojudge_2 {E : jEnv} {n : Nat} {X : State → Prop} {Post : Option Value → HP → Prop} (a1 : Int32) (h : HP)
    (k0 : ((h.1 52 5) ≤ a1) → jG E mX8_judge (n + 4) X Post 36 [some (.ref 52), some (.int 0), none, none] [] h)
    (b0 : (¬ (h.1 52 5) ≤ a1) → (vp_in ((2 + (6 * a1)) + 1) 62))
    (b1 : (¬ (h.1 52 5) ≤ a1) → (vp_in (2 + (6 * a1)) 62))
    (b2 : (¬ (h.1 52 5) ≤ a1) → vp_in a1 4)
    (b3 : (¬ (h.1 52 5) ≤ a1) → vp_in a1 4)
    (k1 : (¬ (h.1 52 5) ≤ a1) → jG E mX8_judge (n + 4) X Post 2 [some (.ref 52), some (.int (a1 + 1)), none, none] [] (jPI (jPI h 70 a1.toNatClampNeg (f_MospotOf (h.1 52 0) (h.1 56) a1)) 71 a1.toNatClampNeg 0))
    : jG E mX8_judge (n + 4) X Post 2 [some (.ref 52), some (.int a1), none, none] [] h := by
  refine jr_iload_n (pc' := 3) (i := 1) dX8_judge_2 rfl rfl rfl ?_
  refine jr_aload_n (pc' := 4) (i := 0) dX8_judge_3 rfl rfl rfl ?_
  refine jr_get (pc' := 7) jK8 (k := 52) (j := 5) (v := .int (h.1 52 5)) wfX8_86 dX8_judge_4 rfl (by decide) rfl (by decide) rfl ?_
  by_cases c1 : (h.1 52 5) ≤ a1
  · refine jr_icmp_geT (pc' := 34) dX8_judge_7 rfl c1 ?_
    refine jr_iconst (pc' := 35) (v := 0) dX8_judge_34 rfl (by decide) ?_
    refine jr_istore_n (pc' := 36) (i := 1) (lv' := [some (.ref 52), some (.int 0), none, none]) dX8_judge_35 rfl rfl (by decide) rfl ?_
    exact jG.weak (lv' := [some (.ref 52), some (.int 0), none, none]) ⟨rfl, rfl, trivial⟩ (k0 c1)
  · refine jr_icmp_geF (pc' := 10) (tgt := 34) dX8_judge_7 rfl rfl c1 ?_
    refine jr_aload_n (pc' := 11) (i := 0) dX8_judge_10 rfl rfl rfl ?_
    refine jr_get (pc' := 14) jK8 (k := 52) (j := 43) (v := .ref 70) wfX8_63 dX8_judge_11 rfl (by decide) rfl (by decide) rfl ?_
    refine jr_iload_n (pc' := 15) (i := 1) dX8_judge_14 rfl rfl rfl ?_
    refine jr_aload_n (pc' := 16) (i := 0) dX8_judge_15 rfl rfl rfl ?_
    refine jr_iload_n (pc' := 17) (i := 1) dX8_judge_16 rfl rfl rfl ?_
    refine jr_callV (pc' := 20) (k := 52) (av := [.int a1]) (st := [.int a1, .ref 70]) sX8_spotOf wmX8_223 dX8_judge_17 rfl (by decide) rfl (by decide) rfl rfl rfl (Nat.le_of_ble_eq_true rfl) rfl (c_MospotOf (n := n + 3) a1 h (b0 c1) (b1 c1)) (fun v h2 hp => ?_)
    rw [hp.1, hp.2]
    show jG E mX8_judge (n + 4) X Post 20 [some (.ref 52), some (.int a1), none, none] [.int (f_MospotOf (h.1 52 0) (h.1 56) a1), .int a1, .ref 70] h
    refine jr_iast (pc' := 21) (j := a1.toNatClampNeg) dX8_judge_20 rfl (by decide) rfl (b2 c1) rfl ?_
    refine jr_aload_n (pc' := 22) (i := 0) dX8_judge_21 rfl rfl rfl ?_
    refine jr_get (pc' := 25) jK8 (k := 52) (j := 44) (v := .ref 71) wfX8_66 dX8_judge_22 rfl (by decide) rfl (by decide) rfl ?_
    refine jr_iload_n (pc' := 26) (i := 1) dX8_judge_25 rfl rfl rfl ?_
    refine jr_iconst (pc' := 27) (v := 0) dX8_judge_26 rfl (by decide) ?_
    refine jr_iast (pc' := 28) (j := a1.toNatClampNeg) dX8_judge_27 rfl (by decide) rfl (b3 c1) rfl ?_
    refine jr_iinc (pc' := 31) (i := 1) (v := (a1 + 1)) (lv' := [some (.ref 52), some (.int (a1 + 1)), none, none]) dX8_judge_28 rfl rfl (congrArg (a1 + ·) (by decide)) (by decide) rfl ?_
    refine jr_goto (pc' := 2) dX8_judge_31 rfl ?_
    exact jG.weak (lv' := [some (.ref 52), some (.int (a1 + 1)), none, none]) ⟨rfl, rfl, trivial⟩ (k1 c1)

set_option maxRecDepth 4000 in
theorem q_Mojudge_36 {E : jEnv} {n : Nat} {X : State → Prop} {Post : Option Value → HP → Prop} (a1 : Int32) (h : HP)
    (k0 : ((h.1 52 16) ≤ a1) → Post (some (.int (-1))) h)
    (b0 : (¬ (h.1 52 16) ≤ a1) → vp_in (2 * a1) 80)
    (b1 : (¬ (h.1 52 16) ≤ a1) → vp_in ((2 * a1) + 1) 80)
    (b2 : (¬ (h.1 52 16) ≤ a1) → vp_in (h.1 60 ((2 * a1).toNatClampNeg)) 4)
    (b3 : (¬ (h.1 52 16) ≤ a1) → vp_in (h.1 60 ((2 * a1).toNatClampNeg)) 4)
    (b4 : (¬ (h.1 52 16) ≤ a1) → vp_in (h.1 60 ((2 * a1).toNatClampNeg)) 4)
    (b5 : (¬ (h.1 52 16) ≤ a1) → vp_in ((2 + (6 * (h.1 60 ((2 * a1).toNatClampNeg)))) + 2) 62)
    (b6 : (¬ (h.1 52 16) ≤ a1) → vp_in (h.1 60 ((2 * a1).toNatClampNeg)) 4)
    (b7 : (¬ (h.1 52 16) ≤ a1) → (¬ (((h.1 52 0))) = 0))
    (b8 : (¬ (h.1 52 16) ≤ a1) → (((h.1 60 (((2 * a1) + 1).toNatClampNeg)) = 2) → ¬ (((h.1 52 0))) = 0))
    (b9 : (¬ (h.1 52 16) ≤ a1) → ((¬ (h.1 60 (((2 * a1) + 1).toNatClampNeg)) = 2) → ((h.1 60 (((2 * a1) + 1).toNatClampNeg)) = 4) → ¬ (((h.1 52 0))) = 0))
    (b10 : (¬ (h.1 52 16) ≤ a1) → ((¬ (h.1 60 (((2 * a1) + 1).toNatClampNeg)) = 2) → (¬ (h.1 60 (((2 * a1) + 1).toNatClampNeg)) = 4) → ¬ (((h.1 52 0))) = 0))
    (b11 : (¬ (h.1 52 16) ≤ a1) → ((¬ (h.1 60 (((2 * a1) + 1).toNatClampNeg)) = 0) → (¬ (f_Moled ((h.1 52 0)) ((h.1 52 1)) (h.1 70 ((h.1 60 ((2 * a1).toNatClampNeg)).toNatClampNeg)) (h.1 60 (((2 * a1) + 1).toNatClampNeg))) = (-1)) → (vp_in (f_Moled ((h.1 52 0)) ((h.1 52 1)) (h.1 70 ((h.1 60 ((2 * a1).toNatClampNeg)).toNatClampNeg)) (h.1 60 (((2 * a1) + 1).toNatClampNeg))) 36)))
    (b12 : (¬ (h.1 52 16) ≤ a1) → ((¬ (h.1 60 (((2 * a1) + 1).toNatClampNeg)) = 0) → (¬ (f_Moled ((h.1 52 0)) ((h.1 52 1)) (h.1 70 ((h.1 60 ((2 * a1).toNatClampNeg)).toNatClampNeg)) (h.1 60 (((2 * a1) + 1).toNatClampNeg))) = (-1)) → (¬ (((h.1 52 4))) = 0)))
    (b13 : (¬ (h.1 52 16) ≤ a1) → ((¬ (h.1 60 (((2 * a1) + 1).toNatClampNeg)) = 0) → (¬ (f_Moled ((h.1 52 0)) ((h.1 52 1)) (h.1 70 ((h.1 60 ((2 * a1).toNatClampNeg)).toNatClampNeg)) (h.1 60 (((2 * a1) + 1).toNatClampNeg))) = (-1)) → (vp_in (((h.1 56 0) + ((h.1 71 ((h.1 60 ((2 * a1).toNatClampNeg)).toNatClampNeg)) + 1)) - ((h.1 56 0) + ((h.1 71 ((h.1 60 ((2 * a1).toNatClampNeg)).toNatClampNeg)) + 1)) / (((h.1 52 4))) * (((h.1 52 4)))) 6)))
    (b14 : (¬ (h.1 52 16) ≤ a1) → ((¬ (h.1 60 (((2 * a1) + 1).toNatClampNeg)) = 0) → (¬ (f_Moled ((h.1 52 0)) ((h.1 52 1)) (h.1 70 ((h.1 60 ((2 * a1).toNatClampNeg)).toNatClampNeg)) (h.1 60 (((2 * a1) + 1).toNatClampNeg))) = (-1)) → (vp_in (26 + (f_Moled ((h.1 52 0)) ((h.1 52 1)) (h.1 70 ((h.1 60 ((2 * a1).toNatClampNeg)).toNatClampNeg)) (h.1 60 (((2 * a1) + 1).toNatClampNeg)))) 62)))
    (k1 : (¬ (h.1 52 16) ≤ a1) → ((f_MomayGo (h.1 52 0) (h.1 52 1) (h.1 52 4) (h.1 53) (h.1 54) (h.1 56) (h.1 70 ((h.1 60 ((2 * a1).toNatClampNeg)).toNatClampNeg)) (h.1 60 (((2 * a1) + 1).toNatClampNeg)) (h.1 56 (((2 + (6 * (h.1 60 ((2 * a1).toNatClampNeg)))) + 2).toNatClampNeg)) ((h.1 56 0) + ((h.1 71 ((h.1 60 ((2 * a1).toNatClampNeg)).toNatClampNeg)) + 1))) = 0) → Post (some (.int a1)) (jPI h 71 ((h.1 60 ((2 * a1).toNatClampNeg)).toNatClampNeg) ((h.1 71 ((h.1 60 ((2 * a1).toNatClampNeg)).toNatClampNeg)) + 1)))
    (b15 : (¬ (h.1 52 16) ≤ a1) → (¬ (f_MomayGo (h.1 52 0) (h.1 52 1) (h.1 52 4) (h.1 53) (h.1 54) (h.1 56) (h.1 70 ((h.1 60 ((2 * a1).toNatClampNeg)).toNatClampNeg)) (h.1 60 (((2 * a1) + 1).toNatClampNeg)) (h.1 56 (((2 + (6 * (h.1 60 ((2 * a1).toNatClampNeg)))) + 2).toNatClampNeg)) ((h.1 56 0) + ((h.1 71 ((h.1 60 ((2 * a1).toNatClampNeg)).toNatClampNeg)) + 1))) = 0) → vp_in (h.1 60 ((2 * a1).toNatClampNeg)) 4)
    (b16 : (¬ (h.1 52 16) ≤ a1) → (¬ (f_MomayGo (h.1 52 0) (h.1 52 1) (h.1 52 4) (h.1 53) (h.1 54) (h.1 56) (h.1 70 ((h.1 60 ((2 * a1).toNatClampNeg)).toNatClampNeg)) (h.1 60 (((2 * a1) + 1).toNatClampNeg)) (h.1 56 (((2 + (6 * (h.1 60 ((2 * a1).toNatClampNeg)))) + 2).toNatClampNeg)) ((h.1 56 0) + ((h.1 71 ((h.1 60 ((2 * a1).toNatClampNeg)).toNatClampNeg)) + 1))) = 0) → (¬ ((h.1 52 0)) = 0))
    (b17 : (¬ (h.1 52 16) ≤ a1) → (¬ (f_MomayGo (h.1 52 0) (h.1 52 1) (h.1 52 4) (h.1 53) (h.1 54) (h.1 56) (h.1 70 ((h.1 60 ((2 * a1).toNatClampNeg)).toNatClampNeg)) (h.1 60 (((2 * a1) + 1).toNatClampNeg)) (h.1 56 (((2 + (6 * (h.1 60 ((2 * a1).toNatClampNeg)))) + 2).toNatClampNeg)) ((h.1 56 0) + ((h.1 71 ((h.1 60 ((2 * a1).toNatClampNeg)).toNatClampNeg)) + 1))) = 0) → (((h.1 60 (((2 * a1) + 1).toNatClampNeg)) = 2) → ¬ ((h.1 52 0)) = 0))
    (b18 : (¬ (h.1 52 16) ≤ a1) → (¬ (f_MomayGo (h.1 52 0) (h.1 52 1) (h.1 52 4) (h.1 53) (h.1 54) (h.1 56) (h.1 70 ((h.1 60 ((2 * a1).toNatClampNeg)).toNatClampNeg)) (h.1 60 (((2 * a1) + 1).toNatClampNeg)) (h.1 56 (((2 + (6 * (h.1 60 ((2 * a1).toNatClampNeg)))) + 2).toNatClampNeg)) ((h.1 56 0) + ((h.1 71 ((h.1 60 ((2 * a1).toNatClampNeg)).toNatClampNeg)) + 1))) = 0) → ((¬ (h.1 60 (((2 * a1) + 1).toNatClampNeg)) = 2) → ((h.1 60 (((2 * a1) + 1).toNatClampNeg)) = 4) → ¬ ((h.1 52 0)) = 0))
    (b19 : (¬ (h.1 52 16) ≤ a1) → (¬ (f_MomayGo (h.1 52 0) (h.1 52 1) (h.1 52 4) (h.1 53) (h.1 54) (h.1 56) (h.1 70 ((h.1 60 ((2 * a1).toNatClampNeg)).toNatClampNeg)) (h.1 60 (((2 * a1) + 1).toNatClampNeg)) (h.1 56 (((2 + (6 * (h.1 60 ((2 * a1).toNatClampNeg)))) + 2).toNatClampNeg)) ((h.1 56 0) + ((h.1 71 ((h.1 60 ((2 * a1).toNatClampNeg)).toNatClampNeg)) + 1))) = 0) → ((¬ (h.1 60 (((2 * a1) + 1).toNatClampNeg)) = 2) → (¬ (h.1 60 (((2 * a1) + 1).toNatClampNeg)) = 4) → ¬ ((h.1 52 0)) = 0))
    (b20 : (¬ (h.1 52 16) ≤ a1) → (¬ (f_MomayGo (h.1 52 0) (h.1 52 1) (h.1 52 4) (h.1 53) (h.1 54) (h.1 56) (h.1 70 ((h.1 60 ((2 * a1).toNatClampNeg)).toNatClampNeg)) (h.1 60 (((2 * a1) + 1).toNatClampNeg)) (h.1 56 (((2 + (6 * (h.1 60 ((2 * a1).toNatClampNeg)))) + 2).toNatClampNeg)) ((h.1 56 0) + ((h.1 71 ((h.1 60 ((2 * a1).toNatClampNeg)).toNatClampNeg)) + 1))) = 0) → vp_in (h.1 60 ((2 * a1).toNatClampNeg)) 4)
    (k2 : (¬ (h.1 52 16) ≤ a1) → (¬ (f_MomayGo (h.1 52 0) (h.1 52 1) (h.1 52 4) (h.1 53) (h.1 54) (h.1 56) (h.1 70 ((h.1 60 ((2 * a1).toNatClampNeg)).toNatClampNeg)) (h.1 60 (((2 * a1) + 1).toNatClampNeg)) (h.1 56 (((2 + (6 * (h.1 60 ((2 * a1).toNatClampNeg)))) + 2).toNatClampNeg)) ((h.1 56 0) + ((h.1 71 ((h.1 60 ((2 * a1).toNatClampNeg)).toNatClampNeg)) + 1))) = 0) → jG E mX8_judge (n + 4) X Post 36 [some (.ref 52), some (.int (a1 + 1)), none, none] [] (jPI (jPI h 71 ((h.1 60 ((2 * a1).toNatClampNeg)).toNatClampNeg) ((h.1 71 ((h.1 60 ((2 * a1).toNatClampNeg)).toNatClampNeg)) + 1)) 70 ((h.1 60 ((2 * a1).toNatClampNeg)).toNatClampNeg) (f_Moled (h.1 52 0) (h.1 52 1) (h.1 70 ((h.1 60 ((2 * a1).toNatClampNeg)).toNatClampNeg)) (h.1 60 (((2 * a1) + 1).toNatClampNeg)))))
    : jG E mX8_judge (n + 4) X Post 36 [some (.ref 52), some (.int a1), none, none] [] h := by
  refine jr_iload_n (pc' := 37) (i := 1) dX8_judge_36 rfl rfl rfl ?_
  refine jr_aload_n (pc' := 38) (i := 0) dX8_judge_37 rfl rfl rfl ?_
  refine jr_get (pc' := 41) jK8 (k := 52) (j := 16) (v := .int (h.1 52 16)) wfX8_217 dX8_judge_38 rfl (by decide) rfl (by decide) rfl ?_
  by_cases c1 : (h.1 52 16) ≤ a1
  · refine jr_icmp_geT (pc' := 139) dX8_judge_41 rfl c1 ?_
    refine jr_iconst (pc' := 140) (v := (-1)) dX8_judge_139 rfl (by decide) ?_
    exact jr_iret dX8_judge_140 rfl rfl (k0 c1)
  · refine jr_icmp_geF (pc' := 44) (tgt := 139) dX8_judge_41 rfl rfl c1 ?_
    refine jr_aload_n (pc' := 45) (i := 0) dX8_judge_44 rfl rfl rfl ?_
    refine jr_get (pc' := 48) jK8 (k := 52) (j := 15) (v := .ref 60) wfX8_32 dX8_judge_45 rfl (by decide) rfl (by decide) rfl ?_
    refine jr_iconst (pc' := 49) (v := 2) dX8_judge_48 rfl (by decide) ?_
    refine jr_iload_n (pc' := 50) (i := 1) dX8_judge_49 rfl rfl rfl ?_
    refine jr_imul (pc' := 51)  dX8_judge_50 rfl  ?_
    refine jr_iald (pc' := 52) (v := h.1 60 ((2 * a1).toNatClampNeg)) dX8_judge_51 rfl (by decide) rfl (b0 c1) rfl ?_
    refine jr_istore_n (pc' := 53) (i := 2) (lv' := [some (.ref 52), some (.int a1), some (.int (h.1 60 ((2 * a1).toNatClampNeg))), none]) dX8_judge_52 rfl rfl (by decide) rfl ?_
    refine jr_aload_n (pc' := 54) (i := 0) dX8_judge_53 rfl rfl rfl ?_
    refine jr_get (pc' := 57) jK8 (k := 52) (j := 15) (v := .ref 60) wfX8_32 dX8_judge_54 rfl (by decide) rfl (by decide) rfl ?_
    refine jr_iconst (pc' := 58) (v := 2) dX8_judge_57 rfl (by decide) ?_
    refine jr_iload_n (pc' := 59) (i := 1) dX8_judge_58 rfl rfl rfl ?_
    refine jr_imul (pc' := 60)  dX8_judge_59 rfl  ?_
    refine jr_iconst (pc' := 61) (v := 1) dX8_judge_60 rfl (by decide) ?_
    refine jr_iadd (pc' := 62)  dX8_judge_61 rfl  ?_
    refine jr_iald (pc' := 63) (v := h.1 60 (((2 * a1) + 1).toNatClampNeg)) dX8_judge_62 rfl (by decide) rfl (b1 c1) rfl ?_
    refine jr_istore_n (pc' := 64) (i := 3) (lv' := [some (.ref 52), some (.int a1), some (.int (h.1 60 ((2 * a1).toNatClampNeg))), some (.int (h.1 60 (((2 * a1) + 1).toNatClampNeg)))]) dX8_judge_63 rfl rfl (by decide) rfl ?_
    refine jr_aload_n (pc' := 65) (i := 0) dX8_judge_64 rfl rfl rfl ?_
    refine jr_get (pc' := 68) jK8 (k := 52) (j := 44) (v := .ref 71) wfX8_66 dX8_judge_65 rfl (by decide) rfl (by decide) rfl ?_
    refine jr_iload_n (pc' := 69) (i := 2) dX8_judge_68 rfl rfl rfl ?_
    refine jr_dup2 (pc' := 70)  dX8_judge_69 rfl rfl rfl ?_
    refine jr_iald (pc' := 71) (v := h.1 71 ((h.1 60 ((2 * a1).toNatClampNeg)).toNatClampNeg)) dX8_judge_70 rfl (by decide) rfl (b2 c1) rfl ?_
    refine jr_iconst (pc' := 72) (v := 1) dX8_judge_71 rfl (by decide) ?_
    refine jr_iadd (pc' := 73)  dX8_judge_72 rfl  ?_
    refine jr_iast (pc' := 74) (j := (h.1 60 ((2 * a1).toNatClampNeg)).toNatClampNeg) dX8_judge_73 rfl (by decide) rfl (b3 c1) rfl ?_
    refine jr_aload_n (pc' := 75) (i := 0) dX8_judge_74 rfl rfl rfl ?_
    refine jr_aload_n (pc' := 76) (i := 0) dX8_judge_75 rfl rfl rfl ?_
    refine jr_get (pc' := 79) jK8 (k := 52) (j := 43) (v := .ref 70) wfX8_63 dX8_judge_76 rfl (by decide) rfl (by decide) rfl ?_
    refine jr_iload_n (pc' := 80) (i := 2) dX8_judge_79 rfl rfl rfl ?_
    refine jr_iald (pc' := 81) (v := h.1 70 ((h.1 60 ((2 * a1).toNatClampNeg)).toNatClampNeg)) dX8_judge_80 rfl (by decide) rfl (b4 c1) rfl ?_
    refine jr_iload_n (pc' := 82) (i := 3) dX8_judge_81 rfl rfl rfl ?_
    refine jr_aload_n (pc' := 83) (i := 0) dX8_judge_82 rfl rfl rfl ?_
    refine jr_get (pc' := 86) jK8 (k := 52) (j := 9) (v := .ref 56) wfX8_19 dX8_judge_83 rfl (by decide) rfl (by decide) rfl ?_
    refine jr_iconst (pc' := 87) (v := 2) dX8_judge_86 rfl (by decide) ?_
    refine jr_bipush (pc' := 89) (v := 6) dX8_judge_87 rfl (by decide) ?_
    refine jr_iload_n (pc' := 90) (i := 2) dX8_judge_89 rfl rfl rfl ?_
    refine jr_imul (pc' := 91)  dX8_judge_90 rfl  ?_
    refine jr_iadd (pc' := 92)  dX8_judge_91 rfl  ?_
    refine jr_iconst (pc' := 93) (v := 2) dX8_judge_92 rfl (by decide) ?_
    refine jr_iadd (pc' := 94)  dX8_judge_93 rfl  ?_
    refine jr_iald (pc' := 95) (v := h.1 56 (((2 + (6 * (h.1 60 ((2 * a1).toNatClampNeg)))) + 2).toNatClampNeg)) dX8_judge_94 rfl (by decide) rfl (b5 c1) rfl ?_
    refine jr_aload_n (pc' := 96) (i := 0) dX8_judge_95 rfl rfl rfl ?_
    refine jr_get (pc' := 99) jK8 (k := 52) (j := 9) (v := .ref 56) wfX8_19 dX8_judge_96 rfl (by decide) rfl (by decide) rfl ?_
    refine jr_iconst (pc' := 100) (v := 0) dX8_judge_99 rfl (by decide) ?_
    refine jr_iald (pc' := 101) (v := h.1 56 0) dX8_judge_100 rfl (by decide) rfl (jvin (by decide)) ((congrArg ((jPI h 71 ((h.1 60 ((2 * a1).toNatClampNeg)).toNatClampNeg) ((h.1 71 ((h.1 60 ((2 * a1).toNatClampNeg)).toNatClampNeg)) + 1)).1 56) (by decide : (0 : Int32).toNatClampNeg = 0)).trans rfl) ?_
    refine jr_aload_n (pc' := 102) (i := 0) dX8_judge_101 rfl rfl rfl ?_
    refine jr_get (pc' := 105) jK8 (k := 52) (j := 44) (v := .ref 71) wfX8_66 dX8_judge_102 rfl (by decide) rfl (by decide) rfl ?_
    refine jr_iload_n (pc' := 106) (i := 2) dX8_judge_105 rfl rfl rfl ?_
    refine jr_iald (pc' := 107) (v := ((h.1 71 ((h.1 60 ((2 * a1).toNatClampNeg)).toNatClampNeg)) + 1)) dX8_judge_106 rfl (by decide) rfl (b6 c1) (jPI_at (h := h) (k := 71) (j := (h.1 60 ((2 * a1).toNatClampNeg)).toNatClampNeg) (x := ((h.1 71 ((h.1 60 ((2 * a1).toNatClampNeg)).toNatClampNeg)) + 1))) ?_
    refine jr_iadd (pc' := 108)  dX8_judge_107 rfl  ?_
    refine jr_callV (pc' := 111) (k := 52) (av := [.int (h.1 70 ((h.1 60 ((2 * a1).toNatClampNeg)).toNatClampNeg)), .int (h.1 60 (((2 * a1) + 1).toNatClampNeg)), .int (h.1 56 (((2 + (6 * (h.1 60 ((2 * a1).toNatClampNeg)))) + 2).toNatClampNeg)), .int ((h.1 56 0) + ((h.1 71 ((h.1 60 ((2 * a1).toNatClampNeg)).toNatClampNeg)) + 1))]) (st := []) sX8_mayGo wmX8_237 dX8_judge_108 rfl (by decide) rfl (by decide) rfl rfl rfl (Nat.le_of_ble_eq_true rfl) rfl (c_MomayGo (n := n) (h.1 70 ((h.1 60 ((2 * a1).toNatClampNeg)).toNatClampNeg)) (h.1 60 (((2 * a1) + 1).toNatClampNeg)) (h.1 56 (((2 + (6 * (h.1 60 ((2 * a1).toNatClampNeg)))) + 2).toNatClampNeg)) ((h.1 56 0) + ((h.1 71 ((h.1 60 ((2 * a1).toNatClampNeg)).toNatClampNeg)) + 1)) (jPI h 71 ((h.1 60 ((2 * a1).toNatClampNeg)).toNatClampNeg) ((h.1 71 ((h.1 60 ((2 * a1).toNatClampNeg)).toNatClampNeg)) + 1)) (b7 c1) (b8 c1) (b9 c1) (b10 c1) (b11 c1) (b12 c1) (b13 c1) (b14 c1)) (fun v h2 hp => ?_)
    rw [hp.1, hp.2]
    show jG E mX8_judge (n + 4) X Post 111 [some (.ref 52), some (.int a1), some (.int (h.1 60 ((2 * a1).toNatClampNeg))), some (.int (h.1 60 (((2 * a1) + 1).toNatClampNeg)))] [.int (f_MomayGo (h.1 52 0) (h.1 52 1) (h.1 52 4) (h.1 53) (h.1 54) (h.1 56) (h.1 70 ((h.1 60 ((2 * a1).toNatClampNeg)).toNatClampNeg)) (h.1 60 (((2 * a1) + 1).toNatClampNeg)) (h.1 56 (((2 + (6 * (h.1 60 ((2 * a1).toNatClampNeg)))) + 2).toNatClampNeg)) ((h.1 56 0) + ((h.1 71 ((h.1 60 ((2 * a1).toNatClampNeg)).toNatClampNeg)) + 1)))] (jPI h 71 ((h.1 60 ((2 * a1).toNatClampNeg)).toNatClampNeg) ((h.1 71 ((h.1 60 ((2 * a1).toNatClampNeg)).toNatClampNeg)) + 1))
    by_cases c2 : (f_MomayGo (h.1 52 0) (h.1 52 1) (h.1 52 4) (h.1 53) (h.1 54) (h.1 56) (h.1 70 ((h.1 60 ((2 * a1).toNatClampNeg)).toNatClampNeg)) (h.1 60 (((2 * a1) + 1).toNatClampNeg)) (h.1 56 (((2 + (6 * (h.1 60 ((2 * a1).toNatClampNeg)))) + 2).toNatClampNeg)) ((h.1 56 0) + ((h.1 71 ((h.1 60 ((2 * a1).toNatClampNeg)).toNatClampNeg)) + 1))) = 0
    · refine jr_if_neF (pc' := 114) (tgt := 116) dX8_judge_111 rfl rfl c2 ?_
      refine jr_iload_n (pc' := 115) (i := 1) dX8_judge_114 rfl rfl rfl ?_
      exact jr_iret dX8_judge_115 rfl rfl (k1 c1 c2)
    · refine jr_if_neT (pc' := 116) dX8_judge_111 rfl c2 ?_
      refine jr_aload_n (pc' := 117) (i := 0) dX8_judge_116 rfl rfl rfl ?_
      refine jr_get (pc' := 120) jK8 (k := 52) (j := 43) (v := .ref 70) wfX8_63 dX8_judge_117 rfl (by decide) rfl (by decide) rfl ?_
      refine jr_iload_n (pc' := 121) (i := 2) dX8_judge_120 rfl rfl rfl ?_
      refine jr_aload_n (pc' := 122) (i := 0) dX8_judge_121 rfl rfl rfl ?_
      refine jr_aload_n (pc' := 123) (i := 0) dX8_judge_122 rfl rfl rfl ?_
      refine jr_get (pc' := 126) jK8 (k := 52) (j := 43) (v := .ref 70) wfX8_63 dX8_judge_123 rfl (by decide) rfl (by decide) rfl ?_
      refine jr_iload_n (pc' := 127) (i := 2) dX8_judge_126 rfl rfl rfl ?_
      refine jr_iald (pc' := 128) (v := h.1 70 ((h.1 60 ((2 * a1).toNatClampNeg)).toNatClampNeg)) dX8_judge_127 rfl (by decide) rfl (b15 c1 c2) rfl ?_
      refine jr_iload_n (pc' := 129) (i := 3) dX8_judge_128 rfl rfl rfl ?_
      refine jr_callV (pc' := 132) (k := 52) (av := [.int (h.1 70 ((h.1 60 ((2 * a1).toNatClampNeg)).toNatClampNeg)), .int (h.1 60 (((2 * a1) + 1).toNatClampNeg))]) (st := [.int (h.1 60 ((2 * a1).toNatClampNeg)), .ref 70]) sX8_led wmX8_231 dX8_judge_129 rfl (by decide) rfl (by decide) rfl rfl rfl (Nat.le_of_ble_eq_true rfl) rfl (c_Moled (n := n + 1) (h.1 70 ((h.1 60 ((2 * a1).toNatClampNeg)).toNatClampNeg)) (h.1 60 (((2 * a1) + 1).toNatClampNeg)) (jPI h 71 ((h.1 60 ((2 * a1).toNatClampNeg)).toNatClampNeg) ((h.1 71 ((h.1 60 ((2 * a1).toNatClampNeg)).toNatClampNeg)) + 1)) (b16 c1 c2) (b17 c1 c2) (b18 c1 c2) (b19 c1 c2)) (fun v h2 hp => ?_)
      rw [hp.1, hp.2]
      show jG E mX8_judge (n + 4) X Post 132 [some (.ref 52), some (.int a1), some (.int (h.1 60 ((2 * a1).toNatClampNeg))), some (.int (h.1 60 (((2 * a1) + 1).toNatClampNeg)))] [.int (f_Moled (h.1 52 0) (h.1 52 1) (h.1 70 ((h.1 60 ((2 * a1).toNatClampNeg)).toNatClampNeg)) (h.1 60 (((2 * a1) + 1).toNatClampNeg))), .int (h.1 60 ((2 * a1).toNatClampNeg)), .ref 70] (jPI h 71 ((h.1 60 ((2 * a1).toNatClampNeg)).toNatClampNeg) ((h.1 71 ((h.1 60 ((2 * a1).toNatClampNeg)).toNatClampNeg)) + 1))
      refine jr_iast (pc' := 133) (j := (h.1 60 ((2 * a1).toNatClampNeg)).toNatClampNeg) dX8_judge_132 rfl (by decide) rfl (b20 c1 c2) rfl ?_
      refine jr_iinc (pc' := 136) (i := 1) (v := (a1 + 1)) (lv' := [some (.ref 52), some (.int (a1 + 1)), some (.int (h.1 60 ((2 * a1).toNatClampNeg))), some (.int (h.1 60 (((2 * a1) + 1).toNatClampNeg)))]) dX8_judge_133 rfl rfl (congrArg (a1 + ·) (by decide)) (by decide) rfl ?_
      refine jr_goto (pc' := 36) dX8_judge_136 rfl ?_
      exact jG.weak (lv' := [some (.ref 52), some (.int (a1 + 1)), none, none]) ⟨rfl, rfl, trivial⟩ (k2 c1 c2)

theorem q_Mokeep_0 {E : jEnv} {n : Nat} {X : State → Prop} {Post : Option Value → HP → Prop} (x : Int32) (h : HP)
    (k0 : ((f_Moin x.toInt64 0 1) = 0) → Post (some (.int (-1000000001))) h)
    (k1 : (¬ (f_Moin x.toInt64 0 1) = 0) → jG E mX8_keep (n + 1) X Post 15 [some (.ref 52), some (.int x), some (.int 0)] [] h)
    : jG E mX8_keep (n + 1) X Post 0 [some (.ref 52), some (.int x), none] [] h := by
  refine jr_iload_n (pc' := 1) (i := 1) dX8_keep_0 rfl rfl rfl ?_
  refine jr_i2l (pc' := 2)  dX8_keep_1 rfl  ?_
  refine jr_lconst (pc' := 3) (v := 0) dX8_keep_2 rfl (by decide) ?_
  refine jr_lconst (pc' := 4) (v := 1) dX8_keep_3 rfl (by decide) ?_
  refine jr_callS (pc' := 7) (av := [.long x.toInt64, .long 0, .long 1]) (st := []) sX8_in wmX8_79 dX8_keep_4 rfl rfl (Nat.le_of_ble_eq_true rfl) rfl (c_Moin (n := n) x.toInt64 0 1 h ) (fun v h2 hp => ?_)
  rw [hp.1, hp.2]
  show jG E mX8_keep (n + 1) X Post 7 [some (.ref 52), some (.int x), none] [.int (f_Moin x.toInt64 0 1)] h
  by_cases c1 : (f_Moin x.toInt64 0 1) = 0
  · refine jr_if_neF (pc' := 10) (tgt := 13) dX8_keep_7 rfl rfl c1 ?_
    refine jr_ldc (pc' := 12) (v := (-1000000001)) dX8_keep_10 rfl wcX8_249 ?_
    exact jr_iret dX8_keep_12 rfl rfl (k0 c1)
  · refine jr_if_neT (pc' := 13) dX8_keep_7 rfl c1 ?_
    refine jr_iconst (pc' := 14) (v := 0) dX8_keep_13 rfl (by decide) ?_
    refine jr_istore_n (pc' := 15) (i := 2) (lv' := [some (.ref 52), some (.int x), some (.int 0)]) dX8_keep_14 rfl rfl (by decide) rfl ?_
    exact jG.weak (lv' := [some (.ref 52), some (.int x), some (.int 0)]) ⟨rfl, rfl, rfl, trivial⟩ (k1 c1)

theorem q_Mokeep_15 {E : jEnv} {n : Nat} {X : State → Prop} {Post : Option Value → HP → Prop} (a1 : Int32) (a2 : Int32) (h : HP)
    (b0 : ((62 : Int32) ≤ a2) → vp_in a1 2)
    (k0 : ((62 : Int32) ≤ a2) → Post (some (.int 1)) (jPI h 58 a1.toNatClampNeg (vp_nar .boolean 1)))
    (b1 : (¬ (62 : Int32) ≤ a2) → vp_in a2 62)
    (b2 : (¬ (62 : Int32) ≤ a2) → vp_in ((62 * a1) + a2) 124)
    (k1 : (¬ (62 : Int32) ≤ a2) → jG E mX8_keep (n + 1) X Post 15 [some (.ref 52), some (.int a1), some (.int (a2 + 1))] [] (jPI h 57 (((62 * a1) + a2).toNatClampNeg) (h.1 56 a2.toNatClampNeg)))
    : jG E mX8_keep (n + 1) X Post 15 [some (.ref 52), some (.int a1), some (.int a2)] [] h := by
  refine jr_iload_n (pc' := 16) (i := 2) dX8_keep_15 rfl rfl rfl ?_
  refine jr_bipush (pc' := 18) (v := 62) dX8_keep_16 rfl (by decide) ?_
  by_cases c1 : (62 : Int32) ≤ a2
  · refine jr_icmp_geT (pc' := 44) dX8_keep_18 rfl c1 ?_
    refine jr_aload_n (pc' := 45) (i := 0) dX8_keep_44 rfl rfl rfl ?_
    refine jr_get (pc' := 48) jK8 (k := 52) (j := 11) (v := .ref 58) wfX8_25 dX8_keep_45 rfl (by decide) rfl (by decide) rfl ?_
    refine jr_iload_n (pc' := 49) (i := 1) dX8_keep_48 rfl rfl rfl ?_
    refine jr_iconst (pc' := 50) (v := 1) dX8_keep_49 rfl (by decide) ?_
    refine jr_zast (pc' := 51) (j := a1.toNatClampNeg) dX8_keep_50 rfl (by decide) rfl (b0 c1) rfl ?_
    refine jr_iconst (pc' := 52) (v := 1) dX8_keep_51 rfl (by decide) ?_
    exact jr_iret dX8_keep_52 rfl rfl (k0 c1)
  · refine jr_icmp_geF (pc' := 21) (tgt := 44) dX8_keep_18 rfl rfl c1 ?_
    refine jr_aload_n (pc' := 22) (i := 0) dX8_keep_21 rfl rfl rfl ?_
    refine jr_get (pc' := 25) jK8 (k := 52) (j := 10) (v := .ref 57) wfX8_22 dX8_keep_22 rfl (by decide) rfl (by decide) rfl ?_
    refine jr_bipush (pc' := 27) (v := 62) dX8_keep_25 rfl (by decide) ?_
    refine jr_iload_n (pc' := 28) (i := 1) dX8_keep_27 rfl rfl rfl ?_
    refine jr_imul (pc' := 29)  dX8_keep_28 rfl  ?_
    refine jr_iload_n (pc' := 30) (i := 2) dX8_keep_29 rfl rfl rfl ?_
    refine jr_iadd (pc' := 31)  dX8_keep_30 rfl  ?_
    refine jr_aload_n (pc' := 32) (i := 0) dX8_keep_31 rfl rfl rfl ?_
    refine jr_get (pc' := 35) jK8 (k := 52) (j := 9) (v := .ref 56) wfX8_19 dX8_keep_32 rfl (by decide) rfl (by decide) rfl ?_
    refine jr_iload_n (pc' := 36) (i := 2) dX8_keep_35 rfl rfl rfl ?_
    refine jr_iald (pc' := 37) (v := h.1 56 a2.toNatClampNeg) dX8_keep_36 rfl (by decide) rfl (b1 c1) rfl ?_
    refine jr_iast (pc' := 38) (j := ((62 * a1) + a2).toNatClampNeg) dX8_keep_37 rfl (by decide) rfl (b2 c1) rfl ?_
    refine jr_iinc (pc' := 41) (i := 2) (v := (a2 + 1)) (lv' := [some (.ref 52), some (.int a1), some (.int (a2 + 1))]) dX8_keep_38 rfl rfl (congrArg (a2 + ·) (by decide)) (by decide) rfl ?_
    refine jr_goto (pc' := 15) dX8_keep_41 rfl ?_
    exact jG.weak (lv' := [some (.ref 52), some (.int a1), some (.int (a2 + 1))]) ⟨rfl, rfl, rfl, trivial⟩ (k1 c1)

theorem q_MogoBack_0 {E : jEnv} {n : Nat} {X : State → Prop} {Post : Option Value → HP → Prop} (x : Int32) (h : HP)
    (k0 : ((f_Moin x.toInt64 0 1) = 0) → Post (some (.int (-1000000001))) h)
    (b0 : (¬ (f_Moin x.toInt64 0 1) = 0) → vp_in x 2)
    (k1 : (¬ (f_Moin x.toInt64 0 1) = 0) → ((h.1 58 x.toNatClampNeg) = 0) → Post (some (.int (-1000000003))) h)
    (k2 : (¬ (f_Moin x.toInt64 0 1) = 0) → (¬ (h.1 58 x.toNatClampNeg) = 0) → jG E mX8_goBack (n + 1) X Post 28 [some (.ref 52), some (.int x), some (.int 0)] [] h)
    : jG E mX8_goBack (n + 1) X Post 0 [some (.ref 52), some (.int x), none] [] h := by
  refine jr_iload_n (pc' := 1) (i := 1) dX8_goBack_0 rfl rfl rfl ?_
  refine jr_i2l (pc' := 2)  dX8_goBack_1 rfl  ?_
  refine jr_lconst (pc' := 3) (v := 0) dX8_goBack_2 rfl (by decide) ?_
  refine jr_lconst (pc' := 4) (v := 1) dX8_goBack_3 rfl (by decide) ?_
  refine jr_callS (pc' := 7) (av := [.long x.toInt64, .long 0, .long 1]) (st := []) sX8_in wmX8_79 dX8_goBack_4 rfl rfl (Nat.le_of_ble_eq_true rfl) rfl (c_Moin (n := n) x.toInt64 0 1 h ) (fun v h2 hp => ?_)
  rw [hp.1, hp.2]
  show jG E mX8_goBack (n + 1) X Post 7 [some (.ref 52), some (.int x), none] [.int (f_Moin x.toInt64 0 1)] h
  by_cases c1 : (f_Moin x.toInt64 0 1) = 0
  · refine jr_if_neF (pc' := 10) (tgt := 13) dX8_goBack_7 rfl rfl c1 ?_
    refine jr_ldc (pc' := 12) (v := (-1000000001)) dX8_goBack_10 rfl wcX8_249 ?_
    exact jr_iret dX8_goBack_12 rfl rfl (k0 c1)
  · refine jr_if_neT (pc' := 13) dX8_goBack_7 rfl c1 ?_
    refine jr_aload_n (pc' := 14) (i := 0) dX8_goBack_13 rfl rfl rfl ?_
    refine jr_get (pc' := 17) jK8 (k := 52) (j := 11) (v := .ref 58) wfX8_25 dX8_goBack_14 rfl (by decide) rfl (by decide) rfl ?_
    refine jr_iload_n (pc' := 18) (i := 1) dX8_goBack_17 rfl rfl rfl ?_
    refine jr_zald (pc' := 19) (v := h.1 58 x.toNatClampNeg) dX8_goBack_18 rfl (by decide) rfl (b0 c1) rfl ?_
    by_cases c2 : (h.1 58 x.toNatClampNeg) = 0
    · refine jr_if_neF (pc' := 22) (tgt := 26) dX8_goBack_19 rfl rfl c2 ?_
      refine jr_ldcw (pc' := 25) (v := (-1000000003)) dX8_goBack_22 rfl wcX8_259 ?_
      exact jr_iret dX8_goBack_25 rfl rfl (k1 c1 c2)
    · refine jr_if_neT (pc' := 26) dX8_goBack_19 rfl c2 ?_
      refine jr_iconst (pc' := 27) (v := 0) dX8_goBack_26 rfl (by decide) ?_
      refine jr_istore_n (pc' := 28) (i := 2) (lv' := [some (.ref 52), some (.int x), some (.int 0)]) dX8_goBack_27 rfl rfl (by decide) rfl ?_
      exact jG.weak (lv' := [some (.ref 52), some (.int x), some (.int 0)]) ⟨rfl, rfl, rfl, trivial⟩ (k2 c1 c2)

theorem q_MogoBack_28 {E : jEnv} {n : Nat} {X : State → Prop} {Post : Option Value → HP → Prop} (a1 : Int32) (a2 : Int32) (h : HP)
    (k0 : ((62 : Int32) ≤ a2) → Post (some (.int 1)) h)
    (b0 : (¬ (62 : Int32) ≤ a2) → vp_in ((62 * a1) + a2) 124)
    (b1 : (¬ (62 : Int32) ≤ a2) → vp_in a2 62)
    (k1 : (¬ (62 : Int32) ≤ a2) → jG E mX8_goBack (n + 1) X Post 28 [some (.ref 52), some (.int a1), some (.int (a2 + 1))] [] (jPI h 56 a2.toNatClampNeg (h.1 57 (((62 * a1) + a2).toNatClampNeg))))
    : jG E mX8_goBack (n + 1) X Post 28 [some (.ref 52), some (.int a1), some (.int a2)] [] h := by
  refine jr_iload_n (pc' := 29) (i := 2) dX8_goBack_28 rfl rfl rfl ?_
  refine jr_bipush (pc' := 31) (v := 62) dX8_goBack_29 rfl (by decide) ?_
  by_cases c1 : (62 : Int32) ≤ a2
  · refine jr_icmp_geT (pc' := 57) dX8_goBack_31 rfl c1 ?_
    refine jr_iconst (pc' := 58) (v := 1) dX8_goBack_57 rfl (by decide) ?_
    exact jr_iret dX8_goBack_58 rfl rfl (k0 c1)
  · refine jr_icmp_geF (pc' := 34) (tgt := 57) dX8_goBack_31 rfl rfl c1 ?_
    refine jr_aload_n (pc' := 35) (i := 0) dX8_goBack_34 rfl rfl rfl ?_
    refine jr_get (pc' := 38) jK8 (k := 52) (j := 9) (v := .ref 56) wfX8_19 dX8_goBack_35 rfl (by decide) rfl (by decide) rfl ?_
    refine jr_iload_n (pc' := 39) (i := 2) dX8_goBack_38 rfl rfl rfl ?_
    refine jr_aload_n (pc' := 40) (i := 0) dX8_goBack_39 rfl rfl rfl ?_
    refine jr_get (pc' := 43) jK8 (k := 52) (j := 10) (v := .ref 57) wfX8_22 dX8_goBack_40 rfl (by decide) rfl (by decide) rfl ?_
    refine jr_bipush (pc' := 45) (v := 62) dX8_goBack_43 rfl (by decide) ?_
    refine jr_iload_n (pc' := 46) (i := 1) dX8_goBack_45 rfl rfl rfl ?_
    refine jr_imul (pc' := 47)  dX8_goBack_46 rfl  ?_
    refine jr_iload_n (pc' := 48) (i := 2) dX8_goBack_47 rfl rfl rfl ?_
    refine jr_iadd (pc' := 49)  dX8_goBack_48 rfl  ?_
    refine jr_iald (pc' := 50) (v := h.1 57 (((62 * a1) + a2).toNatClampNeg)) dX8_goBack_49 rfl (by decide) rfl (b0 c1) rfl ?_
    refine jr_iast (pc' := 51) (j := a2.toNatClampNeg) dX8_goBack_50 rfl (by decide) rfl (b1 c1) rfl ?_
    refine jr_iinc (pc' := 54) (i := 2) (v := (a2 + 1)) (lv' := [some (.ref 52), some (.int a1), some (.int (a2 + 1))]) dX8_goBack_51 rfl rfl (congrArg (a2 + ·) (by decide)) (by decide) rfl ?_
    refine jr_goto (pc' := 28) dX8_goBack_54 rfl ?_
    exact jG.weak (lv' := [some (.ref 52), some (.int a1), some (.int (a2 + 1))]) ⟨rfl, rfl, rfl, trivial⟩ (k1 c1)

