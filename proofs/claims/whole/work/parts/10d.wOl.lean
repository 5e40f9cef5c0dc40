theorem q_OlhoursToBe_0 {E : jEnv} {n : Nat} {X : State → Prop} {Post : Option Value → HP → Prop} (x : Int32) (y : Int32) (h : HP)
    (b0 : vp_in x 4)
    (k0 : jG E mX4_hoursToBe (n + 2) X Post 15 [some (.ref 24), some (.int x), some (.int y), some (.long (1 <<< ((h.1 19 x.toNatClampNeg).toInt64 &&& 63))), none, some (.int 0)] [] h)
    : jG E mX4_hoursToBe (n + 2) X Post 0 [some (.ref 24), some (.int x), some (.int y), none, none, none] [] h := by
  refine jr_lconst (pc' := 1) (v := 1) dX4_hoursToBe_0 rfl (by decide) ?_
  refine jr_aload_n (pc' := 2) (i := 0) dX4_hoursToBe_1 rfl rfl rfl ?_
  refine jr_get (pc' := 5) jK4 (k := 24) (j := 1) (v := .ref 18) wfX4_46 dX4_hoursToBe_2 rfl (by decide) rfl (by decide) rfl ?_
  refine jr_get (pc' := 8) jK5 (k := 18) (j := 4) (v := .ref 19) wfX4_79 dX4_hoursToBe_5 rfl (by decide) rfl (by decide) rfl ?_
  refine jr_iload_n (pc' := 9) (i := 1) dX4_hoursToBe_8 rfl rfl rfl ?_
  refine jr_iald (pc' := 10) (v := h.1 19 x.toNatClampNeg) dX4_hoursToBe_9 rfl (by decide) rfl (b0) rfl ?_
  refine jr_lshl (pc' := 11)  dX4_hoursToBe_10 rfl  ?_
  refine jr_lstore_n (pc' := 12) (i := 3) (lv' := [some (.ref 24), some (.int x), some (.int y), some (.long (1 <<< ((h.1 19 x.toNatClampNeg).toInt64 &&& 63))), none, none]) dX4_hoursToBe_11 rfl rfl (by decide) rfl ?_
  refine jr_iconst (pc' := 13) (v := 0) dX4_hoursToBe_12 rfl (by decide) ?_
  refine jr_istore (pc' := 15) (i := 5) (lv' := [some (.ref 24), some (.int x), some (.int y), some (.long (1 <<< ((h.1 19 x.toNatClampNeg).toInt64 &&& 63))), none, some (.int 0)]) dX4_hoursToBe_13 rfl (by decide) rfl ?_
  exact jG.weak (lv' := [some (.ref 24), some (.int x), some (.int y), some (.long (1 <<< ((h.1 19 x.toNatClampNeg).toInt64 &&& 63))), none, some (.int 0)]) ⟨rfl, rfl, rfl, rfl, rfl, trivial⟩ (k0)

theorem q_OlhoursToBe_15 {E : jEnv} {n : Nat} {X : State → Prop} {Post : Option Value → HP → Prop} (a1 : Int32) (a2 : Int32) (l3 : Int64) (a5 : Int32) (h : HP)
    (k0 : ((40 : Int32) < a5) → Post (some (.int (-1))) h)
    (b0 : (¬ (40 : Int32) < a5) → ((f_Shhas l3 a2) = 0) → (vp_in a1 4))
    (k1 : (¬ (40 : Int32) < a5) → ((f_Shhas l3 a2) = 0) → jG E mX4_hoursToBe (n + 2) X Post 15 [some (.ref 24), some (.int a1), some (.int a2), some (.long (f_OlanHourOn (h.2 9) (h.1 18 1) (h.1 3 0) (h.1 3 2) (h.2 24 3) (h.2 3 7) (h.2 3 8) (h.1 25) a1 l3 (a5 + 1))), none, some (.int (a5 + 1))] [] h)
    (k2 : (¬ (40 : Int32) < a5) → (¬ (f_Shhas l3 a2) = 0) → Post (some (.int a5)) h)
    : jG E mX4_hoursToBe (n + 2) X Post 15 [some (.ref 24), some (.int a1), some (.int a2), some (.long l3), none, some (.int a5)] [] h := by
  refine jr_iload (pc' := 17) (i := 5) dX4_hoursToBe_15 rfl rfl ?_
  refine jr_bipush (pc' := 19) (v := 40) dX4_hoursToBe_17 rfl (by decide) ?_
  by_cases c1 : (40 : Int32) < a5
  · refine jr_icmp_gtT (pc' := 50) dX4_hoursToBe_19 rfl c1 ?_
    refine jr_iconst (pc' := 51) (v := (-1)) dX4_hoursToBe_50 rfl (by decide) ?_
    exact jr_iret dX4_hoursToBe_51 rfl rfl (k0 c1)
  · refine jr_icmp_gtF (pc' := 22) (tgt := 50) dX4_hoursToBe_19 rfl rfl c1 ?_
    refine jr_lload_n (pc' := 23) (i := 3) dX4_hoursToBe_22 rfl rfl rfl ?_
    refine jr_iload_n (pc' := 24) (i := 2) dX4_hoursToBe_23 rfl rfl rfl ?_
    refine jr_callSN (pc' := 27) (av := [.long l3, .int a2]) (st := []) sX7_has (host := "StiltHeralds") (by decide +kernel) dX4_hoursToBe_24 rfl rfl (Nat.le_of_ble_eq_true rfl) rfl (c_Shhas (n := n + 1) l3 a2 h ) (fun v h2 hp => ?_)
    rw [hp.1, hp.2]
    show jG E mX4_hoursToBe (n + 2) X Post 27 [some (.ref 24), some (.int a1), some (.int a2), some (.long l3), none, some (.int a5)] [.int (f_Shhas l3 a2)] h
    by_cases c2 : (f_Shhas l3 a2) = 0
    · refine jr_if_eqT (pc' := 33) dX4_hoursToBe_27 rfl c2 ?_
      refine jr_aload_n (pc' := 34) (i := 0) dX4_hoursToBe_33 rfl rfl rfl ?_
      refine jr_iload_n (pc' := 35) (i := 1) dX4_hoursToBe_34 rfl rfl rfl ?_
      refine jr_lload_n (pc' := 36) (i := 3) dX4_hoursToBe_35 rfl rfl rfl ?_
      refine jr_iload (pc' := 38) (i := 5) dX4_hoursToBe_36 rfl rfl ?_
      refine jr_iconst (pc' := 39) (v := 1) dX4_hoursToBe_38 rfl (by decide) ?_
      refine jr_iadd (pc' := 40)  dX4_hoursToBe_39 rfl  ?_
      refine jr_callV (pc' := 43) (k := 24) (av := [.int a1, .long l3, .int (a5 + 1)]) (st := []) sX4_anHourOn wmX4_86 dX4_hoursToBe_40 rfl (by decide) rfl (by decide) rfl rfl rfl (Nat.le_of_ble_eq_true rfl) rfl (c_OlanHourOn (n := n) a1 l3 (a5 + 1) h (b0 c1 c2)) (fun v h2 hp => ?_)
      rw [hp.1, hp.2]
      show jG E mX4_hoursToBe (n + 2) X Post 43 [some (.ref 24), some (.int a1), some (.int a2), some (.long l3), none, some (.int a5)] [.long (f_OlanHourOn (h.2 9) (h.1 18 1) (h.1 3 0) (h.1 3 2) (h.2 24 3) (h.2 3 7) (h.2 3 8) (h.1 25) a1 l3 (a5 + 1))] h
      refine jr_lstore_n (pc' := 44) (i := 3) (lv' := [some (.ref 24), some (.int a1), some (.int a2), some (.long (f_OlanHourOn (h.2 9) (h.1 18 1) (h.1 3 0) (h.1 3 2) (h.2 24 3) (h.2 3 7) (h.2 3 8) (h.1 25) a1 l3 (a5 + 1))), none, some (.int a5)]) dX4_hoursToBe_43 rfl rfl (by decide) rfl ?_
      refine jr_iinc (pc' := 47) (i := 5) (v := (a5 + 1)) (lv' := [some (.ref 24), some (.int a1), some (.int a2), some (.long (f_OlanHourOn (h.2 9) (h.1 18 1) (h.1 3 0) (h.1 3 2) (h.2 24 3) (h.2 3 7) (h.2 3 8) (h.1 25) a1 l3 (a5 + 1))), none, some (.int (a5 + 1))]) dX4_hoursToBe_44 rfl rfl (congrArg (a5 + ·) (by decide)) (by decide) rfl ?_
      refine jr_goto (pc' := 15) dX4_hoursToBe_47 rfl ?_
      exact jG.weak (lv' := [some (.ref 24), some (.int a1), some (.int a2), some (.long (f_OlanHourOn (h.2 9) (h.1 18 1) (h.1 3 0) (h.1 3 2) (h.2 24 3) (h.2 3 7) (h.2 3 8) (h.1 25) a1 l3 (a5 + 1))), none, some (.int (a5 + 1))]) ⟨rfl, rfl, rfl, rfl, rfl, trivial⟩ (k1 c1 c2)
    · refine jr_if_eqF (pc' := 30) (tgt := 33) dX4_hoursToBe_27 rfl rfl c2 ?_
      refine jr_iload (pc' := 32) (i := 5) dX4_hoursToBe_30 rfl rfl ?_
      exact jr_iret dX4_hoursToBe_32 rfl rfl (k2 c1 c2)

theorem q_OlhoursToHear_0 {E : jEnv} {n : Nat} {X : State → Prop} {Post : Option Value → HP → Prop} (x : Int32) (y : Int32) (h : HP)
    (k0 : jCall E mX4_beginWith n [.ref 24, .int y] h (fun v h2 => jG E mX4_hoursToHear (n + 1) X Post 5 [some (.ref 24), some (.int x), some (.int y), none] (v.toList ++ []) h2))
    : jG E mX4_hoursToHear (n + 1) X Post 0 [some (.ref 24), some (.int x), some (.int y), none] [] h := by
  refine jr_aload_n (pc' := 1) (i := 0) dX4_hoursToHear_0 rfl rfl rfl ?_
  refine jr_iload_n (pc' := 2) (i := 2) dX4_hoursToHear_1 rfl rfl rfl ?_
  obtain ⟨P1, hC1, hK1⟩ := k0
  exact jr_callV (pc' := 5) (k := 24) (av := [.int y]) (st := []) sX4_beginWith wmX4_107 dX4_hoursToHear_2 rfl (by decide) rfl (by decide) rfl rfl rfl (Nat.le_of_ble_eq_true rfl) rfl hC1 (fun v h2 hp => jG.weak (lv' := [some (.ref 24), some (.int x), some (.int y), none]) ⟨rfl, rfl, rfl, trivial⟩ (hK1 v h2 hp))

theorem q_OlhoursToHear_5 {E : jEnv} {n : Nat} {X : State → Prop} {Post : Option Value → HP → Prop} (a1 : Int32) (a2 : Int32) (h : HP)
    (k0 : jG E mX4_hoursToHear (n + 1) X Post 7 [some (.ref 24), some (.int a1), some (.int a2), some (.int 0)] [] h)
    : jG E mX4_hoursToHear (n + 1) X Post 5 [some (.ref 24), some (.int a1), some (.int a2), none] [] h := by
  refine jr_iconst (pc' := 6) (v := 0) dX4_hoursToHear_5 rfl (by decide) ?_
  refine jr_istore_n (pc' := 7) (i := 3) (lv' := [some (.ref 24), some (.int a1), some (.int a2), some (.int 0)]) dX4_hoursToHear_6 rfl rfl (by decide) rfl ?_
  exact jG.weak (lv' := [some (.ref 24), some (.int a1), some (.int a2), some (.int 0)]) ⟨rfl, rfl, rfl, rfl, trivial⟩ (k0)

theorem q_OlhoursToHear_7 {E : jEnv} {n : Nat} {X : State → Prop} {Post : Option Value → HP → Prop} (a1 : Int32) (a2 : Int32) (a3 : Int32) (h : HP)
    (k0 : ((40 : Int32) < a3) → Post (some (.int (-1))) h)
    (b0 : (¬ (40 : Int32) < a3) → vp_in a1 4)
    (k1 : (¬ (40 : Int32) < a3) → ((lg_cmp (h.2 27 a1.toNatClampNeg) 0) = 0) → jCall E mX4_goOnWith n [.ref 24, .int a2, .int (a3 + 1)] h (fun v h2 => jG E mX4_hoursToHear (n + 1) X Post 34 [some (.ref 24), some (.int a1), some (.int a2), some (.int a3)] (v.toList ++ []) h2))
    (k2 : (¬ (40 : Int32) < a3) → (¬ (lg_cmp (h.2 27 a1.toNatClampNeg) 0) = 0) → Post (some (.int a3)) h)
    : jG E mX4_hoursToHear (n + 1) X Post 7 [some (.ref 24), some (.int a1), some (.int a2), some (.int a3)] [] h := by
  refine jr_iload_n (pc' := 8) (i := 3) dX4_hoursToHear_7 rfl rfl rfl ?_
  refine jr_bipush (pc' := 10) (v := 40) dX4_hoursToHear_8 rfl (by decide) ?_
  by_cases c1 : (40 : Int32) < a3
  · refine jr_icmp_gtT (pc' := 40) dX4_hoursToHear_10 rfl c1 ?_
    refine jr_iconst (pc' := 41) (v := (-1)) dX4_hoursToHear_40 rfl (by decide) ?_
    exact jr_iret dX4_hoursToHear_41 rfl rfl (k0 c1)
  · refine jr_icmp_gtF (pc' := 13) (tgt := 40) dX4_hoursToHear_10 rfl rfl c1 ?_
    refine jr_aload_n (pc' := 14) (i := 0) dX4_hoursToHear_13 rfl rfl rfl ?_
    refine jr_get (pc' := 17) jK4 (k := 24) (j := 5) (v := .ref 27) wfX4_23 dX4_hoursToHear_14 rfl (by decide) rfl (by decide) rfl ?_
    refine jr_iload_n (pc' := 18) (i := 1) dX4_hoursToHear_17 rfl rfl rfl ?_
    refine jr_lald (pc' := 19) (v := h.2 27 a1.toNatClampNeg) dX4_hoursToHear_18 rfl (by decide) rfl (b0 c1) rfl ?_
    refine jr_lconst (pc' := 20) (v := 0) dX4_hoursToHear_19 rfl (by decide) ?_
    refine jr_lcmp (pc' := 21)  dX4_hoursToHear_20 rfl  ?_
    by_cases c2 : (lg_cmp (h.2 27 a1.toNatClampNeg) 0) = 0
    · refine jr_if_eqT (pc' := 26) dX4_hoursToHear_21 rfl c2 ?_
      refine jr_aload_n (pc' := 27) (i := 0) dX4_hoursToHear_26 rfl rfl rfl ?_
      refine jr_iload_n (pc' := 28) (i := 2) dX4_hoursToHear_27 rfl rfl rfl ?_
      refine jr_iload_n (pc' := 29) (i := 3) dX4_hoursToHear_28 rfl rfl rfl ?_
      refine jr_iconst (pc' := 30) (v := 1) dX4_hoursToHear_29 rfl (by decide) ?_
      refine jr_iadd (pc' := 31)  dX4_hoursToHear_30 rfl  ?_
      obtain ⟨P1, hC1, hK1⟩ := k1 c1 c2
      exact jr_callV (pc' := 34) (k := 24) (av := [.int a2, .int (a3 + 1)]) (st := []) sX4_goOnWith wmX4_110 dX4_hoursToHear_31 rfl (by decide) rfl (by decide) rfl rfl rfl (Nat.le_of_ble_eq_true rfl) rfl hC1 (fun v h2 hp => jG.weak (lv' := [some (.ref 24), some (.int a1), some (.int a2), some (.int a3)]) ⟨rfl, rfl, rfl, rfl, trivial⟩ (hK1 v h2 hp))
    · refine jr_if_eqF (pc' := 24) (tgt := 26) dX4_hoursToHear_21 rfl rfl c2 ?_
      refine jr_iload_n (pc' := 25) (i := 3) dX4_hoursToHear_24 rfl rfl rfl ?_
      exact jr_iret dX4_hoursToHear_25 rfl rfl (k2 c1 c2)

theorem q_OlhoursToHear_34 {E : jEnv} {n : Nat} {X : State → Prop} {Post : Option Value → HP → Prop} (a1 : Int32) (a2 : Int32) (a3 : Int32) (h : HP)
    (k0 : jG E mX4_hoursToHear (n + 1) X Post 7 [some (.ref 24), some (.int a1), some (.int a2), some (.int (a3 + 1))] [] h)
    : jG E mX4_hoursToHear (n + 1) X Post 34 [some (.ref 24), some (.int a1), some (.int a2), some (.int a3)] [] h := by
  refine jr_iinc (pc' := 37) (i := 3) (v := (a3 + 1)) (lv' := [some (.ref 24), some (.int a1), some (.int a2), some (.int (a3 + 1))]) dX4_hoursToHear_34 rfl rfl (congrArg (a3 + ·) (by decide)) (by decide) rfl ?_
  refine jr_goto (pc' := 7) dX4_hoursToHear_37 rfl ?_
  exact jG.weak (lv' := [some (.ref 24), some (.int a1), some (.int a2), some (.int (a3 + 1))]) ⟨rfl, rfl, rfl, rfl, trivial⟩ (k0)

theorem q_OlbeginWith_0 {E : jEnv} {n : Nat} {X : State → Prop} {Post : Option Value → HP → Prop} (x : Int32) (h : HP)
    (k0 : jG E mX4_beginWith (n + 1) X Post 2 [some (.ref 24), some (.int x), some (.int 0)] [] h)
    : jG E mX4_beginWith (n + 1) X Post 0 [some (.ref 24), some (.int x), none] [] h := by
  refine jr_iconst (pc' := 1) (v := 0) dX4_beginWith_0 rfl (by decide) ?_
  refine jr_istore_n (pc' := 2) (i := 2) (lv' := [some (.ref 24), some (.int x), some (.int 0)]) dX4_beginWith_1 rfl rfl (by decide) rfl ?_
  exact jG.weak (lv' := [some (.ref 24), some (.int x), some (.int 0)]) ⟨rfl, rfl, rfl, trivial⟩ (k0)

theorem q_OlbeginWith_2 {E : jEnv} {n : Nat} {X : State → Prop} {Post : Option Value → HP → Prop} (a1 : Int32) (a2 : Int32) (h : HP)
    (k0 : ((h.1 3 3) ≤ a2) → jCall E mX4_meet n [.ref 24, .int a1] h (fun v h2 => jG E mX4_beginWith (n + 1) X Post 74 [none, none, none] (v.toList ++ []) h2))
    (b0 : (¬ (h.1 3 3) ≤ a2) → vp_in a2 4)
    (b1 : (¬ (h.1 3 3) ≤ a2) → vp_in a2 4)
    (b2 : (¬ (h.1 3 3) ≤ a2) → vp_in a2 4)
    (b3 : (¬ (h.1 3 3) ≤ a2) → ((f_Shhas ((h.1 21 a2.toNatClampNeg).toInt64) a1) = 0) → vp_in a2 4)
    (k1 : (¬ (h.1 3 3) ≤ a2) → ((f_Shhas ((h.1 21 a2.toNatClampNeg).toInt64) a1) = 0) → jG E mX4_beginWith (n + 1) X Post 2 [some (.ref 24), some (.int a1), some (.int (a2 + 1))] [] (jPL (jPL h 26 a2.toNatClampNeg (1 <<< ((h.1 19 a2.toNatClampNeg).toInt64 &&& 63))) 27 a2.toNatClampNeg 0))
    (b4 : (¬ (h.1 3 3) ≤ a2) → (¬ (f_Shhas ((h.1 21 a2.toNatClampNeg).toInt64) a1) = 0) → vp_in a2 4)
    (b5 : (¬ (h.1 3 3) ≤ a2) → (¬ (f_Shhas ((h.1 21 a2.toNatClampNeg).toInt64) a1) = 0) → vp_in a2 4)
    (k2 : (¬ (h.1 3 3) ≤ a2) → (¬ (f_Shhas ((h.1 21 a2.toNatClampNeg).toInt64) a1) = 0) → jG E mX4_beginWith (n + 1) X Post 2 [some (.ref 24), some (.int a1), some (.int (a2 + 1))] [] (jPL (jPL h 26 a2.toNatClampNeg (1 <<< ((h.1 19 a2.toNatClampNeg).toInt64 &&& 63))) 27 a2.toNatClampNeg (1 <<< ((h.1 19 a2.toNatClampNeg).toInt64 &&& 63))))
    : jG E mX4_beginWith (n + 1) X Post 2 [some (.ref 24), some (.int a1), some (.int a2)] [] h := by
  refine jr_iload_n (pc' := 3) (i := 2) dX4_beginWith_2 rfl rfl rfl ?_
  refine jr_aload_n (pc' := 4) (i := 0) dX4_beginWith_3 rfl rfl rfl ?_
  refine jr_get (pc' := 7) jK4 (k := 24) (j := 0) (v := .ref 3) wfX4_42 dX4_beginWith_4 rfl (by decide) rfl (by decide) rfl ?_
  refine jr_get (pc' := 10) jK2 (k := 3) (j := 3) (v := .int (h.1 3 3)) wfX4_90 dX4_beginWith_7 rfl (by decide) rfl (by decide) rfl ?_
  by_cases c1 : (h.1 3 3) ≤ a2
  · refine jr_icmp_geT (pc' := 69) dX4_beginWith_10 rfl c1 ?_
    refine jr_aload_n (pc' := 70) (i := 0) dX4_beginWith_69 rfl rfl rfl ?_
    refine jr_iload_n (pc' := 71) (i := 1) dX4_beginWith_70 rfl rfl rfl ?_
    obtain ⟨P1, hC1, hK1⟩ := k0 c1
    exact jr_callV (pc' := 74) (k := 24) (av := [.int a1]) (st := []) sX4_meet wmX4_100 dX4_beginWith_71 rfl (by decide) rfl (by decide) rfl rfl rfl (Nat.le_of_ble_eq_true rfl) rfl hC1 (fun v h2 hp => jG.weak (lv' := [none, none, none]) trivial (hK1 v h2 hp))
  · refine jr_icmp_geF (pc' := 13) (tgt := 69) dX4_beginWith_10 rfl rfl c1 ?_
    refine jr_aload_n (pc' := 14) (i := 0) dX4_beginWith_13 rfl rfl rfl ?_
    refine jr_get (pc' := 17) jK4 (k := 24) (j := 4) (v := .ref 26) wfX4_19 dX4_beginWith_14 rfl (by decide) rfl (by decide) rfl ?_
    refine jr_iload_n (pc' := 18) (i := 2) dX4_beginWith_17 rfl rfl rfl ?_
    refine jr_lconst (pc' := 19) (v := 1) dX4_beginWith_18 rfl (by decide) ?_
    refine jr_aload_n (pc' := 20) (i := 0) dX4_beginWith_19 rfl rfl rfl ?_
    refine jr_get (pc' := 23) jK4 (k := 24) (j := 1) (v := .ref 18) wfX4_46 dX4_beginWith_20 rfl (by decide) rfl (by decide) rfl ?_
    refine jr_get (pc' := 26) jK5 (k := 18) (j := 4) (v := .ref 19) wfX4_79 dX4_beginWith_23 rfl (by decide) rfl (by decide) rfl ?_
    refine jr_iload_n (pc' := 27) (i := 2) dX4_beginWith_26 rfl rfl rfl ?_
    refine jr_iald (pc' := 28) (v := h.1 19 a2.toNatClampNeg) dX4_beginWith_27 rfl (by decide) rfl (b0 c1) rfl ?_
    refine jr_lshl (pc' := 29)  dX4_beginWith_28 rfl  ?_
    refine jr_last (pc' := 30) (j := a2.toNatClampNeg) dX4_beginWith_29 rfl (by decide) rfl (b1 c1) rfl ?_
    refine jr_aload_n (pc' := 31) (i := 0) dX4_beginWith_30 rfl rfl rfl ?_
    refine jr_get (pc' := 34) jK4 (k := 24) (j := 5) (v := .ref 27) wfX4_23 dX4_beginWith_31 rfl (by decide) rfl (by decide) rfl ?_
    refine jr_iload_n (pc' := 35) (i := 2) dX4_beginWith_34 rfl rfl rfl ?_
    refine jr_aload_n (pc' := 36) (i := 0) dX4_beginWith_35 rfl rfl rfl ?_
    refine jr_get (pc' := 39) jK4 (k := 24) (j := 1) (v := .ref 18) wfX4_46 dX4_beginWith_36 rfl (by decide) rfl (by decide) rfl ?_
    refine jr_get (pc' := 42) jK5 (k := 18) (j := 6) (v := .ref 21) wfX4_97 dX4_beginWith_39 rfl (by decide) rfl (by decide) rfl ?_
    refine jr_iload_n (pc' := 43) (i := 2) dX4_beginWith_42 rfl rfl rfl ?_
    refine jr_iald (pc' := 44) (v := h.1 21 a2.toNatClampNeg) dX4_beginWith_43 rfl (by decide) rfl (b2 c1) rfl ?_
    refine jr_i2l (pc' := 45)  dX4_beginWith_44 rfl  ?_
    refine jr_iload_n (pc' := 46) (i := 1) dX4_beginWith_45 rfl rfl rfl ?_
    refine jr_callSN (pc' := 49) (av := [.long ((h.1 21 a2.toNatClampNeg).toInt64), .int a1]) (st := [.int a2, .ref 27]) sX7_has (host := "StiltHeralds") (by decide +kernel) dX4_beginWith_46 rfl rfl (Nat.le_of_ble_eq_true rfl) rfl (c_Shhas (n := n) ((h.1 21 a2.toNatClampNeg).toInt64) a1 (jPL h 26 a2.toNatClampNeg (1 <<< ((h.1 19 a2.toNatClampNeg).toInt64 &&& 63))) ) (fun v h2 hp => ?_)
    rw [hp.1, hp.2]
    show jG E mX4_beginWith (n + 1) X Post 49 [some (.ref 24), some (.int a1), some (.int a2)] [.int (f_Shhas ((h.1 21 a2.toNatClampNeg).toInt64) a1), .int a2, .ref 27] (jPL h 26 a2.toNatClampNeg (1 <<< ((h.1 19 a2.toNatClampNeg).toInt64 &&& 63)))
    by_cases c2 : (f_Shhas ((h.1 21 a2.toNatClampNeg).toInt64) a1) = 0
    · refine jr_if_eqT (pc' := 61) dX4_beginWith_49 rfl c2 ?_
      refine jr_lconst (pc' := 62) (v := 0) dX4_beginWith_61 rfl (by decide) ?_
      refine jr_last (pc' := 63) (j := a2.toNatClampNeg) dX4_beginWith_62 rfl (by decide) rfl (b3 c1 c2) rfl ?_
      refine jr_iinc (pc' := 66) (i := 2) (v := (a2 + 1)) (lv' := [some (.ref 24), some (.int a1), some (.int (a2 + 1))]) dX4_beginWith_63 rfl rfl (congrArg (a2 + ·) (by decide)) (by decide) rfl ?_
      refine jr_goto (pc' := 2) dX4_beginWith_66 rfl ?_
      exact jG.weak (lv' := [some (.ref 24), some (.int a1), some (.int (a2 + 1))]) ⟨rfl, rfl, rfl, trivial⟩ (k1 c1 c2)
    · refine jr_if_eqF (pc' := 52) (tgt := 61) dX4_beginWith_49 rfl rfl c2 ?_
      refine jr_aload_n (pc' := 53) (i := 0) dX4_beginWith_52 rfl rfl rfl ?_
      refine jr_get (pc' := 56) jK4 (k := 24) (j := 4) (v := .ref 26) wfX4_19 dX4_beginWith_53 rfl (by decide) rfl (by decide) rfl ?_
      refine jr_iload_n (pc' := 57) (i := 2) dX4_beginWith_56 rfl rfl rfl ?_
      refine jr_lald (pc' := 58) (v := (1 <<< ((h.1 19 a2.toNatClampNeg).toInt64 &&& 63))) dX4_beginWith_57 rfl (by decide) rfl (b4 c1 c2) (jPL_at (h := h) (k := 26) (j := a2.toNatClampNeg) (x := (1 <<< ((h.1 19 a2.toNatClampNeg).toInt64 &&& 63)))) ?_
      refine jr_goto (pc' := 62) dX4_beginWith_58 rfl ?_
      refine jr_last (pc' := 63) (j := a2.toNatClampNeg) dX4_beginWith_62 rfl (by decide) rfl (b5 c1 c2) rfl ?_
      refine jr_iinc (pc' := 66) (i := 2) (v := (a2 + 1)) (lv' := [some (.ref 24), some (.int a1), some (.int (a2 + 1))]) dX4_beginWith_63 rfl rfl (congrArg (a2 + ·) (by decide)) (by decide) rfl ?_
      refine jr_goto (pc' := 2) dX4_beginWith_66 rfl ?_
      exact jG.weak (lv' := [some (.ref 24), some (.int a1), some (.int (a2 + 1))]) ⟨rfl, rfl, rfl, trivial⟩ (k2 c1 c2)

theorem q_OlbeginWith_74 {E : jEnv} {n : Nat} {X : State → Prop} {Post : Option Value → HP → Prop}  (h : HP)
    (k0 : Post none h)
    : jG E mX4_beginWith (n + 1) X Post 74 [none, none, none] [] h := by
  exact jr_vret dX4_beginWith_74 rfl (k0)

theorem q_Olmeet_0 {E : jEnv} {n : Nat} {X : State → Prop} {Post : Option Value → HP → Prop} (x : Int32) (h : HP)
    (b0 : vp_in x 4)
    (k0 : jG E mX4_meet n X Post 15 [some (.ref 24), none, some (.long (1 <<< ((h.1 8 x.toNatClampNeg).toInt64 &&& 63))), none, some (.int 0)] [] h)
    : jG E mX4_meet n X Post 0 [some (.ref 24), some (.int x), none, none, none] [] h := by
  refine jr_lconst (pc' := 1) (v := 1) dX4_meet_0 rfl (by decide) ?_
  refine jr_aload_n (pc' := 2) (i := 0) dX4_meet_1 rfl rfl rfl ?_
  refine jr_get (pc' := 5) jK4 (k := 24) (j := 0) (v := .ref 3) wfX4_42 dX4_meet_2 rfl (by decide) rfl (by decide) rfl ?_
  refine jr_get (pc' := 8) jK2 (k := 3) (j := 13) (v := .ref 8) wfX4_104 dX4_meet_5 rfl (by decide) rfl (by decide) rfl ?_
  refine jr_iload_n (pc' := 9) (i := 1) dX4_meet_8 rfl rfl rfl ?_
  refine jr_iald (pc' := 10) (v := h.1 8 x.toNatClampNeg) dX4_meet_9 rfl (by decide) rfl (b0) rfl ?_
  refine jr_lshl (pc' := 11)  dX4_meet_10 rfl  ?_
  refine jr_lstore_n (pc' := 12) (i := 2) (lv' := [some (.ref 24), some (.int x), some (.long (1 <<< ((h.1 8 x.toNatClampNeg).toInt64 &&& 63))), none, none]) dX4_meet_11 rfl rfl (by decide) rfl ?_
  refine jr_iconst (pc' := 13) (v := 0) dX4_meet_12 rfl (by decide) ?_
  refine jr_istore (pc' := 15) (i := 4) (lv' := [some (.ref 24), some (.int x), some (.long (1 <<< ((h.1 8 x.toNatClampNeg).toInt64 &&& 63))), none, some (.int 0)]) dX4_meet_13 rfl (by decide) rfl ?_
  exact jG.weak (lv' := [some (.ref 24), none, some (.long (1 <<< ((h.1 8 x.toNatClampNeg).toInt64 &&& 63))), none, some (.int 0)]) ⟨rfl, rfl, rfl, trivial⟩ (k0)

theorem q_Olmeet_15 {E : jEnv} {n : Nat} {X : State → Prop} {Post : Option Value → HP → Prop} (l2 : Int64) (a4 : Int32) (h : HP)
    (k0 : ((h.1 3 3) ≤ a4) → jG E mX4_meet n X Post 46 [some (.ref 24), none, some (.long l2), none, some (.int 0)] [] h)
    (b0 : (¬ (h.1 3 3) ≤ a4) → vp_in a4 4)
    (k1 : (¬ (h.1 3 3) ≤ a4) → jG E mX4_meet n X Post 15 [some (.ref 24), none, some (.long (l2 ||| (h.2 27 a4.toNatClampNeg))), none, some (.int (a4 + 1))] [] h)
    : jG E mX4_meet n X Post 15 [some (.ref 24), none, some (.long l2), none, some (.int a4)] [] h := by
  refine jr_iload (pc' := 17) (i := 4) dX4_meet_15 rfl rfl ?_
  refine jr_aload_n (pc' := 18) (i := 0) dX4_meet_17 rfl rfl rfl ?_
  refine jr_get (pc' := 21) jK4 (k := 24) (j := 0) (v := .ref 3) wfX4_42 dX4_meet_18 rfl (by decide) rfl (by decide) rfl ?_
  refine jr_get (pc' := 24) jK2 (k := 3) (j := 3) (v := .int (h.1 3 3)) wfX4_90 dX4_meet_21 rfl (by decide) rfl (by decide) rfl ?_
  by_cases c1 : (h.1 3 3) ≤ a4
  · refine jr_icmp_geT (pc' := 43) dX4_meet_24 rfl c1 ?_
    refine jr_iconst (pc' := 44) (v := 0) dX4_meet_43 rfl (by decide) ?_
    refine jr_istore (pc' := 46) (i := 4) (lv' := [some (.ref 24), none, some (.long l2), none, some (.int 0)]) dX4_meet_44 rfl (by decide) rfl ?_
    exact jG.weak (lv' := [some (.ref 24), none, some (.long l2), none, some (.int 0)]) ⟨rfl, rfl, rfl, trivial⟩ (k0 c1)
  · refine jr_icmp_geF (pc' := 27) (tgt := 43) dX4_meet_24 rfl rfl c1 ?_
    refine jr_lload_n (pc' := 28) (i := 2) dX4_meet_27 rfl rfl rfl ?_
    refine jr_aload_n (pc' := 29) (i := 0) dX4_meet_28 rfl rfl rfl ?_
    refine jr_get (pc' := 32) jK4 (k := 24) (j := 5) (v := .ref 27) wfX4_23 dX4_meet_29 rfl (by decide) rfl (by decide) rfl ?_
    refine jr_iload (pc' := 34) (i := 4) dX4_meet_32 rfl rfl ?_
    refine jr_lald (pc' := 35) (v := h.2 27 a4.toNatClampNeg) dX4_meet_34 rfl (by decide) rfl (b0 c1) rfl ?_
    refine jr_lor (pc' := 36)  dX4_meet_35 rfl  ?_
    refine jr_lstore_n (pc' := 37) (i := 2) (lv' := [some (.ref 24), none, some (.long (l2 ||| (h.2 27 a4.toNatClampNeg))), none, some (.int a4)]) dX4_meet_36 rfl rfl (by decide) rfl ?_
    refine jr_iinc (pc' := 40) (i := 4) (v := (a4 + 1)) (lv' := [some (.ref 24), none, some (.long (l2 ||| (h.2 27 a4.toNatClampNeg))), none, some (.int (a4 + 1))]) dX4_meet_37 rfl rfl (congrArg (a4 + ·) (by decide)) (by decide) rfl ?_
    refine jr_goto (pc' := 15) dX4_meet_40 rfl ?_
    exact jG.weak (lv' := [some (.ref 24), none, some (.long (l2 ||| (h.2 27 a4.toNatClampNeg))), none, some (.int (a4 + 1))]) ⟨rfl, rfl, rfl, trivial⟩ (k1 c1)

theorem q_Olmeet_46 {E : jEnv} {n : Nat} {X : State → Prop} {Post : Option Value → HP → Prop} (l2 : Int64) (a4 : Int32) (h : HP)
    (k0 : ((h.1 3 3) ≤ a4) → Post none h)
    (b0 : (¬ (h.1 3 3) ≤ a4) → vp_in a4 4)
    (b1 : (¬ (h.1 3 3) ≤ a4) → vp_in a4 4)
    (b2 : (¬ (h.1 3 3) ≤ a4) → vp_in a4 4)
    (k1 : (¬ (h.1 3 3) ≤ a4) → jG E mX4_meet n X Post 46 [some (.ref 24), none, some (.long l2), none, some (.int (a4 + 1))] [] (jPL h 27 a4.toNatClampNeg ((h.2 27 a4.toNatClampNeg) ||| ((h.2 26 a4.toNatClampNeg) &&& l2))))
    : jG E mX4_meet n X Post 46 [some (.ref 24), none, some (.long l2), none, some (.int a4)] [] h := by
  refine jr_iload (pc' := 48) (i := 4) dX4_meet_46 rfl rfl ?_
  refine jr_aload_n (pc' := 49) (i := 0) dX4_meet_48 rfl rfl rfl ?_
  refine jr_get (pc' := 52) jK4 (k := 24) (j := 0) (v := .ref 3) wfX4_42 dX4_meet_49 rfl (by decide) rfl (by decide) rfl ?_
  refine jr_get (pc' := 55) jK2 (k := 3) (j := 3) (v := .int (h.1 3 3)) wfX4_90 dX4_meet_52 rfl (by decide) rfl (by decide) rfl ?_
  by_cases c1 : (h.1 3 3) ≤ a4
  · refine jr_icmp_geT (pc' := 83) dX4_meet_55 rfl c1 ?_
    exact jr_vret dX4_meet_83 rfl (k0 c1)
  · refine jr_icmp_geF (pc' := 58) (tgt := 83) dX4_meet_55 rfl rfl c1 ?_
    refine jr_aload_n (pc' := 59) (i := 0) dX4_meet_58 rfl rfl rfl ?_
    refine jr_get (pc' := 62) jK4 (k := 24) (j := 5) (v := .ref 27) wfX4_23 dX4_meet_59 rfl (by decide) rfl (by decide) rfl ?_
    refine jr_iload (pc' := 64) (i := 4) dX4_meet_62 rfl rfl ?_
    refine jr_dup2 (pc' := 65)  dX4_meet_64 rfl rfl rfl ?_
    refine jr_lald (pc' := 66) (v := h.2 27 a4.toNatClampNeg) dX4_meet_65 rfl (by decide) rfl (b0 c1) rfl ?_
    refine jr_aload_n (pc' := 67) (i := 0) dX4_meet_66 rfl rfl rfl ?_
    refine jr_get (pc' := 70) jK4 (k := 24) (j := 4) (v := .ref 26) wfX4_19 dX4_meet_67 rfl (by decide) rfl (by decide) rfl ?_
    refine jr_iload (pc' := 72) (i := 4) dX4_meet_70 rfl rfl ?_
    refine jr_lald (pc' := 73) (v := h.2 26 a4.toNatClampNeg) dX4_meet_72 rfl (by decide) rfl (b1 c1) rfl ?_
    refine jr_lload_n (pc' := 74) (i := 2) dX4_meet_73 rfl rfl rfl ?_
    refine jr_land (pc' := 75)  dX4_meet_74 rfl  ?_
    refine jr_lor (pc' := 76)  dX4_meet_75 rfl  ?_
    refine jr_last (pc' := 77) (j := a4.toNatClampNeg) dX4_meet_76 rfl (by decide) rfl (b2 c1) rfl ?_
    refine jr_iinc (pc' := 80) (i := 4) (v := (a4 + 1)) (lv' := [some (.ref 24), none, some (.long l2), none, some (.int (a4 + 1))]) dX4_meet_77 rfl rfl (congrArg (a4 + ·) (by decide)) (by decide) rfl ?_
    refine jr_goto (pc' := 46) dX4_meet_80 rfl ?_
    exact jG.weak (lv' := [some (.ref 24), none, some (.long l2), none, some (.int (a4 + 1))]) ⟨rfl, rfl, rfl, trivial⟩ (k1 c1)

theorem q_OlgoOnWith_0 {E : jEnv} {n : Nat} {X : State → Prop} {Post : Option Value → HP → Prop} (x : Int32) (y : Int32) (h : HP)
    (k0 : jG E mX4_goOnWith (n + 1) X Post 20 [some (.ref 24), some (.int x), none, some (.int (f_LdtideOf (h.1 3 2) ((h.1 18 1) + y))), some (.int 0), none, none] [] h)
    : jG E mX4_goOnWith (n + 1) X Post 0 [some (.ref 24), some (.int x), some (.int y), none, none, none, none] [] h := by
  refine jr_aload_n (pc' := 1) (i := 0) dX4_goOnWith_0 rfl rfl rfl ?_
  refine jr_get (pc' := 4) jK4 (k := 24) (j := 0) (v := .ref 3) wfX4_42 dX4_goOnWith_1 rfl (by decide) rfl (by decide) rfl ?_
  refine jr_aload_n (pc' := 5) (i := 0) dX4_goOnWith_4 rfl rfl rfl ?_
  refine jr_get (pc' := 8) jK4 (k := 24) (j := 1) (v := .ref 18) wfX4_46 dX4_goOnWith_5 rfl (by decide) rfl (by decide) rfl ?_
  refine jr_get (pc' := 11) jK5 (k := 18) (j := 1) (v := .int (h.1 18 1)) wfX4_62 dX4_goOnWith_8 rfl (by decide) rfl (by decide) rfl ?_
  refine jr_iload_n (pc' := 12) (i := 2) dX4_goOnWith_11 rfl rfl rfl ?_
  refine jr_iadd (pc' := 13)  dX4_goOnWith_12 rfl  ?_
  refine jr_callV (pc' := 16) (k := 3) (av := [.int ((h.1 18 1) + y)]) (st := []) sX2_tideOf wmX4_65 dX4_goOnWith_13 rfl (by decide) rfl (by decide) rfl rfl rfl (Nat.le_of_ble_eq_true rfl) rfl (c_LdtideOf (n := n) ((h.1 18 1) + y) h ) (fun v h2 hp => ?_)
  rw [hp.1, hp.2]
  show jG E mX4_goOnWith (n + 1) X Post 16 [some (.ref 24), some (.int x), some (.int y), none, none, none, none] [.int (f_LdtideOf (h.1 3 2) ((h.1 18 1) + y))] h
  refine jr_istore_n (pc' := 17) (i := 3) (lv' := [some (.ref 24), some (.int x), some (.int y), some (.int (f_LdtideOf (h.1 3 2) ((h.1 18 1) + y))), none, none, none]) dX4_goOnWith_16 rfl rfl (by decide) rfl ?_
  refine jr_iconst (pc' := 18) (v := 0) dX4_goOnWith_17 rfl (by decide) ?_
  refine jr_istore (pc' := 20) (i := 4) (lv' := [some (.ref 24), some (.int x), some (.int y), some (.int (f_LdtideOf (h.1 3 2) ((h.1 18 1) + y))), some (.int 0), none, none]) dX4_goOnWith_18 rfl (by decide) rfl ?_
  exact jG.weak (lv' := [some (.ref 24), some (.int x), none, some (.int (f_LdtideOf (h.1 3 2) ((h.1 18 1) + y))), some (.int 0), none, none]) ⟨rfl, rfl, rfl, rfl, trivial⟩ (k0)

theorem q_OlgoOnWith_20 {E : jEnv} {n : Nat} {X : State → Prop} {Post : Option Value → HP → Prop} (a1 : Int32) (a3 : Int32) (a4 : Int32) (h : HP)
    (k0 : ((h.1 3 3) ≤ a4) → jCall E mX4_meet n [.ref 24, .int a1] h (fun v h2 => jG E mX4_goOnWith (n + 1) X Post 111 [none, none, none, none, none, none, none] (v.toList ++ []) h2))
    (b0 : (¬ (h.1 3 3) ≤ a4) → vp_in a4 4)
    (b1 : (¬ (h.1 3 3) ≤ a4) → vp_in a4 4)
    (b2 : (¬ (h.1 3 3) ≤ a4) → vp_in a4 4)
    (b3 : (¬ (h.1 3 3) ≤ a4) → vp_in a4 4)
    (b4 : (¬ (h.1 3 3) ≤ a4) → vp_in a4 4)
    (k1 : (¬ (h.1 3 3) ≤ a4) → jG E mX4_goOnWith (n + 1) X Post 20 [some (.ref 24), some (.int a1), none, some (.int a3), some (.int (a4 + 1)), none, none] [] (jPL (jPL h 26 a4.toNatClampNeg (f_Ldspread (h.1 3 0) (h.2 3 7) (h.2 3 8) (h.2 26 a4.toNatClampNeg) ((f_LdcellsFor (h.2 9) (h.1 25 a4.toNatClampNeg) a3) ||| (h.2 24 3)))) 27 a4.toNatClampNeg (f_Ldspread (h.1 3 0) (h.2 3 7) (h.2 3 8) (h.2 27 a4.toNatClampNeg) ((f_LdcellsFor (h.2 9) (h.1 25 a4.toNatClampNeg) a3) ||| (h.2 24 3)))))
    : jG E mX4_goOnWith (n + 1) X Post 20 [some (.ref 24), some (.int a1), none, some (.int a3), some (.int a4), none, none] [] h := by
  refine jr_iload (pc' := 22) (i := 4) dX4_goOnWith_20 rfl rfl ?_
  refine jr_aload_n (pc' := 23) (i := 0) dX4_goOnWith_22 rfl rfl rfl ?_
  refine jr_get (pc' := 26) jK4 (k := 24) (j := 0) (v := .ref 3) wfX4_42 dX4_goOnWith_23 rfl (by decide) rfl (by decide) rfl ?_
  refine jr_get (pc' := 29) jK2 (k := 3) (j := 3) (v := .int (h.1 3 3)) wfX4_90 dX4_goOnWith_26 rfl (by decide) rfl (by decide) rfl ?_
  by_cases c1 : (h.1 3 3) ≤ a4
  · refine jr_icmp_geT (pc' := 106) dX4_goOnWith_29 rfl c1 ?_
    refine jr_aload_n (pc' := 107) (i := 0) dX4_goOnWith_106 rfl rfl rfl ?_
    refine jr_iload_n (pc' := 108) (i := 1) dX4_goOnWith_107 rfl rfl rfl ?_
    obtain ⟨P1, hC1, hK1⟩ := k0 c1
    exact jr_callV (pc' := 111) (k := 24) (av := [.int a1]) (st := []) sX4_meet wmX4_100 dX4_goOnWith_108 rfl (by decide) rfl (by decide) rfl rfl rfl (Nat.le_of_ble_eq_true rfl) rfl hC1 (fun v h2 hp => jG.weak (lv' := [none, none, none, none, none, none, none]) trivial (hK1 v h2 hp))
  · refine jr_icmp_geF (pc' := 32) (tgt := 106) dX4_goOnWith_29 rfl rfl c1 ?_
    refine jr_aload_n (pc' := 33) (i := 0) dX4_goOnWith_32 rfl rfl rfl ?_
    refine jr_get (pc' := 36) jK4 (k := 24) (j := 0) (v := .ref 3) wfX4_42 dX4_goOnWith_33 rfl (by decide) rfl (by decide) rfl ?_
    refine jr_aload_n (pc' := 37) (i := 0) dX4_goOnWith_36 rfl rfl rfl ?_
    refine jr_get (pc' := 40) jK4 (k := 24) (j := 2) (v := .ref 25) wfX4_9 dX4_goOnWith_37 rfl (by decide) rfl (by decide) rfl ?_
    refine jr_iload (pc' := 42) (i := 4) dX4_goOnWith_40 rfl rfl ?_
    refine jr_iald (pc' := 43) (v := h.1 25 a4.toNatClampNeg) dX4_goOnWith_42 rfl (by decide) rfl (b0 c1) rfl ?_
    refine jr_iload_n (pc' := 44) (i := 3) dX4_goOnWith_43 rfl rfl rfl ?_
    refine jr_callV (pc' := 47) (k := 3) (av := [.int (h.1 25 a4.toNatClampNeg), .int a3]) (st := []) sX2_cellsFor wmX4_71 dX4_goOnWith_44 rfl (by decide) rfl (by decide) rfl rfl rfl (Nat.le_of_ble_eq_true rfl) rfl (c_LdcellsFor (n := n) (h.1 25 a4.toNatClampNeg) a3 h ) (fun v h2 hp => ?_)
    rw [hp.1, hp.2]
    show jG E mX4_goOnWith (n + 1) X Post 47 [some (.ref 24), some (.int a1), none, some (.int a3), some (.int a4), none, none] [.long (f_LdcellsFor (h.2 9) (h.1 25 a4.toNatClampNeg) a3)] h
    refine jr_aload_n (pc' := 48) (i := 0) dX4_goOnWith_47 rfl rfl rfl ?_
    refine jr_get (pc' := 51) jK4 (k := 24) (j := 3) (v := .long (h.2 24 3)) wfX4_15 dX4_goOnWith_48 rfl (by decide) rfl (by decide) rfl ?_
    refine jr_lor (pc' := 52)  dX4_goOnWith_51 rfl  ?_
    refine jr_lstore (pc' := 54) (i := 5) (lv' := [some (.ref 24), some (.int a1), none, some (.int a3), some (.int a4), some (.long ((f_LdcellsFor (h.2 9) (h.1 25 a4.toNatClampNeg) a3) ||| (h.2 24 3))), none]) dX4_goOnWith_52 rfl (by decide) rfl ?_
    refine jr_aload_n (pc' := 55) (i := 0) dX4_goOnWith_54 rfl rfl rfl ?_
    refine jr_get (pc' := 58) jK4 (k := 24) (j := 4) (v := .ref 26) wfX4_19 dX4_goOnWith_55 rfl (by decide) rfl (by decide) rfl ?_
    refine jr_iload (pc' := 60) (i := 4) dX4_goOnWith_58 rfl rfl ?_
    refine jr_aload_n (pc' := 61) (i := 0) dX4_goOnWith_60 rfl rfl rfl ?_
    refine jr_get (pc' := 64) jK4 (k := 24) (j := 0) (v := .ref 3) wfX4_42 dX4_goOnWith_61 rfl (by decide) rfl (by decide) rfl ?_
    refine jr_aload_n (pc' := 65) (i := 0) dX4_goOnWith_64 rfl rfl rfl ?_
    refine jr_get (pc' := 68) jK4 (k := 24) (j := 4) (v := .ref 26) wfX4_19 dX4_goOnWith_65 rfl (by decide) rfl (by decide) rfl ?_
    refine jr_iload (pc' := 70) (i := 4) dX4_goOnWith_68 rfl rfl ?_
    refine jr_lald (pc' := 71) (v := h.2 26 a4.toNatClampNeg) dX4_goOnWith_70 rfl (by decide) rfl (b1 c1) rfl ?_
    refine jr_lload (pc' := 73) (i := 5) dX4_goOnWith_71 rfl rfl ?_
    refine jr_callV (pc' := 76) (k := 3) (av := [.long (h.2 26 a4.toNatClampNeg), .long ((f_LdcellsFor (h.2 9) (h.1 25 a4.toNatClampNeg) a3) ||| (h.2 24 3))]) (st := [.int a4, .ref 26]) sX2_spread wmX4_75 dX4_goOnWith_73 rfl (by decide) rfl (by decide) rfl rfl rfl (Nat.le_of_ble_eq_true rfl) rfl (c_Ldspread (n := n) (h.2 26 a4.toNatClampNeg) ((f_LdcellsFor (h.2 9) (h.1 25 a4.toNatClampNeg) a3) ||| (h.2 24 3)) h ) (fun v h2 hp => ?_)
    rw [hp.1, hp.2]
    show jG E mX4_goOnWith (n + 1) X Post 76 [some (.ref 24), some (.int a1), none, some (.int a3), some (.int a4), some (.long ((f_LdcellsFor (h.2 9) (h.1 25 a4.toNatClampNeg) a3) ||| (h.2 24 3))), none] [.long (f_Ldspread (h.1 3 0) (h.2 3 7) (h.2 3 8) (h.2 26 a4.toNatClampNeg) ((f_LdcellsFor (h.2 9) (h.1 25 a4.toNatClampNeg) a3) ||| (h.2 24 3))), .int a4, .ref 26] h
    refine jr_last (pc' := 77) (j := a4.toNatClampNeg) dX4_goOnWith_76 rfl (by decide) rfl (b2 c1) rfl ?_
    refine jr_aload_n (pc' := 78) (i := 0) dX4_goOnWith_77 rfl rfl rfl ?_
    refine jr_get (pc' := 81) jK4 (k := 24) (j := 5) (v := .ref 27) wfX4_23 dX4_goOnWith_78 rfl (by decide) rfl (by decide) rfl ?_
    refine jr_iload (pc' := 83) (i := 4) dX4_goOnWith_81 rfl rfl ?_
    refine jr_aload_n (pc' := 84) (i := 0) dX4_goOnWith_83 rfl rfl rfl ?_
    refine jr_get (pc' := 87) jK4 (k := 24) (j := 0) (v := .ref 3) wfX4_42 dX4_goOnWith_84 rfl (by decide) rfl (by decide) rfl ?_
    refine jr_aload_n (pc' := 88) (i := 0) dX4_goOnWith_87 rfl rfl rfl ?_
    refine jr_get (pc' := 91) jK4 (k := 24) (j := 5) (v := .ref 27) wfX4_23 dX4_goOnWith_88 rfl (by decide) rfl (by decide) rfl ?_
    refine jr_iload (pc' := 93) (i := 4) dX4_goOnWith_91 rfl rfl ?_
    refine jr_lald (pc' := 94) (v := h.2 27 a4.toNatClampNeg) dX4_goOnWith_93 rfl (by decide) rfl (b3 c1) rfl ?_
    refine jr_lload (pc' := 96) (i := 5) dX4_goOnWith_94 rfl rfl ?_
    refine jr_callV (pc' := 99) (k := 3) (av := [.long (h.2 27 a4.toNatClampNeg), .long ((f_LdcellsFor (h.2 9) (h.1 25 a4.toNatClampNeg) a3) ||| (h.2 24 3))]) (st := [.int a4, .ref 27]) sX2_spread wmX4_75 dX4_goOnWith_96 rfl (by decide) rfl (by decide) rfl rfl rfl (Nat.le_of_ble_eq_true rfl) rfl (c_Ldspread (n := n) (h.2 27 a4.toNatClampNeg) ((f_LdcellsFor (h.2 9) (h.1 25 a4.toNatClampNeg) a3) ||| (h.2 24 3)) (jPL h 26 a4.toNatClampNeg (f_Ldspread (h.1 3 0) (h.2 3 7) (h.2 3 8) (h.2 26 a4.toNatClampNeg) ((f_LdcellsFor (h.2 9) (h.1 25 a4.toNatClampNeg) a3) ||| (h.2 24 3)))) ) (fun v h2 hp => ?_)
    rw [hp.1, hp.2]
    show jG E mX4_goOnWith (n + 1) X Post 99 [some (.ref 24), some (.int a1), none, some (.int a3), some (.int a4), some (.long ((f_LdcellsFor (h.2 9) (h.1 25 a4.toNatClampNeg) a3) ||| (h.2 24 3))), none] [.long (f_Ldspread (h.1 3 0) (h.2 3 7) (h.2 3 8) (h.2 27 a4.toNatClampNeg) ((f_LdcellsFor (h.2 9) (h.1 25 a4.toNatClampNeg) a3) ||| (h.2 24 3))), .int a4, .ref 27] (jPL h 26 a4.toNatClampNeg (f_Ldspread (h.1 3 0) (h.2 3 7) (h.2 3 8) (h.2 26 a4.toNatClampNeg) ((f_LdcellsFor (h.2 9) (h.1 25 a4.toNatClampNeg) a3) ||| (h.2 24 3))))
    refine jr_last (pc' := 100) (j := a4.toNatClampNeg) dX4_goOnWith_99 rfl (by decide) rfl (b4 c1) rfl ?_
    refine jr_iinc (pc' := 103) (i := 4) (v := (a4 + 1)) (lv' := [some (.ref 24), some (.int a1), none, some (.int a3), some (.int (a4 + 1)), some (.long ((f_LdcellsFor (h.2 9) (h.1 25 a4.toNatClampNeg) a3) ||| (h.2 24 3))), none]) dX4_goOnWith_100 rfl rfl (congrArg (a4 + ·) (by decide)) (by decide) rfl ?_
    refine jr_goto (pc' := 20) dX4_goOnWith_103 rfl ?_
    exact jG.weak (lv' := [some (.ref 24), some (.int a1), none, some (.int a3), some (.int (a4 + 1)), none, none]) ⟨rfl, rfl, rfl, rfl, trivial⟩ (k1 c1)

theorem q_OlgoOnWith_111 {E : jEnv} {n : Nat} {X : State → Prop} {Post : Option Value → HP → Prop}  (h : HP)
    (k0 : Post none h)
    : jG E mX4_goOnWith (n + 1) X Post 111 [none, none, none, none, none, none, none] [] h := by
  exact jr_vret dX4_goOnWith_111 rfl (k0)

theorem q_OlhoursToCastle_0 {E : jEnv} {n : Nat} {X : State → Prop} {Post : Option Value → HP → Prop} (x : Int32) (y : Int32) (h : HP)
    (k0 : jCall E mX4_beginWith n [.ref 24, .int x] h (fun v h2 => jG E mX4_hoursToCastle (n + 1) X Post 5 [some (.ref 24), some (.int x), some (.int y), none] (v.toList ++ []) h2))
    : jG E mX4_hoursToCastle (n + 1) X Post 0 [some (.ref 24), some (.int x), some (.int y), none] [] h := by
  refine jr_aload_n (pc' := 1) (i := 0) dX4_hoursToCastle_0 rfl rfl rfl ?_
  refine jr_iload_n (pc' := 2) (i := 1) dX4_hoursToCastle_1 rfl rfl rfl ?_
  obtain ⟨P1, hC1, hK1⟩ := k0
  exact jr_callV (pc' := 5) (k := 24) (av := [.int x]) (st := []) sX4_beginWith wmX4_107 dX4_hoursToCastle_2 rfl (by decide) rfl (by decide) rfl rfl rfl (Nat.le_of_ble_eq_true rfl) rfl hC1 (fun v h2 hp => jG.weak (lv' := [some (.ref 24), some (.int x), some (.int y), none]) ⟨rfl, rfl, rfl, trivial⟩ (hK1 v h2 hp))

theorem q_OlhoursToCastle_5 {E : jEnv} {n : Nat} {X : State → Prop} {Post : Option Value → HP → Prop} (a1 : Int32) (a2 : Int32) (h : HP)
    (k0 : jG E mX4_hoursToCastle (n + 1) X Post 7 [some (.ref 24), some (.int a1), some (.int a2), some (.int 0)] [] h)
    : jG E mX4_hoursToCastle (n + 1) X Post 5 [some (.ref 24), some (.int a1), some (.int a2), none] [] h := by
  refine jr_iconst (pc' := 6) (v := 0) dX4_hoursToCastle_5 rfl (by decide) ?_
  refine jr_istore_n (pc' := 7) (i := 3) (lv' := [some (.ref 24), some (.int a1), some (.int a2), some (.int 0)]) dX4_hoursToCastle_6 rfl rfl (by decide) rfl ?_
  exact jG.weak (lv' := [some (.ref 24), some (.int a1), some (.int a2), some (.int 0)]) ⟨rfl, rfl, rfl, rfl, trivial⟩ (k0)

theorem q_OlhoursToCastle_7 {E : jEnv} {n : Nat} {X : State → Prop} {Post : Option Value → HP → Prop} (a1 : Int32) (a2 : Int32) (a3 : Int32) (h : HP)
    (k0 : (a2 < a3) → Post (some (.int (-1))) h)
    (k1 : (¬ a2 < a3) → (a3 ≤ 0) → jCall E mX4_bearer n [.ref 24] h (fun v h2 => jG E mX4_hoursToCastle (n + 1) X Post 26 [some (.ref 24), some (.int a1), some (.int a2), some (.int a3)] (v.toList ++ []) h2))
    (k2 : (¬ a2 < a3) → (¬ a3 ≤ 0) → jCall E mX4_goOnWith n [.ref 24, .int a1, .int a3] h (fun v h2 => jG E mX4_hoursToCastle (n + 1) X Post 22 [some (.ref 24), some (.int a1), some (.int a2), some (.int a3)] (v.toList ++ []) h2))
    : jG E mX4_hoursToCastle (n + 1) X Post 7 [some (.ref 24), some (.int a1), some (.int a2), some (.int a3)] [] h := by
  refine jr_iload_n (pc' := 8) (i := 3) dX4_hoursToCastle_7 rfl rfl rfl ?_
  refine jr_iload_n (pc' := 9) (i := 2) dX4_hoursToCastle_8 rfl rfl rfl ?_
  by_cases c1 : a2 < a3
  · refine jr_icmp_gtT (pc' := 38) dX4_hoursToCastle_9 rfl c1 ?_
    refine jr_iconst (pc' := 39) (v := (-1)) dX4_hoursToCastle_38 rfl (by decide) ?_
    exact jr_iret dX4_hoursToCastle_39 rfl rfl (k0 c1)
  · refine jr_icmp_gtF (pc' := 12) (tgt := 38) dX4_hoursToCastle_9 rfl rfl c1 ?_
    refine jr_iload_n (pc' := 13) (i := 3) dX4_hoursToCastle_12 rfl rfl rfl ?_
    by_cases c2 : a3 ≤ 0
    · refine jr_if_leT (pc' := 22) dX4_hoursToCastle_13 rfl c2 ?_
      refine jr_aload_n (pc' := 23) (i := 0) dX4_hoursToCastle_22 rfl rfl rfl ?_
      obtain ⟨P1, hC1, hK1⟩ := k1 c1 c2
      exact jr_callV (pc' := 26) (k := 24) (av := []) (st := []) sX4_bearer wmX4_114 dX4_hoursToCastle_23 rfl (by decide) rfl (by decide) rfl rfl rfl (Nat.le_of_ble_eq_true rfl) rfl hC1 (fun v h2 hp => jG.weak (lv' := [some (.ref 24), some (.int a1), some (.int a2), some (.int a3)]) ⟨rfl, rfl, rfl, rfl, trivial⟩ (hK1 v h2 hp))
    · refine jr_if_leF (pc' := 16) (tgt := 22) dX4_hoursToCastle_13 rfl rfl c2 ?_
      refine jr_aload_n (pc' := 17) (i := 0) dX4_hoursToCastle_16 rfl rfl rfl ?_
      refine jr_iload_n (pc' := 18) (i := 1) dX4_hoursToCastle_17 rfl rfl rfl ?_
      refine jr_iload_n (pc' := 19) (i := 3) dX4_hoursToCastle_18 rfl rfl rfl ?_
      obtain ⟨P1, hC1, hK1⟩ := k2 c1 c2
      exact jr_callV (pc' := 22) (k := 24) (av := [.int a1, .int a3]) (st := []) sX4_goOnWith wmX4_110 dX4_hoursToCastle_19 rfl (by decide) rfl (by decide) rfl rfl rfl (Nat.le_of_ble_eq_true rfl) rfl hC1 (fun v h2 hp => jG.weak (lv' := [some (.ref 24), some (.int a1), some (.int a2), some (.int a3)]) ⟨rfl, rfl, rfl, rfl, trivial⟩ (hK1 v h2 hp))

theorem q_OlhoursToCastle_26 {E : jEnv} {n : Nat} {X : State → Prop} {Post : Option Value → HP → Prop} (a1 : Int32) (a2 : Int32) (a3 : Int32) (s0 : Int32) (h : HP)
    (k0 : (s0 = (-1)) → jG E mX4_hoursToCastle (n + 1) X Post 7 [some (.ref 24), some (.int a1), some (.int a2), some (.int (a3 + 1))] [] h)
    (k1 : (¬ s0 = (-1)) → Post (some (.int a3)) h)
    : jG E mX4_hoursToCastle (n + 1) X Post 26 [some (.ref 24), some (.int a1), some (.int a2), some (.int a3)] [.int s0] h := by
  refine jr_iconst (pc' := 27) (v := (-1)) dX4_hoursToCastle_26 rfl (by decide) ?_
  by_cases c1 : s0 = (-1)
  · refine jr_icmp_eqT (pc' := 32) dX4_hoursToCastle_27 rfl c1 ?_
    refine jr_iinc (pc' := 35) (i := 3) (v := (a3 + 1)) (lv' := [some (.ref 24), some (.int a1), some (.int a2), some (.int (a3 + 1))]) dX4_hoursToCastle_32 rfl rfl (congrArg (a3 + ·) (by decide)) (by decide) rfl ?_
    refine jr_goto (pc' := 7) dX4_hoursToCastle_35 rfl ?_
    exact jG.weak (lv' := [some (.ref 24), some (.int a1), some (.int a2), some (.int (a3 + 1))]) ⟨rfl, rfl, rfl, rfl, trivial⟩ (k0 c1)
  · refine jr_icmp_eqF (pc' := 30) (tgt := 32) dX4_hoursToCastle_27 rfl rfl c1 ?_
    refine jr_iload_n (pc' := 31) (i := 3) dX4_hoursToCastle_30 rfl rfl rfl ?_
    exact jr_iret dX4_hoursToCastle_31 rfl rfl (k1 c1)

theorem q_OlhoursToCastle_22 {E : jEnv} {n : Nat} {X : State → Prop} {Post : Option Value → HP → Prop} (a1 : Int32) (a2 : Int32) (a3 : Int32) (h : HP)
    (k0 : jCall E mX4_bearer n [.ref 24] h (fun v h2 => jG E mX4_hoursToCastle (n + 1) X Post 26 [some (.ref 24), some (.int a1), some (.int a2), some (.int a3)] (v.toList ++ []) h2))
    : jG E mX4_hoursToCastle (n + 1) X Post 22 [some (.ref 24), some (.int a1), some (.int a2), some (.int a3)] [] h := by
  refine jr_aload_n (pc' := 23) (i := 0) dX4_hoursToCastle_22 rfl rfl rfl ?_
  obtain ⟨P1, hC1, hK1⟩ := k0
  exact jr_callV (pc' := 26) (k := 24) (av := []) (st := []) sX4_bearer wmX4_114 dX4_hoursToCastle_23 rfl (by decide) rfl (by decide) rfl rfl rfl (Nat.le_of_ble_eq_true rfl) rfl hC1 (fun v h2 hp => jG.weak (lv' := [some (.ref 24), some (.int a1), some (.int a2), some (.int a3)]) ⟨rfl, rfl, rfl, rfl, trivial⟩ (hK1 v h2 hp))

theorem q_Olbearer_0 {E : jEnv} {n : Nat} {X : State → Prop} {Post : Option Value → HP → Prop}  (h : HP)
    (k0 : jG E mX4_bearer (n + 1) X Post 2 [some (.ref 24), some (.int 0)] [] h)
    : jG E mX4_bearer (n + 1) X Post 0 [some (.ref 24), none] [] h := by
  refine jr_iconst (pc' := 1) (v := 0) dX4_bearer_0 rfl (by decide) ?_
  refine jr_istore_n (pc' := 2) (i := 1) (lv' := [some (.ref 24), some (.int 0)]) dX4_bearer_1 rfl rfl (by decide) rfl ?_
  exact jG.weak (lv' := [some (.ref 24), some (.int 0)]) ⟨rfl, rfl, trivial⟩ (k0)

theorem q_Olbearer_2 {E : jEnv} {n : Nat} {X : State → Prop} {Post : Option Value → HP → Prop} (a1 : Int32) (h : HP)
    (k0 : ((h.1 3 3) ≤ a1) → Post (some (.int (-1))) h)
    (b0 : (¬ (h.1 3 3) ≤ a1) → vp_in a1 4)
    (k1 : (¬ (h.1 3 3) ≤ a1) → ((f_Shhas (h.2 27 a1.toNatClampNeg) (h.1 3 5)) = 0) → jG E mX4_bearer (n + 1) X Post 2 [some (.ref 24), some (.int (a1 + 1))] [] h)
    (k2 : (¬ (h.1 3 3) ≤ a1) → (¬ (f_Shhas (h.2 27 a1.toNatClampNeg) (h.1 3 5)) = 0) → Post (some (.int a1)) h)
    : jG E mX4_bearer (n + 1) X Post 2 [some (.ref 24), some (.int a1)] [] h := by
  refine jr_iload_n (pc' := 3) (i := 1) dX4_bearer_2 rfl rfl rfl ?_
  refine jr_aload_n (pc' := 4) (i := 0) dX4_bearer_3 rfl rfl rfl ?_
  refine jr_get (pc' := 7) jK4 (k := 24) (j := 0) (v := .ref 3) wfX4_42 dX4_bearer_4 rfl (by decide) rfl (by decide) rfl ?_
  refine jr_get (pc' := 10) jK2 (k := 3) (j := 3) (v := .int (h.1 3 3)) wfX4_90 dX4_bearer_7 rfl (by decide) rfl (by decide) rfl ?_
  by_cases c1 : (h.1 3 3) ≤ a1
  · refine jr_icmp_geT (pc' := 40) dX4_bearer_10 rfl c1 ?_
    refine jr_iconst (pc' := 41) (v := (-1)) dX4_bearer_40 rfl (by decide) ?_
    exact jr_iret dX4_bearer_41 rfl rfl (k0 c1)
  · refine jr_icmp_geF (pc' := 13) (tgt := 40) dX4_bearer_10 rfl rfl c1 ?_
    refine jr_aload_n (pc' := 14) (i := 0) dX4_bearer_13 rfl rfl rfl ?_
    refine jr_get (pc' := 17) jK4 (k := 24) (j := 5) (v := .ref 27) wfX4_23 dX4_bearer_14 rfl (by decide) rfl (by decide) rfl ?_
    refine jr_iload_n (pc' := 18) (i := 1) dX4_bearer_17 rfl rfl rfl ?_
    refine jr_lald (pc' := 19) (v := h.2 27 a1.toNatClampNeg) dX4_bearer_18 rfl (by decide) rfl (b0 c1) rfl ?_
    refine jr_aload_n (pc' := 20) (i := 0) dX4_bearer_19 rfl rfl rfl ?_
    refine jr_get (pc' := 23) jK4 (k := 24) (j := 0) (v := .ref 3) wfX4_42 dX4_bearer_20 rfl (by decide) rfl (by decide) rfl ?_
    refine jr_get (pc' := 26) jK2 (k := 3) (j := 5) (v := .int (h.1 3 5)) wfX4_118 dX4_bearer_23 rfl (by decide) rfl (by decide) rfl ?_
    refine jr_callSN (pc' := 29) (av := [.long (h.2 27 a1.toNatClampNeg), .int (h.1 3 5)]) (st := []) sX7_has (host := "StiltHeralds") (by decide +kernel) dX4_bearer_26 rfl rfl (Nat.le_of_ble_eq_true rfl) rfl (c_Shhas (n := n) (h.2 27 a1.toNatClampNeg) (h.1 3 5) h ) (fun v h2 hp => ?_)
    rw [hp.1, hp.2]
    show jG E mX4_bearer (n + 1) X Post 29 [some (.ref 24), some (.int a1)] [.int (f_Shhas (h.2 27 a1.toNatClampNeg) (h.1 3 5))] h
    by_cases c2 : (f_Shhas (h.2 27 a1.toNatClampNeg) (h.1 3 5)) = 0
    · refine jr_if_eqT (pc' := 34) dX4_bearer_29 rfl c2 ?_
      refine jr_iinc (pc' := 37) (i := 1) (v := (a1 + 1)) (lv' := [some (.ref 24), some (.int (a1 + 1))]) dX4_bearer_34 rfl rfl (congrArg (a1 + ·) (by decide)) (by decide) rfl ?_
      refine jr_goto (pc' := 2) dX4_bearer_37 rfl ?_
      exact jG.weak (lv' := [some (.ref 24), some (.int (a1 + 1))]) ⟨rfl, rfl, trivial⟩ (k1 c1 c2)
    · refine jr_if_eqF (pc' := 32) (tgt := 34) dX4_bearer_29 rfl rfl c2 ?_
      refine jr_iload_n (pc' := 33) (i := 1) dX4_bearer_32 rfl rfl rfl ?_
      exact jr_iret dX4_bearer_33 rfl rfl (k2 c1 c2)

theorem q_OlleastCuts_0 {E : jEnv} {n : Nat} {X : State → Prop} {Post : Option Value → HP → Prop} (x : Int32) (y : Int32) (h : HP)
    (k0 : jCall E mJ7_fill_53178 (n + 1) [.ref 25, .int 0] (jPI (jPL (jPA h 25 (va_cpy ((h.1 20)) ((h.1 25)) (0 : Int32).toNatClampNeg (0 : Int32).toNatClampNeg (4 : Int32).toNatClampNeg)) 24 3 (h.2 18 3)) 24 8 (-1)) (fun v h2 => jG E mX4_leastCuts (n + 2) X Post 17 [some (.ref 24), some (.int x), some (.int y)] (v.toList ++ []) h2))
    : jG E mX4_leastCuts (n + 2) X Post 0 [some (.ref 24), some (.int x), some (.int y)] [] h := by
  refine jr_aload_n (pc' := 1) (i := 0) dX4_leastCuts_0 rfl rfl rfl ?_
  refine jr_callV (pc' := 4) (k := 24) (av := []) (st := []) sX4_takeAsItIs wmX4_121 dX4_leastCuts_1 rfl (by decide) rfl (by decide) rfl rfl rfl (Nat.le_of_ble_eq_true rfl) rfl (c_OltakeAsItIs (n := n)  h ) (fun v h2 hp => ?_)
  rw [hp.1, hp.2]
  show jG E mX4_leastCuts (n + 2) X Post 4 [some (.ref 24), some (.int x), some (.int y)] [] (jPL (jPA h 25 (va_cpy ((h.1 20)) ((h.1 25)) (0 : Int32).toNatClampNeg (0 : Int32).toNatClampNeg (4 : Int32).toNatClampNeg)) 24 3 (h.2 18 3))
  refine jr_aload_n (pc' := 5) (i := 0) dX4_leastCuts_4 rfl rfl rfl ?_
  refine jr_iconst (pc' := 6) (v := (-1)) dX4_leastCuts_5 rfl (by decide) ?_
  refine jr_putI (pc' := 9) jK4 (k := 24) (j := 8) wfX4_32 dX4_leastCuts_6 rfl (by decide) rfl (by decide) (by decide) rfl rfl rfl ?_
  refine jr_aload_n (pc' := 10) (i := 0) dX4_leastCuts_9 rfl rfl rfl ?_
  refine jr_get (pc' := 13) jK4 (k := 24) (j := 2) (v := .ref 25) wfX4_9 dX4_leastCuts_10 rfl (by decide) rfl (by decide) rfl ?_
  refine jr_iconst (pc' := 14) (v := 0) dX4_leastCuts_13 rfl (by decide) ?_
  obtain ⟨P1, hC1, hK1⟩ := k0
  exact jr_callS (pc' := 17) (av := [.ref 25, .int 0]) (st := []) sJ7_fill_53178 wmX4_134 dX4_leastCuts_14 rfl rfl (Nat.le_of_ble_eq_true rfl) rfl hC1 (fun v h2 hp => jG.weak (lv' := [some (.ref 24), some (.int x), some (.int y)]) ⟨rfl, rfl, rfl, trivial⟩ (hK1 v h2 hp))

theorem q_OlleastCuts_17 {E : jEnv} {n : Nat} {X : State → Prop} {Post : Option Value → HP → Prop} (a1 : Int32) (a2 : Int32) (h : HP)
    (k0 : jCall E mX4_hoursToCastle (n + 1) [.ref 24, .int a1, .int a2] h (fun v h2 => jG E mX4_leastCuts (n + 2) X Post 23 [some (.ref 24), some (.int a1), some (.int a2)] (v.toList ++ []) h2))
    : jG E mX4_leastCuts (n + 2) X Post 17 [some (.ref 24), some (.int a1), some (.int a2)] [] h := by
  refine jr_aload_n (pc' := 18) (i := 0) dX4_leastCuts_17 rfl rfl rfl ?_
  refine jr_iload_n (pc' := 19) (i := 1) dX4_leastCuts_18 rfl rfl rfl ?_
  refine jr_iload_n (pc' := 20) (i := 2) dX4_leastCuts_19 rfl rfl rfl ?_
  obtain ⟨P1, hC1, hK1⟩ := k0
  exact jr_callV (pc' := 23) (k := 24) (av := [.int a1, .int a2]) (st := []) sX4_hoursToCastle wmX4_124 dX4_leastCuts_20 rfl (by decide) rfl (by decide) rfl rfl rfl (Nat.le_of_ble_eq_true rfl) rfl hC1 (fun v h2 hp => jG.weak (lv' := [some (.ref 24), some (.int a1), some (.int a2)]) ⟨rfl, rfl, rfl, trivial⟩ (hK1 v h2 hp))

theorem q_OlleastCuts_23 {E : jEnv} {n : Nat} {X : State → Prop} {Post : Option Value → HP → Prop} (a1 : Int32) (a2 : Int32) (s0 : Int32) (h : HP)
    (k0 : (s0 = (-1)) → jCall E mX4_tryCuts (n + 1) [.ref 24, .int a1, .int a2, .int 0, .int 0] h (fun v h2 => jG E mX4_leastCuts (n + 2) X Post 35 [some (.ref 24), none, none] (v.toList ++ []) h2))
    (k1 : (¬ s0 = (-1)) → Post (some (.int (h.1 24 8))) h)
    : jG E mX4_leastCuts (n + 2) X Post 23 [some (.ref 24), some (.int a1), some (.int a2)] [.int s0] h := by
  refine jr_iconst (pc' := 24) (v := (-1)) dX4_leastCuts_23 rfl (by decide) ?_
  by_cases c1 : s0 = (-1)
  · refine jr_icmp_neF (pc' := 27) (tgt := 35) dX4_leastCuts_24 rfl rfl c1 ?_
    refine jr_aload_n (pc' := 28) (i := 0) dX4_leastCuts_27 rfl rfl rfl ?_
    refine jr_iload_n (pc' := 29) (i := 1) dX4_leastCuts_28 rfl rfl rfl ?_
    refine jr_iload_n (pc' := 30) (i := 2) dX4_leastCuts_29 rfl rfl rfl ?_
    refine jr_iconst (pc' := 31) (v := 0) dX4_leastCuts_30 rfl (by decide) ?_
    refine jr_iconst (pc' := 32) (v := 0) dX4_leastCuts_31 rfl (by decide) ?_
    obtain ⟨P1, hC1, hK1⟩ := k0 c1
    exact jr_callV (pc' := 35) (k := 24) (av := [.int a1, .int a2, .int 0, .int 0]) (st := []) sX4_tryCuts wmX4_140 dX4_leastCuts_32 rfl (by decide) rfl (by decide) rfl rfl rfl (Nat.le_of_ble_eq_true rfl) rfl hC1 (fun v h2 hp => jG.weak (lv' := [some (.ref 24), none, none]) ⟨rfl, trivial⟩ (hK1 v h2 hp))
  · refine jr_icmp_neT (pc' := 35) dX4_leastCuts_24 rfl c1 ?_
    refine jr_aload_n (pc' := 36) (i := 0) dX4_leastCuts_35 rfl rfl rfl ?_
    refine jr_get (pc' := 39) jK4 (k := 24) (j := 8) (v := .int (h.1 24 8)) wfX4_32 dX4_leastCuts_36 rfl (by decide) rfl (by decide) rfl ?_
    exact jr_iret dX4_leastCuts_39 rfl rfl (k1 c1)

theorem q_OlleastCuts_35 {E : jEnv} {n : Nat} {X : State → Prop} {Post : Option Value → HP → Prop}  (h : HP)
    (k0 : Post (some (.int (h.1 24 8))) h)
    : jG E mX4_leastCuts (n + 2) X Post 35 [some (.ref 24), none, none] [] h := by
  refine jr_aload_n (pc' := 36) (i := 0) dX4_leastCuts_35 rfl rfl rfl ?_
  refine jr_get (pc' := 39) jK4 (k := 24) (j := 8) (v := .int (h.1 24 8)) wfX4_32 dX4_leastCuts_36 rfl (by decide) rfl (by decide) rfl ?_
  exact jr_iret dX4_leastCuts_39 rfl rfl (k0)

theorem q_OltryCuts_0 {E : jEnv} {n : Nat} {X : State → Prop} {Post : Option Value → HP → Prop} (x : Int32) (y : Int32) (z : Int32) (u : Int32) (h : HP)
    (k0 : ((h.1 3 3) ≤ z) → Post none (jPA (jPI h 24 8 u) 29 (va_cpy (h.1 28) (h.1 29) (0 : Int32).toNatClampNeg (0 : Int32).toNatClampNeg (4 : Int32).toNatClampNeg)))
    (k1 : (¬ (h.1 3 3) ≤ z) → (z < 4) → jG E mX4_tryCuts (n + 1) X Post 40 [some (.ref 24), some (.int x), some (.int y), some (.int z), some (.int u), some (.int 0)] [] h)
    (k2 : (¬ (h.1 3 3) ≤ z) → (¬ z < 4) → Post none (jPA (jPI h 24 8 u) 29 (va_cpy (h.1 28) (h.1 29) (0 : Int32).toNatClampNeg (0 : Int32).toNatClampNeg (4 : Int32).toNatClampNeg)))
    : jG E mX4_tryCuts (n + 1) X Post 0 [some (.ref 24), some (.int x), some (.int y), some (.int z), some (.int u), none] [] h := by
  refine jr_iload_n (pc' := 1) (i := 3) dX4_tryCuts_0 rfl rfl rfl ?_
  refine jr_aload_n (pc' := 2) (i := 0) dX4_tryCuts_1 rfl rfl rfl ?_
  refine jr_get (pc' := 5) jK4 (k := 24) (j := 0) (v := .ref 3) wfX4_42 dX4_tryCuts_2 rfl (by decide) rfl (by decide) rfl ?_
  refine jr_get (pc' := 8) jK2 (k := 3) (j := 3) (v := .int (h.1 3 3)) wfX4_90 dX4_tryCuts_5 rfl (by decide) rfl (by decide) rfl ?_
  by_cases c1 : (h.1 3 3) ≤ z
  · refine jr_icmp_geT (pc' := 16) dX4_tryCuts_8 rfl c1 ?_
    refine jr_aload_n (pc' := 17) (i := 0) dX4_tryCuts_16 rfl rfl rfl ?_
    refine jr_iload (pc' := 19) (i := 4) dX4_tryCuts_17 rfl rfl ?_
    refine jr_putI (pc' := 22) jK4 (k := 24) (j := 8) wfX4_32 dX4_tryCuts_19 rfl (by decide) rfl (by decide) (by decide) rfl rfl rfl ?_
    refine jr_aload_n (pc' := 23) (i := 0) dX4_tryCuts_22 rfl rfl rfl ?_
    refine jr_get (pc' := 26) jK4 (k := 24) (j := 6) (v := .ref 28) wfX4_26 dX4_tryCuts_23 rfl (by decide) rfl (by decide) rfl ?_
    refine jr_iconst (pc' := 27) (v := 0) dX4_tryCuts_26 rfl (by decide) ?_
    refine jr_aload_n (pc' := 28) (i := 0) dX4_tryCuts_27 rfl rfl rfl ?_
    refine jr_get (pc' := 31) jK4 (k := 24) (j := 7) (v := .ref 29) wfX4_29 dX4_tryCuts_28 rfl (by decide) rfl (by decide) rfl ?_
    refine jr_iconst (pc' := 32) (v := 0) dX4_tryCuts_31 rfl (by decide) ?_
    refine jr_iconst (pc' := 33) (v := 4) dX4_tryCuts_32 rfl (by decide) ?_
    refine jr_copy (pc' := 36) wmX4_55 wAcN wAcS wAcI dX4_tryCuts_33 rfl (by omega) (by decide) rfl (by decide) rfl (by decide) (by decide) (by decide) (by decide) (by decide) (Nat.le_of_ble_eq_true rfl) ?_
    exact jr_vret dX4_tryCuts_36 rfl (k0 c1)
  · refine jr_icmp_geF (pc' := 11) (tgt := 16) dX4_tryCuts_8 rfl rfl c1 ?_
    refine jr_iload_n (pc' := 12) (i := 3) dX4_tryCuts_11 rfl rfl rfl ?_
    refine jr_iconst (pc' := 13) (v := 4) dX4_tryCuts_12 rfl (by decide) ?_
    by_cases c2 : z < 4
    · refine jr_icmp_ltT (pc' := 37) dX4_tryCuts_13 rfl c2 ?_
      refine jr_iconst (pc' := 38) (v := 0) dX4_tryCuts_37 rfl (by decide) ?_
      refine jr_istore (pc' := 40) (i := 5) (lv' := [some (.ref 24), some (.int x), some (.int y), some (.int z), some (.int u), some (.int 0)]) dX4_tryCuts_38 rfl (by decide) rfl ?_
      exact jG.weak (lv' := [some (.ref 24), some (.int x), some (.int y), some (.int z), some (.int u), some (.int 0)]) ⟨rfl, rfl, rfl, rfl, rfl, rfl, trivial⟩ (k1 c1 c2)
    · refine jr_icmp_ltF (pc' := 16) (tgt := 37) dX4_tryCuts_13 rfl rfl c2 ?_
      refine jr_aload_n (pc' := 17) (i := 0) dX4_tryCuts_16 rfl rfl rfl ?_
      refine jr_iload (pc' := 19) (i := 4) dX4_tryCuts_17 rfl rfl ?_
      refine jr_putI (pc' := 22) jK4 (k := 24) (j := 8) wfX4_32 dX4_tryCuts_19 rfl (by decide) rfl (by decide) (by decide) rfl rfl rfl ?_
      refine jr_aload_n (pc' := 23) (i := 0) dX4_tryCuts_22 rfl rfl rfl ?_
      refine jr_get (pc' := 26) jK4 (k := 24) (j := 6) (v := .ref 28) wfX4_26 dX4_tryCuts_23 rfl (by decide) rfl (by decide) rfl ?_
      refine jr_iconst (pc' := 27) (v := 0) dX4_tryCuts_26 rfl (by decide) ?_
      refine jr_aload_n (pc' := 28) (i := 0) dX4_tryCuts_27 rfl rfl rfl ?_
      refine jr_get (pc' := 31) jK4 (k := 24) (j := 7) (v := .ref 29) wfX4_29 dX4_tryCuts_28 rfl (by decide) rfl (by decide) rfl ?_
      refine jr_iconst (pc' := 32) (v := 0) dX4_tryCuts_31 rfl (by decide) ?_
      refine jr_iconst (pc' := 33) (v := 4) dX4_tryCuts_32 rfl (by decide) ?_
      refine jr_copy (pc' := 36) wmX4_55 wAcN wAcS wAcI dX4_tryCuts_33 rfl (by omega) (by decide) rfl (by decide) rfl (by decide) (by decide) (by decide) (by decide) (by decide) (Nat.le_of_ble_eq_true rfl) ?_
      exact jr_vret dX4_tryCuts_36 rfl (k2 c1 c2)

set_option maxRecDepth 4000 in
theorem q_OltryCuts_40 {E : jEnv} {n : Nat} {X : State → Prop} {Post : Option Value → HP → Prop} (a1 : Int32) (a2 : Int32) (a3 : Int32) (a4 : Int32) (a5 : Int32) (h : HP)
    (b0 : vp_in a3 4)
    (b1 : ((h.1 20 a3.toNatClampNeg) < a5) → vp_in a3 4)
    (k0 : ((h.1 20 a3.toNatClampNeg) < a5) → Post none (jPI h 25 a3.toNatClampNeg 0))
    (b2 : (¬ (h.1 20 a3.toNatClampNeg) < a5) → ((h.1 24 8) = (-1)) → vp_in a3 4)
    (b3 : (¬ (h.1 20 a3.toNatClampNeg) < a5) → ((h.1 24 8) = (-1)) → vp_in a3 4)
    (b4 : (¬ (h.1 20 a3.toNatClampNeg) < a5) → ((h.1 24 8) = (-1)) → vp_in a3 4)
    (k1 : (¬ (h.1 20 a3.toNatClampNeg) < a5) → ((h.1 24 8) = (-1)) → jCall E mX4_hoursToCastle n [.ref 24, .int a1, .int a2] (jPI (jPI h 28 a3.toNatClampNeg a5) 25 a3.toNatClampNeg ((h.1 20 a3.toNatClampNeg) - a5)) (fun v h2 => jG E mX4_tryCuts (n + 1) X Post 109 [some (.ref 24), some (.int a1), some (.int a2), some (.int a3), some (.int a4), some (.int a5)] (v.toList ++ []) h2))
    (b5 : (¬ (h.1 20 a3.toNatClampNeg) < a5) → (¬ (h.1 24 8) = (-1)) → ((a4 + a5) < (h.1 24 8)) → vp_in a3 4)
    (b6 : (¬ (h.1 20 a3.toNatClampNeg) < a5) → (¬ (h.1 24 8) = (-1)) → ((a4 + a5) < (h.1 24 8)) → vp_in a3 4)
    (b7 : (¬ (h.1 20 a3.toNatClampNeg) < a5) → (¬ (h.1 24 8) = (-1)) → ((a4 + a5) < (h.1 24 8)) → vp_in a3 4)
    (k2 : (¬ (h.1 20 a3.toNatClampNeg) < a5) → (¬ (h.1 24 8) = (-1)) → ((a4 + a5) < (h.1 24 8)) → jCall E mX4_hoursToCastle n [.ref 24, .int a1, .int a2] (jPI (jPI h 28 a3.toNatClampNeg a5) 25 a3.toNatClampNeg ((h.1 20 a3.toNatClampNeg) - a5)) (fun v h2 => jG E mX4_tryCuts (n + 1) X Post 109 [some (.ref 24), some (.int a1), some (.int a2), some (.int a3), some (.int a4), some (.int a5)] (v.toList ++ []) h2))
    (b8 : (¬ (h.1 20 a3.toNatClampNeg) < a5) → (¬ (h.1 24 8) = (-1)) → (¬ (a4 + a5) < (h.1 24 8)) → vp_in a3 4)
    (k3 : (¬ (h.1 20 a3.toNatClampNeg) < a5) → (¬ (h.1 24 8) = (-1)) → (¬ (a4 + a5) < (h.1 24 8)) → Post none (jPI h 25 a3.toNatClampNeg 0))
    : jG E mX4_tryCuts (n + 1) X Post 40 [some (.ref 24), some (.int a1), some (.int a2), some (.int a3), some (.int a4), some (.int a5)] [] h := by
  refine jr_iload (pc' := 42) (i := 5) dX4_tryCuts_40 rfl rfl ?_
  refine jr_aload_n (pc' := 43) (i := 0) dX4_tryCuts_42 rfl rfl rfl ?_
  refine jr_get (pc' := 46) jK4 (k := 24) (j := 1) (v := .ref 18) wfX4_46 dX4_tryCuts_43 rfl (by decide) rfl (by decide) rfl ?_
  refine jr_get (pc' := 49) jK5 (k := 18) (j := 5) (v := .ref 20) wfX4_50 dX4_tryCuts_46 rfl (by decide) rfl (by decide) rfl ?_
  refine jr_iload_n (pc' := 50) (i := 3) dX4_tryCuts_49 rfl rfl rfl ?_
  refine jr_iald (pc' := 51) (v := h.1 20 a3.toNatClampNeg) dX4_tryCuts_50 rfl (by decide) rfl (b0) rfl ?_
  by_cases c1 : (h.1 20 a3.toNatClampNeg) < a5
  · refine jr_icmp_gtT (pc' := 133) dX4_tryCuts_51 rfl c1 ?_
    refine jr_aload_n (pc' := 134) (i := 0) dX4_tryCuts_133 rfl rfl rfl ?_
    refine jr_get (pc' := 137) jK4 (k := 24) (j := 2) (v := .ref 25) wfX4_9 dX4_tryCuts_134 rfl (by decide) rfl (by decide) rfl ?_
    refine jr_iload_n (pc' := 138) (i := 3) dX4_tryCuts_137 rfl rfl rfl ?_
    refine jr_iconst (pc' := 139) (v := 0) dX4_tryCuts_138 rfl (by decide) ?_
    refine jr_iast (pc' := 140) (j := a3.toNatClampNeg) dX4_tryCuts_139 rfl (by decide) rfl (b1 c1) rfl ?_
    exact jr_vret dX4_tryCuts_140 rfl (k0 c1)
  · refine jr_icmp_gtF (pc' := 54) (tgt := 133) dX4_tryCuts_51 rfl rfl c1 ?_
    refine jr_aload_n (pc' := 55) (i := 0) dX4_tryCuts_54 rfl rfl rfl ?_
    refine jr_get (pc' := 58) jK4 (k := 24) (j := 8) (v := .int (h.1 24 8)) wfX4_32 dX4_tryCuts_55 rfl (by decide) rfl (by decide) rfl ?_
    refine jr_iconst (pc' := 59) (v := (-1)) dX4_tryCuts_58 rfl (by decide) ?_
    by_cases c2 : (h.1 24 8) = (-1)
    · refine jr_icmp_eqT (pc' := 77) dX4_tryCuts_59 rfl c2 ?_
      refine jr_aload_n (pc' := 78) (i := 0) dX4_tryCuts_77 rfl rfl rfl ?_
      refine jr_get (pc' := 81) jK4 (k := 24) (j := 6) (v := .ref 28) wfX4_26 dX4_tryCuts_78 rfl (by decide) rfl (by decide) rfl ?_
      refine jr_iload_n (pc' := 82) (i := 3) dX4_tryCuts_81 rfl rfl rfl ?_
      refine jr_iload (pc' := 84) (i := 5) dX4_tryCuts_82 rfl rfl ?_
      refine jr_iast (pc' := 85) (j := a3.toNatClampNeg) dX4_tryCuts_84 rfl (by decide) rfl (b2 c1 c2) rfl ?_
      refine jr_aload_n (pc' := 86) (i := 0) dX4_tryCuts_85 rfl rfl rfl ?_
      refine jr_get (pc' := 89) jK4 (k := 24) (j := 2) (v := .ref 25) wfX4_9 dX4_tryCuts_86 rfl (by decide) rfl (by decide) rfl ?_
      refine jr_iload_n (pc' := 90) (i := 3) dX4_tryCuts_89 rfl rfl rfl ?_
      refine jr_aload_n (pc' := 91) (i := 0) dX4_tryCuts_90 rfl rfl rfl ?_
      refine jr_get (pc' := 94) jK4 (k := 24) (j := 1) (v := .ref 18) wfX4_46 dX4_tryCuts_91 rfl (by decide) rfl (by decide) rfl ?_
      refine jr_get (pc' := 97) jK5 (k := 18) (j := 5) (v := .ref 20) wfX4_50 dX4_tryCuts_94 rfl (by decide) rfl (by decide) rfl ?_
      refine jr_iload_n (pc' := 98) (i := 3) dX4_tryCuts_97 rfl rfl rfl ?_
      refine jr_iald (pc' := 99) (v := h.1 20 a3.toNatClampNeg) dX4_tryCuts_98 rfl (by decide) rfl (b3 c1 c2) rfl ?_
      refine jr_iload (pc' := 101) (i := 5) dX4_tryCuts_99 rfl rfl ?_
      refine jr_isub (pc' := 102)  dX4_tryCuts_101 rfl  ?_
      refine jr_iast (pc' := 103) (j := a3.toNatClampNeg) dX4_tryCuts_102 rfl (by decide) rfl (b4 c1 c2) rfl ?_
      refine jr_aload_n (pc' := 104) (i := 0) dX4_tryCuts_103 rfl rfl rfl ?_
      refine jr_iload_n (pc' := 105) (i := 1) dX4_tryCuts_104 rfl rfl rfl ?_
      refine jr_iload_n (pc' := 106) (i := 2) dX4_tryCuts_105 rfl rfl rfl ?_
      obtain ⟨P1, hC1, hK1⟩ := k1 c1 c2
      exact jr_callV (pc' := 109) (k := 24) (av := [.int a1, .int a2]) (st := []) sX4_hoursToCastle wmX4_124 dX4_tryCuts_106 rfl (by decide) rfl (by decide) rfl rfl rfl (Nat.le_of_ble_eq_true rfl) rfl hC1 (fun v h2 hp => jG.weak (lv' := [some (.ref 24), some (.int a1), some (.int a2), some (.int a3), some (.int a4), some (.int a5)]) ⟨rfl, rfl, rfl, rfl, rfl, rfl, trivial⟩ (hK1 v h2 hp))
    · refine jr_icmp_eqF (pc' := 62) (tgt := 77) dX4_tryCuts_59 rfl rfl c2 ?_
      refine jr_iload (pc' := 64) (i := 4) dX4_tryCuts_62 rfl rfl ?_
      refine jr_iload (pc' := 66) (i := 5) dX4_tryCuts_64 rfl rfl ?_
      refine jr_iadd (pc' := 67)  dX4_tryCuts_66 rfl  ?_
      refine jr_aload_n (pc' := 68) (i := 0) dX4_tryCuts_67 rfl rfl rfl ?_
      refine jr_get (pc' := 71) jK4 (k := 24) (j := 8) (v := .int (h.1 24 8)) wfX4_32 dX4_tryCuts_68 rfl (by decide) rfl (by decide) rfl ?_
      by_cases c3 : (a4 + a5) < (h.1 24 8)
      · refine jr_icmp_ltT (pc' := 77) dX4_tryCuts_71 rfl c3 ?_
        refine jr_aload_n (pc' := 78) (i := 0) dX4_tryCuts_77 rfl rfl rfl ?_
        refine jr_get (pc' := 81) jK4 (k := 24) (j := 6) (v := .ref 28) wfX4_26 dX4_tryCuts_78 rfl (by decide) rfl (by decide) rfl ?_
        refine jr_iload_n (pc' := 82) (i := 3) dX4_tryCuts_81 rfl rfl rfl ?_
        refine jr_iload (pc' := 84) (i := 5) dX4_tryCuts_82 rfl rfl ?_
        refine jr_iast (pc' := 85) (j := a3.toNatClampNeg) dX4_tryCuts_84 rfl (by decide) rfl (b5 c1 c2 c3) rfl ?_
        refine jr_aload_n (pc' := 86) (i := 0) dX4_tryCuts_85 rfl rfl rfl ?_
        refine jr_get (pc' := 89) jK4 (k := 24) (j := 2) (v := .ref 25) wfX4_9 dX4_tryCuts_86 rfl (by decide) rfl (by decide) rfl ?_
        refine jr_iload_n (pc' := 90) (i := 3) dX4_tryCuts_89 rfl rfl rfl ?_
        refine jr_aload_n (pc' := 91) (i := 0) dX4_tryCuts_90 rfl rfl rfl ?_
        refine jr_get (pc' := 94) jK4 (k := 24) (j := 1) (v := .ref 18) wfX4_46 dX4_tryCuts_91 rfl (by decide) rfl (by decide) rfl ?_
        refine jr_get (pc' := 97) jK5 (k := 18) (j := 5) (v := .ref 20) wfX4_50 dX4_tryCuts_94 rfl (by decide) rfl (by decide) rfl ?_
        refine jr_iload_n (pc' := 98) (i := 3) dX4_tryCuts_97 rfl rfl rfl ?_
        refine jr_iald (pc' := 99) (v := h.1 20 a3.toNatClampNeg) dX4_tryCuts_98 rfl (by decide) rfl (b6 c1 c2 c3) rfl ?_
        refine jr_iload (pc' := 101) (i := 5) dX4_tryCuts_99 rfl rfl ?_
        refine jr_isub (pc' := 102)  dX4_tryCuts_101 rfl  ?_
        refine jr_iast (pc' := 103) (j := a3.toNatClampNeg) dX4_tryCuts_102 rfl (by decide) rfl (b7 c1 c2 c3) rfl ?_
        refine jr_aload_n (pc' := 104) (i := 0) dX4_tryCuts_103 rfl rfl rfl ?_
        refine jr_iload_n (pc' := 105) (i := 1) dX4_tryCuts_104 rfl rfl rfl ?_
        refine jr_iload_n (pc' := 106) (i := 2) dX4_tryCuts_105 rfl rfl rfl ?_
        obtain ⟨P1, hC1, hK1⟩ := k2 c1 c2 c3
        exact jr_callV (pc' := 109) (k := 24) (av := [.int a1, .int a2]) (st := []) sX4_hoursToCastle wmX4_124 dX4_tryCuts_106 rfl (by decide) rfl (by decide) rfl rfl rfl (Nat.le_of_ble_eq_true rfl) rfl hC1 (fun v h2 hp => jG.weak (lv' := [some (.ref 24), some (.int a1), some (.int a2), some (.int a3), some (.int a4), some (.int a5)]) ⟨rfl, rfl, rfl, rfl, rfl, rfl, trivial⟩ (hK1 v h2 hp))
      · refine jr_icmp_ltF (pc' := 74) (tgt := 77) dX4_tryCuts_71 rfl rfl c3 ?_
        refine jr_goto (pc' := 133) dX4_tryCuts_74 rfl ?_
        refine jr_aload_n (pc' := 134) (i := 0) dX4_tryCuts_133 rfl rfl rfl ?_
        refine jr_get (pc' := 137) jK4 (k := 24) (j := 2) (v := .ref 25) wfX4_9 dX4_tryCuts_134 rfl (by decide) rfl (by decide) rfl ?_
        refine jr_iload_n (pc' := 138) (i := 3) dX4_tryCuts_137 rfl rfl rfl ?_
        refine jr_iconst (pc' := 139) (v := 0) dX4_tryCuts_138 rfl (by decide) ?_
        refine jr_iast (pc' := 140) (j := a3.toNatClampNeg) dX4_tryCuts_139 rfl (by decide) rfl (b8 c1 c2 c3) rfl ?_
        exact jr_vret dX4_tryCuts_140 rfl (k3 c1 c2 c3)

theorem q_OltryCuts_109 {E : jEnv} {n : Nat} {X : State → Prop} {Post : Option Value → HP → Prop} (a1 : Int32) (a2 : Int32) (a3 : Int32) (a4 : Int32) (a5 : Int32) (s0 : Int32) (h : HP)
    (k0 : (s0 = (-1)) → jCall E mX4_tryCuts n [.ref 24, .int a1, .int a2, .int (a3 + 1), .int (a4 + a5)] h (fun v h2 => jG E mX4_tryCuts (n + 1) X Post 127 [some (.ref 24), some (.int a1), some (.int a2), some (.int a3), some (.int a4), some (.int a5)] (v.toList ++ []) h2))
    (k1 : (¬ s0 = (-1)) → jG E mX4_tryCuts (n + 1) X Post 40 [some (.ref 24), some (.int a1), some (.int a2), some (.int a3), some (.int a4), some (.int (a5 + 1))] [] h)
    : jG E mX4_tryCuts (n + 1) X Post 109 [some (.ref 24), some (.int a1), some (.int a2), some (.int a3), some (.int a4), some (.int a5)] [.int s0] h := by
  refine jr_iconst (pc' := 110) (v := (-1)) dX4_tryCuts_109 rfl (by decide) ?_
  by_cases c1 : s0 = (-1)
  · refine jr_icmp_neF (pc' := 113) (tgt := 127) dX4_tryCuts_110 rfl rfl c1 ?_
    refine jr_aload_n (pc' := 114) (i := 0) dX4_tryCuts_113 rfl rfl rfl ?_
    refine jr_iload_n (pc' := 115) (i := 1) dX4_tryCuts_114 rfl rfl rfl ?_
    refine jr_iload_n (pc' := 116) (i := 2) dX4_tryCuts_115 rfl rfl rfl ?_
    refine jr_iload_n (pc' := 117) (i := 3) dX4_tryCuts_116 rfl rfl rfl ?_
    refine jr_iconst (pc' := 118) (v := 1) dX4_tryCuts_117 rfl (by decide) ?_
    refine jr_iadd (pc' := 119)  dX4_tryCuts_118 rfl  ?_
    refine jr_iload (pc' := 121) (i := 4) dX4_tryCuts_119 rfl rfl ?_
    refine jr_iload (pc' := 123) (i := 5) dX4_tryCuts_121 rfl rfl ?_
    refine jr_iadd (pc' := 124)  dX4_tryCuts_123 rfl  ?_
    obtain ⟨P1, hC1, hK1⟩ := k0 c1
    exact jr_callV (pc' := 127) (k := 24) (av := [.int a1, .int a2, .int (a3 + 1), .int (a4 + a5)]) (st := []) sX4_tryCuts wmX4_140 dX4_tryCuts_124 rfl (by decide) rfl (by decide) rfl rfl rfl (Nat.le_of_ble_eq_true rfl) rfl hC1 (fun v h2 hp => jG.weak (lv' := [some (.ref 24), some (.int a1), some (.int a2), some (.int a3), some (.int a4), some (.int a5)]) ⟨rfl, rfl, rfl, rfl, rfl, rfl, trivial⟩ (hK1 v h2 hp))
  · refine jr_icmp_neT (pc' := 127) dX4_tryCuts_110 rfl c1 ?_
    refine jr_iinc (pc' := 130) (i := 5) (v := (a5 + 1)) (lv' := [some (.ref 24), some (.int a1), some (.int a2), some (.int a3), some (.int a4), some (.int (a5 + 1))]) dX4_tryCuts_127 rfl rfl (congrArg (a5 + ·) (by decide)) (by decide) rfl ?_
    refine jr_goto (pc' := 40) dX4_tryCuts_130 rfl ?_
    exact jG.weak (lv' := [some (.ref 24), some (.int a1), some (.int a2), some (.int a3), some (.int a4), some (.int (a5 + 1))]) ⟨rfl, rfl, rfl, rfl, rfl, rfl, trivial⟩ (k1 c1)

theorem q_OltryCuts_127 {E : jEnv} {n : Nat} {X : State → Prop} {Post : Option Value → HP → Prop} (a1 : Int32) (a2 : Int32) (a3 : Int32) (a4 : Int32) (a5 : Int32) (h : HP)
    (k0 : jG E mX4_tryCuts (n + 1) X Post 40 [some (.ref 24), some (.int a1), some (.int a2), some (.int a3), some (.int a4), some (.int (a5 + 1))] [] h)
    : jG E mX4_tryCuts (n + 1) X Post 127 [some (.ref 24), some (.int a1), some (.int a2), some (.int a3), some (.int a4), some (.int a5)] [] h := by
  refine jr_iinc (pc' := 130) (i := 5) (v := (a5 + 1)) (lv' := [some (.ref 24), some (.int a1), some (.int a2), some (.int a3), some (.int a4), some (.int (a5 + 1))]) dX4_tryCuts_127 rfl rfl (congrArg (a5 + ·) (by decide)) (by decide) rfl ?_
  refine jr_goto (pc' := 40) dX4_tryCuts_130 rfl ?_
  exact jG.weak (lv' := [some (.ref 24), some (.int a1), some (.int a2), some (.int a3), some (.int a4), some (.int (a5 + 1))]) ⟨rfl, rfl, rfl, rfl, rfl, rfl, trivial⟩ (k0)

theorem q_OlfindBestStake_0 {E : jEnv} {n : Nat} {X : State → Prop} {Post : Option Value → HP → Prop} (x : Int32) (h : HP)
    (k0 : jG E mX4_findBestStake (n + 2) X Post 17 [some (.ref 24), some (.int x), some (.int 0), none] [] (jPI (jPI (jPL (jPA h 25 (va_cpy ((h.1 20)) ((h.1 25)) (0 : Int32).toNatClampNeg (0 : Int32).toNatClampNeg (4 : Int32).toNatClampNeg)) 24 3 (h.2 18 3)) 24 9 (-1)) 24 10 41))
    : jG E mX4_findBestStake (n + 2) X Post 0 [some (.ref 24), some (.int x), none, none] [] h := by
  refine jr_aload_n (pc' := 1) (i := 0) dX4_findBestStake_0 rfl rfl rfl ?_
  refine jr_callV (pc' := 4) (k := 24) (av := []) (st := []) sX4_takeAsItIs wmX4_121 dX4_findBestStake_1 rfl (by decide) rfl (by decide) rfl rfl rfl (Nat.le_of_ble_eq_true rfl) rfl (c_OltakeAsItIs (n := n)  h ) (fun v h2 hp => ?_)
  rw [hp.1, hp.2]
  show jG E mX4_findBestStake (n + 2) X Post 4 [some (.ref 24), some (.int x), none, none] [] (jPL (jPA h 25 (va_cpy ((h.1 20)) ((h.1 25)) (0 : Int32).toNatClampNeg (0 : Int32).toNatClampNeg (4 : Int32).toNatClampNeg)) 24 3 (h.2 18 3))
  refine jr_aload_n (pc' := 5) (i := 0) dX4_findBestStake_4 rfl rfl rfl ?_
  refine jr_iconst (pc' := 6) (v := (-1)) dX4_findBestStake_5 rfl (by decide) ?_
  refine jr_putI (pc' := 9) jK4 (k := 24) (j := 9) wfX4_36 dX4_findBestStake_6 rfl (by decide) rfl (by decide) (by decide) rfl rfl rfl ?_
  refine jr_aload_n (pc' := 10) (i := 0) dX4_findBestStake_9 rfl rfl rfl ?_
  refine jr_bipush (pc' := 12) (v := 41) dX4_findBestStake_10 rfl (by decide) ?_
  refine jr_putI (pc' := 15) jK4 (k := 24) (j := 10) wfX4_39 dX4_findBestStake_12 rfl (by decide) rfl (by decide) (by decide) rfl rfl rfl ?_
  refine jr_iconst (pc' := 16) (v := 0) dX4_findBestStake_15 rfl (by decide) ?_
  refine jr_istore_n (pc' := 17) (i := 2) (lv' := [some (.ref 24), some (.int x), some (.int 0), none]) dX4_findBestStake_16 rfl rfl (by decide) rfl ?_
  exact jG.weak (lv' := [some (.ref 24), some (.int x), some (.int 0), none]) ⟨rfl, rfl, rfl, trivial⟩ (k0)

theorem q_OlfindBestStake_17 {E : jEnv} {n : Nat} {X : State → Prop} {Post : Option Value → HP → Prop} (a1 : Int32) (a2 : Int32) (h : HP)
    (k0 : ((f_Ldcells (h.1 3 0) (h.1 3 1)) ≤ a2) → Post none h)
    (k1 : (¬ (f_Ldcells (h.1 3 0) (h.1 3 1)) ≤ a2) → ((h.1 24 10) ≤ 0) → Post none h)
    (k2 : (¬ (f_Ldcells (h.1 3 0) (h.1 3 1)) ≤ a2) → (¬ (h.1 24 10) ≤ 0) → jCall E mX4_hoursToCastle (n + 1) [.ref 24, .int a1, .int ((h.1 24 10) - 1)] (jPL h 24 3 ((h.2 18 3) ||| (1 <<< (a2.toInt64 &&& 63)))) (fun v h2 => jG E mX4_findBestStake (n + 2) X Post 61 [some (.ref 24), some (.int a1), some (.int a2), none] (v.toList ++ []) h2))
    : jG E mX4_findBestStake (n + 2) X Post 17 [some (.ref 24), some (.int a1), some (.int a2), none] [] h := by
  refine jr_iload_n (pc' := 18) (i := 2) dX4_findBestStake_17 rfl rfl rfl ?_
  refine jr_aload_n (pc' := 19) (i := 0) dX4_findBestStake_18 rfl rfl rfl ?_
  refine jr_get (pc' := 22) jK4 (k := 24) (j := 0) (v := .ref 3) wfX4_42 dX4_findBestStake_19 rfl (by decide) rfl (by decide) rfl ?_
  refine jr_callV (pc' := 25) (k := 3) (av := []) (st := [.int a2]) sX2_cells wmX4_131 dX4_findBestStake_22 rfl (by decide) rfl (by decide) rfl rfl rfl (Nat.le_of_ble_eq_true rfl) rfl (c_Ldcells (n := n + 1)  h ) (fun v h2 hp => ?_)
  rw [hp.1, hp.2]
  show jG E mX4_findBestStake (n + 2) X Post 25 [some (.ref 24), some (.int a1), some (.int a2), none] [.int (f_Ldcells (h.1 3 0) (h.1 3 1)), .int a2] h
  by_cases c1 : (f_Ldcells (h.1 3 0) (h.1 3 1)) ≤ a2
  · refine jr_icmp_geT (pc' := 83) dX4_findBestStake_25 rfl c1 ?_
    exact jr_vret dX4_findBestStake_83 rfl (k0 c1)
  · refine jr_icmp_geF (pc' := 28) (tgt := 83) dX4_findBestStake_25 rfl rfl c1 ?_
    refine jr_aload_n (pc' := 29) (i := 0) dX4_findBestStake_28 rfl rfl rfl ?_
    refine jr_get (pc' := 32) jK4 (k := 24) (j := 10) (v := .int (h.1 24 10)) wfX4_39 dX4_findBestStake_29 rfl (by decide) rfl (by decide) rfl ?_
    by_cases c2 : (h.1 24 10) ≤ 0
    · refine jr_if_leT (pc' := 83) dX4_findBestStake_32 rfl c2 ?_
      exact jr_vret dX4_findBestStake_83 rfl (k1 c1 c2)
    · refine jr_if_leF (pc' := 35) (tgt := 83) dX4_findBestStake_32 rfl rfl c2 ?_
      refine jr_aload_n (pc' := 36) (i := 0) dX4_findBestStake_35 rfl rfl rfl ?_
      refine jr_aload_n (pc' := 37) (i := 0) dX4_findBestStake_36 rfl rfl rfl ?_
      refine jr_get (pc' := 40) jK4 (k := 24) (j := 1) (v := .ref 18) wfX4_46 dX4_findBestStake_37 rfl (by decide) rfl (by decide) rfl ?_
      refine jr_get (pc' := 43) jK5 (k := 18) (j := 3) (v := .long (h.2 18 3)) wfX4_61 dX4_findBestStake_40 rfl (by decide) rfl (by decide) rfl ?_
      refine jr_lconst (pc' := 44) (v := 1) dX4_findBestStake_43 rfl (by decide) ?_
      refine jr_iload_n (pc' := 45) (i := 2) dX4_findBestStake_44 rfl rfl rfl ?_
      refine jr_lshl (pc' := 46)  dX4_findBestStake_45 rfl  ?_
      refine jr_lor (pc' := 47)  dX4_findBestStake_46 rfl  ?_
      refine jr_putL (pc' := 50) jK4 (k := 24) (j := 3) wfX4_15 dX4_findBestStake_47 rfl (by decide) rfl (by decide) rfl rfl rfl rfl ?_
      refine jr_aload_n (pc' := 51) (i := 0) dX4_findBestStake_50 rfl rfl rfl ?_
      refine jr_iload_n (pc' := 52) (i := 1) dX4_findBestStake_51 rfl rfl rfl ?_
      refine jr_aload_n (pc' := 53) (i := 0) dX4_findBestStake_52 rfl rfl rfl ?_
      refine jr_get (pc' := 56) jK4 (k := 24) (j := 10) (v := .int (h.1 24 10)) wfX4_39 dX4_findBestStake_53 rfl (by decide) rfl (by decide) rfl ?_
      refine jr_iconst (pc' := 57) (v := 1) dX4_findBestStake_56 rfl (by decide) ?_
      refine jr_isub (pc' := 58)  dX4_findBestStake_57 rfl  ?_
      obtain ⟨P1, hC1, hK1⟩ := k2 c1 c2
      exact jr_callV (pc' := 61) (k := 24) (av := [.int a1, .int ((h.1 24 10) - 1)]) (st := []) sX4_hoursToCastle wmX4_124 dX4_findBestStake_58 rfl (by decide) rfl (by decide) rfl rfl rfl (Nat.le_of_ble_eq_true rfl) rfl hC1 (fun v h2 hp => jG.weak (lv' := [some (.ref 24), some (.int a1), some (.int a2), none]) ⟨rfl, rfl, rfl, trivial⟩ (hK1 v h2 hp))

theorem q_OlfindBestStake_61 {E : jEnv} {n : Nat} {X : State → Prop} {Post : Option Value → HP → Prop} (a1 : Int32) (a2 : Int32) (s0 : Int32) (h : HP)
    (k0 : (s0 = (-1)) → jG E mX4_findBestStake (n + 2) X Post 17 [some (.ref 24), some (.int a1), some (.int (a2 + 1)), none] [] h)
    (k1 : (¬ s0 = (-1)) → jG E mX4_findBestStake (n + 2) X Post 17 [some (.ref 24), some (.int a1), some (.int (a2 + 1)), none] [] (jPI (jPI h 24 9 a2) 24 10 s0))
    : jG E mX4_findBestStake (n + 2) X Post 61 [some (.ref 24), some (.int a1), some (.int a2), none] [.int s0] h := by
  refine jr_istore_n (pc' := 62) (i := 3) (lv' := [some (.ref 24), some (.int a1), some (.int a2), some (.int s0)]) dX4_findBestStake_61 rfl rfl (by decide) rfl ?_
  refine jr_iload_n (pc' := 63) (i := 3) dX4_findBestStake_62 rfl rfl rfl ?_
  refine jr_iconst (pc' := 64) (v := (-1)) dX4_findBestStake_63 rfl (by decide) ?_
  by_cases c1 : s0 = (-1)
  · refine jr_icmp_eqT (pc' := 77) dX4_findBestStake_64 rfl c1 ?_
    refine jr_iinc (pc' := 80) (i := 2) (v := (a2 + 1)) (lv' := [some (.ref 24), some (.int a1), some (.int (a2 + 1)), some (.int s0)]) dX4_findBestStake_77 rfl rfl (congrArg (a2 + ·) (by decide)) (by decide) rfl ?_
    refine jr_goto (pc' := 17) dX4_findBestStake_80 rfl ?_
    exact jG.weak (lv' := [some (.ref 24), some (.int a1), some (.int (a2 + 1)), none]) ⟨rfl, rfl, rfl, trivial⟩ (k0 c1)
  · refine jr_icmp_eqF (pc' := 67) (tgt := 77) dX4_findBestStake_64 rfl rfl c1 ?_
    refine jr_aload_n (pc' := 68) (i := 0) dX4_findBestStake_67 rfl rfl rfl ?_
    refine jr_iload_n (pc' := 69) (i := 2) dX4_findBestStake_68 rfl rfl rfl ?_
    refine jr_putI (pc' := 72) jK4 (k := 24) (j := 9) wfX4_36 dX4_findBestStake_69 rfl (by decide) rfl (by decide) (by decide) rfl rfl rfl ?_
    refine jr_aload_n (pc' := 73) (i := 0) dX4_findBestStake_72 rfl rfl rfl ?_
    refine jr_iload_n (pc' := 74) (i := 3) dX4_findBestStake_73 rfl rfl rfl ?_
    refine jr_putI (pc' := 77) jK4 (k := 24) (j := 10) wfX4_39 dX4_findBestStake_74 rfl (by decide) rfl (by decide) (by decide) rfl rfl rfl ?_
    refine jr_iinc (pc' := 80) (i := 2) (v := (a2 + 1)) (lv' := [some (.ref 24), some (.int a1), some (.int (a2 + 1)), some (.int s0)]) dX4_findBestStake_77 rfl rfl (congrArg (a2 + ·) (by decide)) (by decide) rfl ?_
    refine jr_goto (pc' := 17) dX4_findBestStake_80 rfl ?_
    exact jG.weak (lv' := [some (.ref 24), some (.int a1), some (.int (a2 + 1)), none]) ⟨rfl, rfl, rfl, trivial⟩ (k1 c1)

theorem q_OlworthOfInch_0 {E : jEnv} {n : Nat} {X : State → Prop} {Post : Option Value → HP → Prop} (x : Int32) (y : Int32) (h : HP)
    (k0 : jCall E mX4_hoursToCastle (n + 1) [.ref 24, .int x, .int 40] (jPL (jPA h 25 (va_cpy ((h.1 20)) ((h.1 25)) (0 : Int32).toNatClampNeg (0 : Int32).toNatClampNeg (4 : Int32).toNatClampNeg)) 24 3 (h.2 18 3)) (fun v h2 => jG E mX4_worthOfInch (n + 2) X Post 11 [some (.ref 24), some (.int x), some (.int y), none] (v.toList ++ []) h2))
    : jG E mX4_worthOfInch (n + 2) X Post 0 [some (.ref 24), some (.int x), some (.int y), none] [] h := by
  refine jr_aload_n (pc' := 1) (i := 0) dX4_worthOfInch_0 rfl rfl rfl ?_
  refine jr_callV (pc' := 4) (k := 24) (av := []) (st := []) sX4_takeAsItIs wmX4_121 dX4_worthOfInch_1 rfl (by decide) rfl (by decide) rfl rfl rfl (Nat.le_of_ble_eq_true rfl) rfl (c_OltakeAsItIs (n := n)  h ) (fun v h2 hp => ?_)
  rw [hp.1, hp.2]
  show jG E mX4_worthOfInch (n + 2) X Post 4 [some (.ref 24), some (.int x), some (.int y), none] [] (jPL (jPA h 25 (va_cpy ((h.1 20)) ((h.1 25)) (0 : Int32).toNatClampNeg (0 : Int32).toNatClampNeg (4 : Int32).toNatClampNeg)) 24 3 (h.2 18 3))
  refine jr_aload_n (pc' := 5) (i := 0) dX4_worthOfInch_4 rfl rfl rfl ?_
  refine jr_iload_n (pc' := 6) (i := 1) dX4_worthOfInch_5 rfl rfl rfl ?_
  refine jr_bipush (pc' := 8) (v := 40) dX4_worthOfInch_6 rfl (by decide) ?_
  obtain ⟨P1, hC1, hK1⟩ := k0
  exact jr_callV (pc' := 11) (k := 24) (av := [.int x, .int 40]) (st := []) sX4_hoursToCastle wmX4_124 dX4_worthOfInch_8 rfl (by decide) rfl (by decide) rfl rfl rfl (Nat.le_of_ble_eq_true rfl) rfl hC1 (fun v h2 hp => jG.weak (lv' := [some (.ref 24), some (.int x), some (.int y), none]) ⟨rfl, rfl, rfl, trivial⟩ (hK1 v h2 hp))

theorem q_OlworthOfInch_11 {E : jEnv} {n : Nat} {X : State → Prop} {Post : Option Value → HP → Prop} (a1 : Int32) (a2 : Int32) (s0 : Int32) (h : HP)
    (b0 : vp_in a2 4)
    (b1 : vp_in a2 4)
    (k0 : jCall E mX4_hoursToCastle (n + 1) [.ref 24, .int a1, .int 40] (jPI h 25 a2.toNatClampNeg ((h.1 25 a2.toNatClampNeg) + 1)) (fun v h2 => jG E mX4_worthOfInch (n + 2) X Post 33 [none, none, none, none] (v.toList ++ [.int (f_OlcountNone s0)]) h2))
    : jG E mX4_worthOfInch (n + 2) X Post 11 [some (.ref 24), some (.int a1), some (.int a2), none] [.int s0] h := by
  refine jr_callS (pc' := 14) (av := [.int s0]) (st := []) sX4_countNone wmX4_128 dX4_worthOfInch_11 rfl rfl (Nat.le_of_ble_eq_true rfl) rfl (c_OlcountNone (n := n + 1) s0 h ) (fun v h2 hp => ?_)
  rw [hp.1, hp.2]
  show jG E mX4_worthOfInch (n + 2) X Post 14 [some (.ref 24), some (.int a1), some (.int a2), none] [.int (f_OlcountNone s0)] h
  refine jr_istore_n (pc' := 15) (i := 3) (lv' := [some (.ref 24), some (.int a1), some (.int a2), some (.int (f_OlcountNone s0))]) dX4_worthOfInch_14 rfl rfl (by decide) rfl ?_
  refine jr_aload_n (pc' := 16) (i := 0) dX4_worthOfInch_15 rfl rfl rfl ?_
  refine jr_get (pc' := 19) jK4 (k := 24) (j := 2) (v := .ref 25) wfX4_9 dX4_worthOfInch_16 rfl (by decide) rfl (by decide) rfl ?_
  refine jr_iload_n (pc' := 20) (i := 2) dX4_worthOfInch_19 rfl rfl rfl ?_
  refine jr_dup2 (pc' := 21)  dX4_worthOfInch_20 rfl rfl rfl ?_
  refine jr_iald (pc' := 22) (v := h.1 25 a2.toNatClampNeg) dX4_worthOfInch_21 rfl (by decide) rfl (b0) rfl ?_
  refine jr_iconst (pc' := 23) (v := 1) dX4_worthOfInch_22 rfl (by decide) ?_
  refine jr_iadd (pc' := 24)  dX4_worthOfInch_23 rfl  ?_
  refine jr_iast (pc' := 25) (j := a2.toNatClampNeg) dX4_worthOfInch_24 rfl (by decide) rfl (b1) rfl ?_
  refine jr_iload_n (pc' := 26) (i := 3) dX4_worthOfInch_25 rfl rfl rfl ?_
  refine jr_aload_n (pc' := 27) (i := 0) dX4_worthOfInch_26 rfl rfl rfl ?_
  refine jr_iload_n (pc' := 28) (i := 1) dX4_worthOfInch_27 rfl rfl rfl ?_
  refine jr_bipush (pc' := 30) (v := 40) dX4_worthOfInch_28 rfl (by decide) ?_
  obtain ⟨P1, hC1, hK1⟩ := k0
  exact jr_callV (pc' := 33) (k := 24) (av := [.int a1, .int 40]) (st := [.int (f_OlcountNone s0)]) sX4_hoursToCastle wmX4_124 dX4_worthOfInch_30 rfl (by decide) rfl (by decide) rfl rfl rfl (Nat.le_of_ble_eq_true rfl) rfl hC1 (fun v h2 hp => jG.weak (lv' := [none, none, none, none]) trivial (hK1 v h2 hp))

theorem q_OlworthOfInch_33 {E : jEnv} {n : Nat} {X : State → Prop} {Post : Option Value → HP → Prop} (s0 : Int32) (s1 : Int32) (h : HP)
    (k0 : Post (some (.int (s1 - (f_OlcountNone s0)))) h)
    : jG E mX4_worthOfInch (n + 2) X Post 33 [none, none, none, none] [.int s0, .int s1] h := by
  refine jr_callS (pc' := 36) (av := [.int s0]) (st := [.int s1]) sX4_countNone wmX4_128 dX4_worthOfInch_33 rfl rfl (Nat.le_of_ble_eq_true rfl) rfl (c_OlcountNone (n := n + 1) s0 h ) (fun v h2 hp => ?_)
  rw [hp.1, hp.2]
  show jG E mX4_worthOfInch (n + 2) X Post 36 [none, none, none, none] [.int (f_OlcountNone s0), .int s1] h
  refine jr_isub (pc' := 37)  dX4_worthOfInch_36 rfl  ?_
  exact jr_iret dX4_worthOfInch_37 rfl rfl (k0)

theorem q_OlcellsOfOthers_0 {E : jEnv} {n : Nat} {X : State → Prop} {Post : Option Value → HP → Prop} (x : Int32) (h : HP)
    (k0 : jG E mX4_cellsOfOthers (n + 1) X Post 5 [some (.ref 24), some (.int x), some (.long 0), none, some (.int 0)] [] h)
    : jG E mX4_cellsOfOthers (n + 1) X Post 0 [some (.ref 24), some (.int x), none, none, none] [] h := by
  refine jr_lconst (pc' := 1) (v := 0) dX4_cellsOfOthers_0 rfl (by decide) ?_
  refine jr_lstore_n (pc' := 2) (i := 2) (lv' := [some (.ref 24), some (.int x), some (.long 0), none, none]) dX4_cellsOfOthers_1 rfl rfl (by decide) rfl ?_
  refine jr_iconst (pc' := 3) (v := 0) dX4_cellsOfOthers_2 rfl (by decide) ?_
  refine jr_istore (pc' := 5) (i := 4) (lv' := [some (.ref 24), some (.int x), some (.long 0), none, some (.int 0)]) dX4_cellsOfOthers_3 rfl (by decide) rfl ?_
  exact jG.weak (lv' := [some (.ref 24), some (.int x), some (.long 0), none, some (.int 0)]) ⟨rfl, rfl, rfl, rfl, trivial⟩ (k0)

theorem q_OlcellsOfOthers_5 {E : jEnv} {n : Nat} {X : State → Prop} {Post : Option Value → HP → Prop} (a1 : Int32) (l2 : Int64) (a4 : Int32) (h : HP)
    (k0 : ((h.1 3 3) ≤ a4) → Post (some (.long l2)) h)
    (k1 : (¬ (h.1 3 3) ≤ a4) → (a4 = a1) → jG E mX4_cellsOfOthers (n + 1) X Post 5 [some (.ref 24), some (.int a1), some (.long (l2 ||| 0)), none, some (.int (a4 + 1))] [] h)
    (k2 : (¬ (h.1 3 3) ≤ a4) → (¬ a4 = a1) → jCall E mX4_cellsOf n [.ref 24, .int a4] h (fun v h2 => jG E mX4_cellsOfOthers (n + 1) X Post 34 [some (.ref 24), some (.int a1), none, none, some (.int a4)] (v.toList ++ [.long l2]) h2))
    : jG E mX4_cellsOfOthers (n + 1) X Post 5 [some (.ref 24), some (.int a1), some (.long l2), none, some (.int a4)] [] h := by
  refine jr_iload (pc' := 7) (i := 4) dX4_cellsOfOthers_5 rfl rfl ?_
  refine jr_aload_n (pc' := 8) (i := 0) dX4_cellsOfOthers_7 rfl rfl rfl ?_
  refine jr_get (pc' := 11) jK4 (k := 24) (j := 0) (v := .ref 3) wfX4_42 dX4_cellsOfOthers_8 rfl (by decide) rfl (by decide) rfl ?_
  refine jr_get (pc' := 14) jK2 (k := 3) (j := 3) (v := .int (h.1 3 3)) wfX4_90 dX4_cellsOfOthers_11 rfl (by decide) rfl (by decide) rfl ?_
  by_cases c1 : (h.1 3 3) ≤ a4
  · refine jr_icmp_geT (pc' := 42) dX4_cellsOfOthers_14 rfl c1 ?_
    refine jr_lload_n (pc' := 43) (i := 2) dX4_cellsOfOthers_42 rfl rfl rfl ?_
    exact jr_lret dX4_cellsOfOthers_43 rfl (k0 c1)
  · refine jr_icmp_geF (pc' := 17) (tgt := 42) dX4_cellsOfOthers_14 rfl rfl c1 ?_
    refine jr_lload_n (pc' := 18) (i := 2) dX4_cellsOfOthers_17 rfl rfl rfl ?_
    refine jr_iload (pc' := 20) (i := 4) dX4_cellsOfOthers_18 rfl rfl ?_
    refine jr_iload_n (pc' := 21) (i := 1) dX4_cellsOfOthers_20 rfl rfl rfl ?_
    by_cases c2 : a4 = a1
    · refine jr_icmp_neF (pc' := 24) (tgt := 28) dX4_cellsOfOthers_21 rfl rfl c2 ?_
      refine jr_lconst (pc' := 25) (v := 0) dX4_cellsOfOthers_24 rfl (by decide) ?_
      refine jr_goto (pc' := 34) dX4_cellsOfOthers_25 rfl ?_
      refine jr_lor (pc' := 35)  dX4_cellsOfOthers_34 rfl  ?_
      refine jr_lstore_n (pc' := 36) (i := 2) (lv' := [some (.ref 24), some (.int a1), some (.long (l2 ||| 0)), none, some (.int a4)]) dX4_cellsOfOthers_35 rfl rfl (by decide) rfl ?_
      refine jr_iinc (pc' := 39) (i := 4) (v := (a4 + 1)) (lv' := [some (.ref 24), some (.int a1), some (.long (l2 ||| 0)), none, some (.int (a4 + 1))]) dX4_cellsOfOthers_36 rfl rfl (congrArg (a4 + ·) (by decide)) (by decide) rfl ?_
      refine jr_goto (pc' := 5) dX4_cellsOfOthers_39 rfl ?_
      exact jG.weak (lv' := [some (.ref 24), some (.int a1), some (.long (l2 ||| 0)), none, some (.int (a4 + 1))]) ⟨rfl, rfl, rfl, rfl, trivial⟩ (k1 c1 c2)
    · refine jr_icmp_neT (pc' := 28) dX4_cellsOfOthers_21 rfl c2 ?_
      refine jr_aload_n (pc' := 29) (i := 0) dX4_cellsOfOthers_28 rfl rfl rfl ?_
      refine jr_iload (pc' := 31) (i := 4) dX4_cellsOfOthers_29 rfl rfl ?_
      obtain ⟨P1, hC1, hK1⟩ := k2 c1 c2
      exact jr_callV (pc' := 34) (k := 24) (av := [.int a4]) (st := [.long l2]) sX4_cellsOf wmX4_93 dX4_cellsOfOthers_31 rfl (by decide) rfl (by decide) rfl rfl rfl (Nat.le_of_ble_eq_true rfl) rfl hC1 (fun v h2 hp => jG.weak (lv' := [some (.ref 24), some (.int a1), none, none, some (.int a4)]) ⟨rfl, rfl, rfl, trivial⟩ (hK1 v h2 hp))

theorem q_OlcellsOfOthers_34 {E : jEnv} {n : Nat} {X : State → Prop} {Post : Option Value → HP → Prop} (a1 : Int32) (a4 : Int32) (t0 : Int64) (t1 : Int64) (h : HP)
    (k0 : jG E mX4_cellsOfOthers (n + 1) X Post 5 [some (.ref 24), some (.int a1), some (.long (t1 ||| t0)), none, some (.int (a4 + 1))] [] h)
    : jG E mX4_cellsOfOthers (n + 1) X Post 34 [some (.ref 24), some (.int a1), none, none, some (.int a4)] [.long t0, .long t1] h := by
  refine jr_lor (pc' := 35)  dX4_cellsOfOthers_34 rfl  ?_
  refine jr_lstore_n (pc' := 36) (i := 2) (lv' := [some (.ref 24), some (.int a1), some (.long (t1 ||| t0)), none, some (.int a4)]) dX4_cellsOfOthers_35 rfl rfl (by decide) rfl ?_
  refine jr_iinc (pc' := 39) (i := 4) (v := (a4 + 1)) (lv' := [some (.ref 24), some (.int a1), some (.long (t1 ||| t0)), none, some (.int (a4 + 1))]) dX4_cellsOfOthers_36 rfl rfl (congrArg (a4 + ·) (by decide)) (by decide) rfl ?_
  refine jr_goto (pc' := 5) dX4_cellsOfOthers_39 rfl ?_
  exact jG.weak (lv' := [some (.ref 24), some (.int a1), some (.long (t1 ||| t0)), none, some (.int (a4 + 1))]) ⟨rfl, rfl, rfl, rfl, trivial⟩ (k0)

theorem q_OlcellsOf_0 {E : jEnv} {n : Nat} {X : State → Prop} {Post : Option Value → HP → Prop} (x : Int32) (h : HP)
    (b0 : vp_in x 4)
    (k0 : jG E mX4_cellsOf (n + 2) X Post 15 [some (.ref 24), some (.int x), some (.long (1 <<< ((h.1 19 x.toNatClampNeg).toInt64 &&& 63))), none, some (.int 1)] [] h)
    : jG E mX4_cellsOf (n + 2) X Post 0 [some (.ref 24), some (.int x), none, none, none] [] h := by
  refine jr_lconst (pc' := 1) (v := 1) dX4_cellsOf_0 rfl (by decide) ?_
  refine jr_aload_n (pc' := 2) (i := 0) dX4_cellsOf_1 rfl rfl rfl ?_
  refine jr_get (pc' := 5) jK4 (k := 24) (j := 1) (v := .ref 18) wfX4_46 dX4_cellsOf_2 rfl (by decide) rfl (by decide) rfl ?_
  refine jr_get (pc' := 8) jK5 (k := 18) (j := 4) (v := .ref 19) wfX4_79 dX4_cellsOf_5 rfl (by decide) rfl (by decide) rfl ?_
  refine jr_iload_n (pc' := 9) (i := 1) dX4_cellsOf_8 rfl rfl rfl ?_
  refine jr_iald (pc' := 10) (v := h.1 19 x.toNatClampNeg) dX4_cellsOf_9 rfl (by decide) rfl (b0) rfl ?_
  refine jr_lshl (pc' := 11)  dX4_cellsOf_10 rfl  ?_
  refine jr_lstore_n (pc' := 12) (i := 2) (lv' := [some (.ref 24), some (.int x), some (.long (1 <<< ((h.1 19 x.toNatClampNeg).toInt64 &&& 63))), none, none]) dX4_cellsOf_11 rfl rfl (by decide) rfl ?_
  refine jr_iconst (pc' := 13) (v := 1) dX4_cellsOf_12 rfl (by decide) ?_
  refine jr_istore (pc' := 15) (i := 4) (lv' := [some (.ref 24), some (.int x), some (.long (1 <<< ((h.1 19 x.toNatClampNeg).toInt64 &&& 63))), none, some (.int 1)]) dX4_cellsOf_13 rfl (by decide) rfl ?_
  exact jG.weak (lv' := [some (.ref 24), some (.int x), some (.long (1 <<< ((h.1 19 x.toNatClampNeg).toInt64 &&& 63))), none, some (.int 1)]) ⟨rfl, rfl, rfl, rfl, trivial⟩ (k0)

theorem q_OlcellsOf_15 {E : jEnv} {n : Nat} {X : State → Prop} {Post : Option Value → HP → Prop} (a1 : Int32) (l2 : Int64) (a4 : Int32) (h : HP)
    (k0 : ((40 : Int32) < a4) → Post (some (.long l2)) h)
    (b0 : (¬ (40 : Int32) < a4) → (vp_in a1 4))
    (k1 : (¬ (40 : Int32) < a4) → jG E mX4_cellsOf (n + 2) X Post 15 [some (.ref 24), some (.int a1), some (.long (f_OlanHourOn (h.2 9) (h.1 18 1) (h.1 3 0) (h.1 3 2) (h.2 24 3) (h.2 3 7) (h.2 3 8) (h.1 25) a1 l2 a4)), none, some (.int (a4 + 1))] [] h)
    : jG E mX4_cellsOf (n + 2) X Post 15 [some (.ref 24), some (.int a1), some (.long l2), none, some (.int a4)] [] h := by
  refine jr_iload (pc' := 17) (i := 4) dX4_cellsOf_15 rfl rfl ?_
  refine jr_bipush (pc' := 19) (v := 40) dX4_cellsOf_17 rfl (by decide) ?_
  by_cases c1 : (40 : Int32) < a4
  · refine jr_icmp_gtT (pc' := 37) dX4_cellsOf_19 rfl c1 ?_
    refine jr_lload_n (pc' := 38) (i := 2) dX4_cellsOf_37 rfl rfl rfl ?_
    exact jr_lret dX4_cellsOf_38 rfl (k0 c1)
  · refine jr_icmp_gtF (pc' := 22) (tgt := 37) dX4_cellsOf_19 rfl rfl c1 ?_
    refine jr_aload_n (pc' := 23) (i := 0) dX4_cellsOf_22 rfl rfl rfl ?_
    refine jr_iload_n (pc' := 24) (i := 1) dX4_cellsOf_23 rfl rfl rfl ?_
    refine jr_lload_n (pc' := 25) (i := 2) dX4_cellsOf_24 rfl rfl rfl ?_
    refine jr_iload (pc' := 27) (i := 4) dX4_cellsOf_25 rfl rfl ?_
    refine jr_callV (pc' := 30) (k := 24) (av := [.int a1, .long l2, .int a4]) (st := []) sX4_anHourOn wmX4_86 dX4_cellsOf_27 rfl (by decide) rfl (by decide) rfl rfl rfl (Nat.le_of_ble_eq_true rfl) rfl (c_OlanHourOn (n := n) a1 l2 a4 h (b0 c1)) (fun v h2 hp => ?_)
    rw [hp.1, hp.2]
    show jG E mX4_cellsOf (n + 2) X Post 30 [some (.ref 24), some (.int a1), some (.long l2), none, some (.int a4)] [.long (f_OlanHourOn (h.2 9) (h.1 18 1) (h.1 3 0) (h.1 3 2) (h.2 24 3) (h.2 3 7) (h.2 3 8) (h.1 25) a1 l2 a4)] h
    refine jr_lstore_n (pc' := 31) (i := 2) (lv' := [some (.ref 24), some (.int a1), some (.long (f_OlanHourOn (h.2 9) (h.1 18 1) (h.1 3 0) (h.1 3 2) (h.2 24 3) (h.2 3 7) (h.2 3 8) (h.1 25) a1 l2 a4)), none, some (.int a4)]) dX4_cellsOf_30 rfl rfl (by decide) rfl ?_
    refine jr_iinc (pc' := 34) (i := 4) (v := (a4 + 1)) (lv' := [some (.ref 24), some (.int a1), some (.long (f_OlanHourOn (h.2 9) (h.1 18 1) (h.1 3 0) (h.1 3 2) (h.2 24 3) (h.2 3 7) (h.2 3 8) (h.1 25) a1 l2 a4)), none, some (.int (a4 + 1))]) dX4_cellsOf_31 rfl rfl (congrArg (a4 + ·) (by decide)) (by decide) rfl ?_
    refine jr_goto (pc' := 15) dX4_cellsOf_34 rfl ?_
    exact jG.weak (lv' := [some (.ref 24), some (.int a1), some (.long (f_OlanHourOn (h.2 9) (h.1 18 1) (h.1 3 0) (h.1 3 2) (h.2 24 3) (h.2 3 7) (h.2 3 8) (h.1 25) a1 l2 a4)), none, some (.int (a4 + 1))]) ⟨rfl, rfl, rfl, rfl, trivial⟩ (k1 c1)

