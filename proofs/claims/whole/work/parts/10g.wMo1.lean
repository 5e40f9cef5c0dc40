theorem q_Mofeed_0 {E : jEnv} {n : Nat} {X : State → Prop} {Post : Option Value → HP → Prop} (x : Int32) (y : Int64) (h : HP)
    (k0 : ((f_Moin x.toInt64 1 8) = 0) → Post (some (.int (-1000000002))) h)
    (k1 : (¬ (f_Moin x.toInt64 1 8) = 0) → (((h.1 52 18) + x) ≤ 500) → jG E mX8_feed (n + 1) X Post 35 [some (.ref 52), none, some (.long y), none, some (.int (x - 1))] [] h)
    (k2 : (¬ (f_Moin x.toInt64 1 8) = 0) → (¬ ((h.1 52 18) + x) ≤ 500) → Post (some (.int (-1000000004))) h)
    : jG E mX8_feed (n + 1) X Post 0 [some (.ref 52), some (.int x), some (.long y), none, none] [] h := by
  refine jr_iload_n (pc' := 1) (i := 1) dX8_feed_0 rfl rfl rfl ?_
  refine jr_i2l (pc' := 2)  dX8_feed_1 rfl  ?_
  refine jr_lconst (pc' := 3) (v := 1) dX8_feed_2 rfl (by decide) ?_
  refine jr_ldc2 (pc' := 6) (v := 8) dX8_feed_3 rfl wcX8_92 ?_
  refine jr_callS (pc' := 9) (av := [.long x.toInt64, .long 1, .long 8]) (st := []) sX8_in wmX8_79 dX8_feed_6 rfl rfl (Nat.le_of_ble_eq_true rfl) rfl (c_Moin (n := n) x.toInt64 1 8 h ) (fun v h2 hp => ?_)
  rw [hp.1, hp.2]
  show jG E mX8_feed (n + 1) X Post 9 [some (.ref 52), some (.int x), some (.long y), none, none] [.int (f_Moin x.toInt64 1 8)] h
  by_cases c1 : (f_Moin x.toInt64 1 8) = 0
  · refine jr_if_neF (pc' := 12) (tgt := 15) dX8_feed_9 rfl rfl c1 ?_
    refine jr_ldc (pc' := 14) (v := (-1000000002)) dX8_feed_12 rfl wcX8_94 ?_
    exact jr_iret dX8_feed_14 rfl rfl (k0 c1)
  · refine jr_if_neT (pc' := 15) dX8_feed_9 rfl c1 ?_
    refine jr_aload_n (pc' := 16) (i := 0) dX8_feed_15 rfl rfl rfl ?_
    refine jr_get (pc' := 19) jK8 (k := 52) (j := 18) (v := .int (h.1 52 18)) wfX8_95 dX8_feed_16 rfl (by decide) rfl (by decide) rfl ?_
    refine jr_iload_n (pc' := 20) (i := 1) dX8_feed_19 rfl rfl rfl ?_
    refine jr_iadd (pc' := 21)  dX8_feed_20 rfl  ?_
    refine jr_sipush (pc' := 24) (v := 500) dX8_feed_21 rfl (by decide) ?_
    by_cases c2 : ((h.1 52 18) + x) ≤ 500
    · refine jr_icmp_leT (pc' := 30) dX8_feed_24 rfl c2 ?_
      refine jr_iload_n (pc' := 31) (i := 1) dX8_feed_30 rfl rfl rfl ?_
      refine jr_iconst (pc' := 32) (v := 1) dX8_feed_31 rfl (by decide) ?_
      refine jr_isub (pc' := 33)  dX8_feed_32 rfl  ?_
      refine jr_istore (pc' := 35) (i := 4) (lv' := [some (.ref 52), some (.int x), some (.long y), none, some (.int (x - 1))]) dX8_feed_33 rfl (by decide) rfl ?_
      exact jG.weak (lv' := [some (.ref 52), none, some (.long y), none, some (.int (x - 1))]) ⟨rfl, rfl, rfl, trivial⟩ (k1 c1 c2)
    · refine jr_icmp_leF (pc' := 27) (tgt := 30) dX8_feed_24 rfl rfl c2 ?_
      refine jr_ldc (pc' := 29) (v := (-1000000004)) dX8_feed_27 rfl wcX8_98 ?_
      exact jr_iret dX8_feed_29 rfl rfl (k2 c1 c2)

theorem q_Mofeed_35 {E : jEnv} {n : Nat} {X : State → Prop} {Post : Option Value → HP → Prop} (l2 : Int64) (a4 : Int32) (h : HP)
    (k0 : (a4 < 0) → Post (some (.int (h.1 52 18))) h)
    (b0 : (¬ a4 < 0) → vp_in (h.1 52 18) 500)
    (k1 : (¬ a4 < 0) → jG E mX8_feed (n + 1) X Post 35 [some (.ref 52), none, some (.long l2), none, some (.int (a4 + (-1)))] [] (jPI (jPI h 61 ((h.1 52 18).toNatClampNeg) (((l2 >>> ((8 * a4).toInt64 &&& 63)) &&& 255).toInt32)) 52 18 ((h.1 52 18) + 1)))
    : jG E mX8_feed (n + 1) X Post 35 [some (.ref 52), none, some (.long l2), none, some (.int a4)] [] h := by
  refine jr_iload (pc' := 37) (i := 4) dX8_feed_35 rfl rfl ?_
  by_cases c1 : a4 < 0
  · refine jr_if_ltT (pc' := 77) dX8_feed_37 rfl c1 ?_
    refine jr_aload_n (pc' := 78) (i := 0) dX8_feed_77 rfl rfl rfl ?_
    refine jr_get (pc' := 81) jK8 (k := 52) (j := 18) (v := .int (h.1 52 18)) wfX8_95 dX8_feed_78 rfl (by decide) rfl (by decide) rfl ?_
    exact jr_iret dX8_feed_81 rfl rfl (k0 c1)
  · refine jr_if_ltF (pc' := 40) (tgt := 77) dX8_feed_37 rfl rfl c1 ?_
    refine jr_aload_n (pc' := 41) (i := 0) dX8_feed_40 rfl rfl rfl ?_
    refine jr_get (pc' := 44) jK8 (k := 52) (j := 17) (v := .ref 61) wfX8_35 dX8_feed_41 rfl (by decide) rfl (by decide) rfl ?_
    refine jr_aload_n (pc' := 45) (i := 0) dX8_feed_44 rfl rfl rfl ?_
    refine jr_get (pc' := 48) jK8 (k := 52) (j := 18) (v := .int (h.1 52 18)) wfX8_95 dX8_feed_45 rfl (by decide) rfl (by decide) rfl ?_
    refine jr_lload_n (pc' := 49) (i := 2) dX8_feed_48 rfl rfl rfl ?_
    refine jr_bipush (pc' := 51) (v := 8) dX8_feed_49 rfl (by decide) ?_
    refine jr_iload (pc' := 53) (i := 4) dX8_feed_51 rfl rfl ?_
    refine jr_imul (pc' := 54)  dX8_feed_53 rfl  ?_
    refine jr_lshr (pc' := 55)  dX8_feed_54 rfl  ?_
    refine jr_ldc2 (pc' := 58) (v := 255) dX8_feed_55 rfl wcX8_99 ?_
    refine jr_land (pc' := 59)  dX8_feed_58 rfl  ?_
    refine jr_l2i (pc' := 60)  dX8_feed_59 rfl  ?_
    refine jr_iast (pc' := 61) (j := (h.1 52 18).toNatClampNeg) dX8_feed_60 rfl (by decide) rfl (b0 c1) rfl ?_
    refine jr_aload_n (pc' := 62) (i := 0) dX8_feed_61 rfl rfl rfl ?_
    refine jr_dup (pc' := 63)  dX8_feed_62 rfl rfl ?_
    refine jr_get (pc' := 66) jK8 (k := 52) (j := 18) (v := .int (h.1 52 18)) wfX8_95 dX8_feed_63 rfl (by decide) rfl (by decide) rfl ?_
    refine jr_iconst (pc' := 67) (v := 1) dX8_feed_66 rfl (by decide) ?_
    refine jr_iadd (pc' := 68)  dX8_feed_67 rfl  ?_
    refine jr_putI (pc' := 71) jK8 (k := 52) (j := 18) wfX8_95 dX8_feed_68 rfl (by decide) rfl (by decide) (by decide) rfl rfl rfl ?_
    refine jr_iinc (pc' := 74) (i := 4) (v := (a4 + (-1))) (lv' := [some (.ref 52), none, some (.long l2), none, some (.int (a4 + (-1)))]) dX8_feed_71 rfl rfl (congrArg (a4 + ·) (by decide)) (by decide) rfl ?_
    refine jr_goto (pc' := 35) dX8_feed_74 rfl ?_
    exact jG.weak (lv' := [some (.ref 52), none, some (.long l2), none, some (.int (a4 + (-1)))]) ⟨rfl, rfl, rfl, trivial⟩ (k1 c1)

theorem q_Moprovince_0 {E : jEnv} {n : Nat} {X : State → Prop} {Post : Option Value → HP → Prop}  (h : HP)
    (k0 : jCall E mX8_reads n [.ref 52] h (fun v h2 => jG E mX8_province (n + 1) X Post 4 [some (.ref 52), none, none, none, none] (v.toList ++ []) h2))
    : jG E mX8_province (n + 1) X Post 0 [some (.ref 52), none, none, none, none] [] h := by
  refine jr_aload_n (pc' := 1) (i := 0) dX8_province_0 rfl rfl rfl ?_
  obtain ⟨P1, hC1, hK1⟩ := k0
  exact jr_callV (pc' := 4) (k := 52) (av := []) (st := []) sX8_reads wmX8_205 dX8_province_1 rfl (by decide) rfl (by decide) rfl rfl rfl (Nat.le_of_ble_eq_true rfl) rfl hC1 (fun v h2 hp => jG.weak (lv' := [some (.ref 52), none, none, none, none]) ⟨rfl, trivial⟩ (hK1 v h2 hp))

theorem q_Moprovince_4 {E : jEnv} {n : Nat} {X : State → Prop} {Post : Option Value → HP → Prop} (s0 : Int32) (h : HP)
    (k0 : (s0 = 0) → (s0 = 0) → Post (some (.int ((-10) - (h.1 52 23)))) (jPI (jPI h 52 18 0) 52 24 ((h.1 52 20) + 1)))
    (k1 : (s0 = 0) → (¬ s0 = 0) → jG E mX8_province (n + 1) X Post 58 [some (.ref 52), none, some (.int 0), none, none] [] (jPI (jPI (jPI (jPI h 52 18 0) 52 24 ((h.1 52 20) + 1)) 52 0 (h.1 52 26)) 52 1 (h.1 52 27)))
    (k2 : (¬ s0 = 0) → (s0 = 0) → Post (some (.int ((-10) - (h.1 52 23)))) (jPI (jPI h 52 18 0) 52 24 0))
    (k3 : (¬ s0 = 0) → (¬ s0 = 0) → jG E mX8_province (n + 1) X Post 58 [some (.ref 52), none, some (.int 0), none, none] [] (jPI (jPI (jPI (jPI h 52 18 0) 52 24 0) 52 0 (h.1 52 26)) 52 1 (h.1 52 27)))
    : jG E mX8_province (n + 1) X Post 4 [some (.ref 52), none, none, none, none] [.int s0] h := by
  refine jr_istore_n (pc' := 5) (i := 1) (lv' := [some (.ref 52), some (.int s0), none, none, none]) dX8_province_4 rfl rfl (by decide) rfl ?_
  refine jr_aload_n (pc' := 6) (i := 0) dX8_province_5 rfl rfl rfl ?_
  refine jr_iconst (pc' := 7) (v := 0) dX8_province_6 rfl (by decide) ?_
  refine jr_putI (pc' := 10) jK8 (k := 52) (j := 18) wfX8_95 dX8_province_7 rfl (by decide) rfl (by decide) (by decide) rfl rfl rfl ?_
  refine jr_aload_n (pc' := 11) (i := 0) dX8_province_10 rfl rfl rfl ?_
  refine jr_iload_n (pc' := 12) (i := 1) dX8_province_11 rfl rfl rfl ?_
  by_cases c1 : s0 = 0
  · refine jr_if_eqT (pc' := 19) dX8_province_12 rfl c1 ?_
    refine jr_aload_n (pc' := 20) (i := 0) dX8_province_19 rfl rfl rfl ?_
    refine jr_get (pc' := 23) jK8 (k := 52) (j := 20) (v := .int (h.1 52 20)) wfX8_120 dX8_province_20 rfl (by decide) rfl (by decide) rfl ?_
    refine jr_iconst (pc' := 24) (v := 1) dX8_province_23 rfl (by decide) ?_
    refine jr_iadd (pc' := 25)  dX8_province_24 rfl  ?_
    refine jr_putI (pc' := 28) jK8 (k := 52) (j := 24) wfX8_208 dX8_province_25 rfl (by decide) rfl (by decide) (by decide) rfl rfl rfl ?_
    refine jr_iload_n (pc' := 29) (i := 1) dX8_province_28 rfl rfl rfl ?_
    by_cases c2 : s0 = 0
    · refine jr_if_neF (pc' := 32) (tgt := 40) dX8_province_29 rfl rfl c2 ?_
      refine jr_bipush (pc' := 34) (v := (-10)) dX8_province_32 rfl (by decide) ?_
      refine jr_aload_n (pc' := 35) (i := 0) dX8_province_34 rfl rfl rfl ?_
      refine jr_get (pc' := 38) jK8 (k := 52) (j := 23) (v := .int (h.1 52 23)) wfX8_139 dX8_province_35 rfl (by decide) rfl (by decide) rfl ?_
      refine jr_isub (pc' := 39)  dX8_province_38 rfl  ?_
      exact jr_iret dX8_province_39 rfl rfl (k0 c1 c2)
    · refine jr_if_neT (pc' := 40) dX8_province_29 rfl c2 ?_
      refine jr_aload_n (pc' := 41) (i := 0) dX8_province_40 rfl rfl rfl ?_
      refine jr_aload_n (pc' := 42) (i := 0) dX8_province_41 rfl rfl rfl ?_
      refine jr_get (pc' := 45) jK8 (k := 52) (j := 26) (v := .int (h.1 52 26)) wfX8_155 dX8_province_42 rfl (by decide) rfl (by decide) rfl ?_
      refine jr_putI (pc' := 48) jK8 (k := 52) (j := 0) wfX8_76 dX8_province_45 rfl (by decide) rfl (by decide) (by decide) rfl rfl rfl ?_
      refine jr_aload_n (pc' := 49) (i := 0) dX8_province_48 rfl rfl rfl ?_
      refine jr_aload_n (pc' := 50) (i := 0) dX8_province_49 rfl rfl rfl ?_
      refine jr_get (pc' := 53) jK8 (k := 52) (j := 27) (v := .int (h.1 52 27)) wfX8_160 dX8_province_50 rfl (by decide) rfl (by decide) rfl ?_
      refine jr_putI (pc' := 56) jK8 (k := 52) (j := 1) wfX8_83 dX8_province_53 rfl (by decide) rfl (by decide) (by decide) rfl rfl rfl ?_
      refine jr_iconst (pc' := 57) (v := 0) dX8_province_56 rfl (by decide) ?_
      refine jr_istore_n (pc' := 58) (i := 2) (lv' := [some (.ref 52), some (.int s0), some (.int 0), none, none]) dX8_province_57 rfl rfl (by decide) rfl ?_
      exact jG.weak (lv' := [some (.ref 52), none, some (.int 0), none, none]) ⟨rfl, rfl, trivial⟩ (k1 c1 c2)
  · refine jr_if_eqF (pc' := 15) (tgt := 19) dX8_province_12 rfl rfl c1 ?_
    refine jr_iconst (pc' := 16) (v := 0) dX8_province_15 rfl (by decide) ?_
    refine jr_goto (pc' := 25) dX8_province_16 rfl ?_
    refine jr_putI (pc' := 28) jK8 (k := 52) (j := 24) wfX8_208 dX8_province_25 rfl (by decide) rfl (by decide) (by decide) rfl rfl rfl ?_
    refine jr_iload_n (pc' := 29) (i := 1) dX8_province_28 rfl rfl rfl ?_
    by_cases c3 : s0 = 0
    · refine jr_if_neF (pc' := 32) (tgt := 40) dX8_province_29 rfl rfl c3 ?_
      refine jr_bipush (pc' := 34) (v := (-10)) dX8_province_32 rfl (by decide) ?_
      refine jr_aload_n (pc' := 35) (i := 0) dX8_province_34 rfl rfl rfl ?_
      refine jr_get (pc' := 38) jK8 (k := 52) (j := 23) (v := .int (h.1 52 23)) wfX8_139 dX8_province_35 rfl (by decide) rfl (by decide) rfl ?_
      refine jr_isub (pc' := 39)  dX8_province_38 rfl  ?_
      exact jr_iret dX8_province_39 rfl rfl (k2 c1 c3)
    · refine jr_if_neT (pc' := 40) dX8_province_29 rfl c3 ?_
      refine jr_aload_n (pc' := 41) (i := 0) dX8_province_40 rfl rfl rfl ?_
      refine jr_aload_n (pc' := 42) (i := 0) dX8_province_41 rfl rfl rfl ?_
      refine jr_get (pc' := 45) jK8 (k := 52) (j := 26) (v := .int (h.1 52 26)) wfX8_155 dX8_province_42 rfl (by decide) rfl (by decide) rfl ?_
      refine jr_putI (pc' := 48) jK8 (k := 52) (j := 0) wfX8_76 dX8_province_45 rfl (by decide) rfl (by decide) (by decide) rfl rfl rfl ?_
      refine jr_aload_n (pc' := 49) (i := 0) dX8_province_48 rfl rfl rfl ?_
      refine jr_aload_n (pc' := 50) (i := 0) dX8_province_49 rfl rfl rfl ?_
      refine jr_get (pc' := 53) jK8 (k := 52) (j := 27) (v := .int (h.1 52 27)) wfX8_160 dX8_province_50 rfl (by decide) rfl (by decide) rfl ?_
      refine jr_putI (pc' := 56) jK8 (k := 52) (j := 1) wfX8_83 dX8_province_53 rfl (by decide) rfl (by decide) (by decide) rfl rfl rfl ?_
      refine jr_iconst (pc' := 57) (v := 0) dX8_province_56 rfl (by decide) ?_
      refine jr_istore_n (pc' := 58) (i := 2) (lv' := [some (.ref 52), some (.int s0), some (.int 0), none, none]) dX8_province_57 rfl rfl (by decide) rfl ?_
      exact jG.weak (lv' := [some (.ref 52), none, some (.int 0), none, none]) ⟨rfl, rfl, trivial⟩ (k3 c1 c3)

set_option maxRecDepth 4000 in
theorem q_Moprovince_58 {E : jEnv} {n : Nat} {X : State → Prop} {Post : Option Value → HP → Prop} (a2 : Int32) (h : HP)
    (k0 : ((36 : Int32) ≤ a2) → ((h.1 52 30) = 0) → ((h.1 52 30) = 0) → jG E mX8_province (n + 1) X Post 126 [some (.ref 52), none, some (.int 0), none, none] [] (jPI (jPI h 52 4 1) 63 0 5))
    (k1 : ((36 : Int32) ≤ a2) → ((h.1 52 30) = 0) → (¬ (h.1 52 30) = 0) → jG E mX8_province (n + 1) X Post 126 [some (.ref 52), none, some (.int 0), none, none] [] (jPI (jPI h 52 4 1) 63 0 (h.1 63 0)))
    (k2 : ((36 : Int32) ≤ a2) → (¬ (h.1 52 30) = 0) → ((h.1 52 30) = 0) → jG E mX8_province (n + 1) X Post 126 [some (.ref 52), none, some (.int 0), none, none] [] (jPI (jPI h 52 4 (h.1 52 30)) 63 0 5))
    (k3 : ((36 : Int32) ≤ a2) → (¬ (h.1 52 30) = 0) → (¬ (h.1 52 30) = 0) → jG E mX8_province (n + 1) X Post 126 [some (.ref 52), none, some (.int 0), none, none] [] (jPI (jPI h 52 4 (h.1 52 30)) 63 0 (h.1 63 0)))
    (b0 : (¬ (36 : Int32) ≤ a2) → vp_in a2 36)
    (b1 : (¬ (36 : Int32) ≤ a2) → vp_in a2 36)
    (k4 : (¬ (36 : Int32) ≤ a2) → jG E mX8_province (n + 1) X Post 58 [some (.ref 52), none, some (.int (a2 + 1)), none, none] [] (jPI h 53 a2.toNatClampNeg (h.1 62 a2.toNatClampNeg)))
    : jG E mX8_province (n + 1) X Post 58 [some (.ref 52), none, some (.int a2), none, none] [] h := by
  refine jr_iload_n (pc' := 59) (i := 2) dX8_province_58 rfl rfl rfl ?_
  refine jr_bipush (pc' := 61) (v := 36) dX8_province_59 rfl (by decide) ?_
  by_cases c1 : (36 : Int32) ≤ a2
  · refine jr_icmp_geT (pc' := 82) dX8_province_61 rfl c1 ?_
    refine jr_aload_n (pc' := 83) (i := 0) dX8_province_82 rfl rfl rfl ?_
    refine jr_aload_n (pc' := 84) (i := 0) dX8_province_83 rfl rfl rfl ?_
    refine jr_get (pc' := 87) jK8 (k := 52) (j := 30) (v := .int (h.1 52 30)) wfX8_169 dX8_province_84 rfl (by decide) rfl (by decide) rfl ?_
    by_cases c2 : (h.1 52 30) = 0
    · refine jr_if_neF (pc' := 90) (tgt := 94) dX8_province_87 rfl rfl c2 ?_
      refine jr_iconst (pc' := 91) (v := 1) dX8_province_90 rfl (by decide) ?_
      refine jr_goto (pc' := 98) dX8_province_91 rfl ?_
      refine jr_putI (pc' := 101) jK8 (k := 52) (j := 4) wfX8_69 dX8_province_98 rfl (by decide) rfl (by decide) (by decide) rfl rfl rfl ?_
      refine jr_aload_n (pc' := 102) (i := 0) dX8_province_101 rfl rfl rfl ?_
      refine jr_get (pc' := 105) jK8 (k := 52) (j := 29) (v := .ref 63) wfX8_41 dX8_province_102 rfl (by decide) rfl (by decide) rfl ?_
      refine jr_iconst (pc' := 106) (v := 0) dX8_province_105 rfl (by decide) ?_
      refine jr_aload_n (pc' := 107) (i := 0) dX8_province_106 rfl rfl rfl ?_
      refine jr_get (pc' := 110) jK8 (k := 52) (j := 30) (v := .int (h.1 52 30)) wfX8_169 dX8_province_107 rfl (by decide) rfl (by decide) rfl ?_
      by_cases c3 : (h.1 52 30) = 0
      · refine jr_if_neF (pc' := 113) (tgt := 117) dX8_province_110 rfl rfl c3 ?_
        refine jr_iconst (pc' := 114) (v := 5) dX8_province_113 rfl (by decide) ?_
        refine jr_goto (pc' := 123) dX8_province_114 rfl ?_
        refine jr_iast (pc' := 124) (j := 0) dX8_province_123 rfl (by decide) rfl (jvin (by decide)) (by decide) ?_
        refine jr_iconst (pc' := 125) (v := 0) dX8_province_124 rfl (by decide) ?_
        refine jr_istore_n (pc' := 126) (i := 2) (lv' := [some (.ref 52), none, some (.int 0), none, none]) dX8_province_125 rfl rfl (by decide) rfl ?_
        exact jG.weak (lv' := [some (.ref 52), none, some (.int 0), none, none]) ⟨rfl, rfl, trivial⟩ (k0 c1 c2 c3)
      · refine jr_if_neT (pc' := 117) dX8_province_110 rfl c3 ?_
        refine jr_aload_n (pc' := 118) (i := 0) dX8_province_117 rfl rfl rfl ?_
        refine jr_get (pc' := 121) jK8 (k := 52) (j := 29) (v := .ref 63) wfX8_41 dX8_province_118 rfl (by decide) rfl (by decide) rfl ?_
        refine jr_iconst (pc' := 122) (v := 0) dX8_province_121 rfl (by decide) ?_
        refine jr_iald (pc' := 123) (v := h.1 63 0) dX8_province_122 rfl (by decide) rfl (jvin (by decide)) ((congrArg ((jPI h 52 4 1).1 63) (by decide : (0 : Int32).toNatClampNeg = 0)).trans rfl) ?_
        refine jr_iast (pc' := 124) (j := 0) dX8_province_123 rfl (by decide) rfl (jvin (by decide)) (by decide) ?_
        refine jr_iconst (pc' := 125) (v := 0) dX8_province_124 rfl (by decide) ?_
        refine jr_istore_n (pc' := 126) (i := 2) (lv' := [some (.ref 52), none, some (.int 0), none, none]) dX8_province_125 rfl rfl (by decide) rfl ?_
        exact jG.weak (lv' := [some (.ref 52), none, some (.int 0), none, none]) ⟨rfl, rfl, trivial⟩ (k1 c1 c2 c3)
    · refine jr_if_neT (pc' := 94) dX8_province_87 rfl c2 ?_
      refine jr_aload_n (pc' := 95) (i := 0) dX8_province_94 rfl rfl rfl ?_
      refine jr_get (pc' := 98) jK8 (k := 52) (j := 30) (v := .int (h.1 52 30)) wfX8_169 dX8_province_95 rfl (by decide) rfl (by decide) rfl ?_
      refine jr_putI (pc' := 101) jK8 (k := 52) (j := 4) wfX8_69 dX8_province_98 rfl (by decide) rfl (by decide) (by decide) rfl rfl rfl ?_
      refine jr_aload_n (pc' := 102) (i := 0) dX8_province_101 rfl rfl rfl ?_
      refine jr_get (pc' := 105) jK8 (k := 52) (j := 29) (v := .ref 63) wfX8_41 dX8_province_102 rfl (by decide) rfl (by decide) rfl ?_
      refine jr_iconst (pc' := 106) (v := 0) dX8_province_105 rfl (by decide) ?_
      refine jr_aload_n (pc' := 107) (i := 0) dX8_province_106 rfl rfl rfl ?_
      refine jr_get (pc' := 110) jK8 (k := 52) (j := 30) (v := .int (h.1 52 30)) wfX8_169 dX8_province_107 rfl (by decide) rfl (by decide) rfl ?_
      by_cases c4 : (h.1 52 30) = 0
      · refine jr_if_neF (pc' := 113) (tgt := 117) dX8_province_110 rfl rfl c4 ?_
        refine jr_iconst (pc' := 114) (v := 5) dX8_province_113 rfl (by decide) ?_
        refine jr_goto (pc' := 123) dX8_province_114 rfl ?_
        refine jr_iast (pc' := 124) (j := 0) dX8_province_123 rfl (by decide) rfl (jvin (by decide)) (by decide) ?_
        refine jr_iconst (pc' := 125) (v := 0) dX8_province_124 rfl (by decide) ?_
        refine jr_istore_n (pc' := 126) (i := 2) (lv' := [some (.ref 52), none, some (.int 0), none, none]) dX8_province_125 rfl rfl (by decide) rfl ?_
        exact jG.weak (lv' := [some (.ref 52), none, some (.int 0), none, none]) ⟨rfl, rfl, trivial⟩ (k2 c1 c2 c4)
      · refine jr_if_neT (pc' := 117) dX8_province_110 rfl c4 ?_
        refine jr_aload_n (pc' := 118) (i := 0) dX8_province_117 rfl rfl rfl ?_
        refine jr_get (pc' := 121) jK8 (k := 52) (j := 29) (v := .ref 63) wfX8_41 dX8_province_118 rfl (by decide) rfl (by decide) rfl ?_
        refine jr_iconst (pc' := 122) (v := 0) dX8_province_121 rfl (by decide) ?_
        refine jr_iald (pc' := 123) (v := h.1 63 0) dX8_province_122 rfl (by decide) rfl (jvin (by decide)) ((congrArg ((jPI h 52 4 (h.1 52 30)).1 63) (by decide : (0 : Int32).toNatClampNeg = 0)).trans rfl) ?_
        refine jr_iast (pc' := 124) (j := 0) dX8_province_123 rfl (by decide) rfl (jvin (by decide)) (by decide) ?_
        refine jr_iconst (pc' := 125) (v := 0) dX8_province_124 rfl (by decide) ?_
        refine jr_istore_n (pc' := 126) (i := 2) (lv' := [some (.ref 52), none, some (.int 0), none, none]) dX8_province_125 rfl rfl (by decide) rfl ?_
        exact jG.weak (lv' := [some (.ref 52), none, some (.int 0), none, none]) ⟨rfl, rfl, trivial⟩ (k3 c1 c2 c4)
  · refine jr_icmp_geF (pc' := 64) (tgt := 82) dX8_province_61 rfl rfl c1 ?_
    refine jr_aload_n (pc' := 65) (i := 0) dX8_province_64 rfl rfl rfl ?_
    refine jr_get (pc' := 68) jK8 (k := 52) (j := 2) (v := .ref 53) wfX8_7 dX8_province_65 rfl (by decide) rfl (by decide) rfl ?_
    refine jr_iload_n (pc' := 69) (i := 2) dX8_province_68 rfl rfl rfl ?_
    refine jr_aload_n (pc' := 70) (i := 0) dX8_province_69 rfl rfl rfl ?_
    refine jr_get (pc' := 73) jK8 (k := 52) (j := 28) (v := .ref 62) wfX8_38 dX8_province_70 rfl (by decide) rfl (by decide) rfl ?_
    refine jr_iload_n (pc' := 74) (i := 2) dX8_province_73 rfl rfl rfl ?_
    refine jr_iald (pc' := 75) (v := h.1 62 a2.toNatClampNeg) dX8_province_74 rfl (by decide) rfl (b0 c1) rfl ?_
    refine jr_iast (pc' := 76) (j := a2.toNatClampNeg) dX8_province_75 rfl (by decide) rfl (b1 c1) rfl ?_
    refine jr_iinc (pc' := 79) (i := 2) (v := (a2 + 1)) (lv' := [some (.ref 52), none, some (.int (a2 + 1)), none, none]) dX8_province_76 rfl rfl (congrArg (a2 + ·) (by decide)) (by decide) rfl ?_
    refine jr_goto (pc' := 58) dX8_province_79 rfl ?_
    exact jG.weak (lv' := [some (.ref 52), none, some (.int (a2 + 1)), none, none]) ⟨rfl, rfl, trivial⟩ (k4 c1)

theorem q_Moprovince_126 {E : jEnv} {n : Nat} {X : State → Prop} {Post : Option Value → HP → Prop} (a2 : Int32) (h : HP)
    (k0 : ((6 : Int32) ≤ a2) → jG E mX8_province (n + 1) X Post 168 [some (.ref 52), none, some (.int 0), none, none] [] (jPI (jPI h 52 5 (h.1 52 31)) 52 6 (h.1 52 33)))
    (b0 : (¬ (6 : Int32) ≤ a2) → vp_in a2 6)
    (b1 : (¬ (6 : Int32) ≤ a2) → vp_in a2 6)
    (k1 : (¬ (6 : Int32) ≤ a2) → jG E mX8_province (n + 1) X Post 126 [some (.ref 52), none, some (.int (a2 + 1)), none, none] [] (jPI h 54 a2.toNatClampNeg (h.1 63 a2.toNatClampNeg)))
    : jG E mX8_province (n + 1) X Post 126 [some (.ref 52), none, some (.int a2), none, none] [] h := by
  refine jr_iload_n (pc' := 127) (i := 2) dX8_province_126 rfl rfl rfl ?_
  refine jr_bipush (pc' := 129) (v := 6) dX8_province_127 rfl (by decide) ?_
  by_cases c1 : (6 : Int32) ≤ a2
  · refine jr_icmp_geT (pc' := 150) dX8_province_129 rfl c1 ?_
    refine jr_aload_n (pc' := 151) (i := 0) dX8_province_150 rfl rfl rfl ?_
    refine jr_aload_n (pc' := 152) (i := 0) dX8_province_151 rfl rfl rfl ?_
    refine jr_get (pc' := 155) jK8 (k := 52) (j := 31) (v := .int (h.1 52 31)) wfX8_172 dX8_province_152 rfl (by decide) rfl (by decide) rfl ?_
    refine jr_putI (pc' := 158) jK8 (k := 52) (j := 5) wfX8_86 dX8_province_155 rfl (by decide) rfl (by decide) (by decide) rfl rfl rfl ?_
    refine jr_aload_n (pc' := 159) (i := 0) dX8_province_158 rfl rfl rfl ?_
    refine jr_aload_n (pc' := 160) (i := 0) dX8_province_159 rfl rfl rfl ?_
    refine jr_get (pc' := 163) jK8 (k := 52) (j := 33) (v := .int (h.1 52 33)) wfX8_179 dX8_province_160 rfl (by decide) rfl (by decide) rfl ?_
    refine jr_putI (pc' := 166) jK8 (k := 52) (j := 6) wfX8_89 dX8_province_163 rfl (by decide) rfl (by decide) (by decide) rfl rfl rfl ?_
    refine jr_iconst (pc' := 167) (v := 0) dX8_province_166 rfl (by decide) ?_
    refine jr_istore_n (pc' := 168) (i := 2) (lv' := [some (.ref 52), none, some (.int 0), none, none]) dX8_province_167 rfl rfl (by decide) rfl ?_
    exact jG.weak (lv' := [some (.ref 52), none, some (.int 0), none, none]) ⟨rfl, rfl, trivial⟩ (k0 c1)
  · refine jr_icmp_geF (pc' := 132) (tgt := 150) dX8_province_129 rfl rfl c1 ?_
    refine jr_aload_n (pc' := 133) (i := 0) dX8_province_132 rfl rfl rfl ?_
    refine jr_get (pc' := 136) jK8 (k := 52) (j := 3) (v := .ref 54) wfX8_13 dX8_province_133 rfl (by decide) rfl (by decide) rfl ?_
    refine jr_iload_n (pc' := 137) (i := 2) dX8_province_136 rfl rfl rfl ?_
    refine jr_aload_n (pc' := 138) (i := 0) dX8_province_137 rfl rfl rfl ?_
    refine jr_get (pc' := 141) jK8 (k := 52) (j := 29) (v := .ref 63) wfX8_41 dX8_province_138 rfl (by decide) rfl (by decide) rfl ?_
    refine jr_iload_n (pc' := 142) (i := 2) dX8_province_141 rfl rfl rfl ?_
    refine jr_iald (pc' := 143) (v := h.1 63 a2.toNatClampNeg) dX8_province_142 rfl (by decide) rfl (b0 c1) rfl ?_
    refine jr_iast (pc' := 144) (j := a2.toNatClampNeg) dX8_province_143 rfl (by decide) rfl (b1 c1) rfl ?_
    refine jr_iinc (pc' := 147) (i := 2) (v := (a2 + 1)) (lv' := [some (.ref 52), none, some (.int (a2 + 1)), none, none]) dX8_province_144 rfl rfl (congrArg (a2 + ·) (by decide)) (by decide) rfl ?_
    refine jr_goto (pc' := 126) dX8_province_147 rfl ?_
    exact jG.weak (lv' := [some (.ref 52), none, some (.int (a2 + 1)), none, none]) ⟨rfl, rfl, trivial⟩ (k1 c1)

theorem q_Moprovince_168 {E : jEnv} {n : Nat} {X : State → Prop} {Post : Option Value → HP → Prop} (a2 : Int32) (h : HP)
    (k0 : ((4 : Int32) ≤ a2) → jG E mX8_province (n + 1) X Post 208 [some (.ref 52), none, some (.int (h.1 56 1)), some (.int 0), none] [] (jPI h 52 8 (h.1 52 35)))
    (b0 : (¬ (4 : Int32) ≤ a2) → vp_in a2 4)
    (b1 : (¬ (4 : Int32) ≤ a2) → vp_in a2 4)
    (k1 : (¬ (4 : Int32) ≤ a2) → jG E mX8_province (n + 1) X Post 168 [some (.ref 52), none, some (.int (a2 + 1)), none, none] [] (jPI h 55 a2.toNatClampNeg (h.1 65 a2.toNatClampNeg)))
    : jG E mX8_province (n + 1) X Post 168 [some (.ref 52), none, some (.int a2), none, none] [] h := by
  refine jr_iload_n (pc' := 169) (i := 2) dX8_province_168 rfl rfl rfl ?_
  refine jr_iconst (pc' := 170) (v := 4) dX8_province_169 rfl (by decide) ?_
  by_cases c1 : (4 : Int32) ≤ a2
  · refine jr_icmp_geT (pc' := 191) dX8_province_170 rfl c1 ?_
    refine jr_aload_n (pc' := 192) (i := 0) dX8_province_191 rfl rfl rfl ?_
    refine jr_aload_n (pc' := 193) (i := 0) dX8_province_192 rfl rfl rfl ?_
    refine jr_get (pc' := 196) jK8 (k := 52) (j := 35) (v := .int (h.1 52 35)) wfX8_186 dX8_province_193 rfl (by decide) rfl (by decide) rfl ?_
    refine jr_putI (pc' := 199) jK8 (k := 52) (j := 8) wfX8_211 dX8_province_196 rfl (by decide) rfl (by decide) (by decide) rfl rfl rfl ?_
    refine jr_aload_n (pc' := 200) (i := 0) dX8_province_199 rfl rfl rfl ?_
    refine jr_get (pc' := 203) jK8 (k := 52) (j := 9) (v := .ref 56) wfX8_19 dX8_province_200 rfl (by decide) rfl (by decide) rfl ?_
    refine jr_iconst (pc' := 204) (v := 1) dX8_province_203 rfl (by decide) ?_
    refine jr_iald (pc' := 205) (v := h.1 56 1) dX8_province_204 rfl (by decide) rfl (jvin (by decide)) ((congrArg ((jPI h 52 8 (h.1 52 35)).1 56) (by decide : (1 : Int32).toNatClampNeg = 1)).trans rfl) ?_
    refine jr_istore_n (pc' := 206) (i := 2) (lv' := [some (.ref 52), none, some (.int (h.1 56 1)), none, none]) dX8_province_205 rfl rfl (by decide) rfl ?_
    refine jr_iconst (pc' := 207) (v := 0) dX8_province_206 rfl (by decide) ?_
    refine jr_istore_n (pc' := 208) (i := 3) (lv' := [some (.ref 52), none, some (.int (h.1 56 1)), some (.int 0), none]) dX8_province_207 rfl rfl (by decide) rfl ?_
    exact jG.weak (lv' := [some (.ref 52), none, some (.int (h.1 56 1)), some (.int 0), none]) ⟨rfl, rfl, rfl, trivial⟩ (k0 c1)
  · refine jr_icmp_geF (pc' := 173) (tgt := 191) dX8_province_170 rfl rfl c1 ?_
    refine jr_aload_n (pc' := 174) (i := 0) dX8_province_173 rfl rfl rfl ?_
    refine jr_get (pc' := 177) jK8 (k := 52) (j := 7) (v := .ref 55) wfX8_16 dX8_province_174 rfl (by decide) rfl (by decide) rfl ?_
    refine jr_iload_n (pc' := 178) (i := 2) dX8_province_177 rfl rfl rfl ?_
    refine jr_aload_n (pc' := 179) (i := 0) dX8_province_178 rfl rfl rfl ?_
    refine jr_get (pc' := 182) jK8 (k := 52) (j := 34) (v := .ref 65) wfX8_47 dX8_province_179 rfl (by decide) rfl (by decide) rfl ?_
    refine jr_iload_n (pc' := 183) (i := 2) dX8_province_182 rfl rfl rfl ?_
    refine jr_iald (pc' := 184) (v := h.1 65 a2.toNatClampNeg) dX8_province_183 rfl (by decide) rfl (b0 c1) rfl ?_
    refine jr_iast (pc' := 185) (j := a2.toNatClampNeg) dX8_province_184 rfl (by decide) rfl (b1 c1) rfl ?_
    refine jr_iinc (pc' := 188) (i := 2) (v := (a2 + 1)) (lv' := [some (.ref 52), none, some (.int (a2 + 1)), none, none]) dX8_province_185 rfl rfl (congrArg (a2 + ·) (by decide)) (by decide) rfl ?_
    refine jr_goto (pc' := 168) dX8_province_188 rfl ?_
    exact jG.weak (lv' := [some (.ref 52), none, some (.int (a2 + 1)), none, none]) ⟨rfl, rfl, trivial⟩ (k1 c1)

theorem q_Moprovince_208 {E : jEnv} {n : Nat} {X : State → Prop} {Post : Option Value → HP → Prop} (a2 : Int32) (a3 : Int32) (h : HP)
    (k0 : ((62 : Int32) ≤ a3) → jG E mX8_province (n + 1) X Post 236 [some (.ref 52), none, none, some (.int 0), none] [] (jPI h 56 1 a2))
    (b0 : (¬ (62 : Int32) ≤ a3) → vp_in a3 62)
    (k1 : (¬ (62 : Int32) ≤ a3) → jG E mX8_province (n + 1) X Post 208 [some (.ref 52), none, some (.int a2), some (.int (a3 + 1)), none] [] (jPI h 56 a3.toNatClampNeg 0))
    : jG E mX8_province (n + 1) X Post 208 [some (.ref 52), none, some (.int a2), some (.int a3), none] [] h := by
  refine jr_iload_n (pc' := 209) (i := 3) dX8_province_208 rfl rfl rfl ?_
  refine jr_bipush (pc' := 211) (v := 62) dX8_province_209 rfl (by decide) ?_
  by_cases c1 : (62 : Int32) ≤ a3
  · refine jr_icmp_geT (pc' := 227) dX8_province_211 rfl c1 ?_
    refine jr_aload_n (pc' := 228) (i := 0) dX8_province_227 rfl rfl rfl ?_
    refine jr_get (pc' := 231) jK8 (k := 52) (j := 9) (v := .ref 56) wfX8_19 dX8_province_228 rfl (by decide) rfl (by decide) rfl ?_
    refine jr_iconst (pc' := 232) (v := 1) dX8_province_231 rfl (by decide) ?_
    refine jr_iload_n (pc' := 233) (i := 2) dX8_province_232 rfl rfl rfl ?_
    refine jr_iast (pc' := 234) (j := 1) dX8_province_233 rfl (by decide) rfl (jvin (by decide)) (by decide) ?_
    refine jr_iconst (pc' := 235) (v := 0) dX8_province_234 rfl (by decide) ?_
    refine jr_istore_n (pc' := 236) (i := 3) (lv' := [some (.ref 52), none, some (.int a2), some (.int 0), none]) dX8_province_235 rfl rfl (by decide) rfl ?_
    exact jG.weak (lv' := [some (.ref 52), none, none, some (.int 0), none]) ⟨rfl, rfl, trivial⟩ (k0 c1)
  · refine jr_icmp_geF (pc' := 214) (tgt := 227) dX8_province_211 rfl rfl c1 ?_
    refine jr_aload_n (pc' := 215) (i := 0) dX8_province_214 rfl rfl rfl ?_
    refine jr_get (pc' := 218) jK8 (k := 52) (j := 9) (v := .ref 56) wfX8_19 dX8_province_215 rfl (by decide) rfl (by decide) rfl ?_
    refine jr_iload_n (pc' := 219) (i := 3) dX8_province_218 rfl rfl rfl ?_
    refine jr_iconst (pc' := 220) (v := 0) dX8_province_219 rfl (by decide) ?_
    refine jr_iast (pc' := 221) (j := a3.toNatClampNeg) dX8_province_220 rfl (by decide) rfl (b0 c1) rfl ?_
    refine jr_iinc (pc' := 224) (i := 3) (v := (a3 + 1)) (lv' := [some (.ref 52), none, some (.int a2), some (.int (a3 + 1)), none]) dX8_province_221 rfl rfl (congrArg (a3 + ·) (by decide)) (by decide) rfl ?_
    refine jr_goto (pc' := 208) dX8_province_224 rfl ?_
    exact jG.weak (lv' := [some (.ref 52), none, some (.int a2), some (.int (a3 + 1)), none]) ⟨rfl, rfl, rfl, trivial⟩ (k1 c1)

theorem q_Moprovince_236 {E : jEnv} {n : Nat} {X : State → Prop} {Post : Option Value → HP → Prop} (a3 : Int32) (h : HP)
    (k0 : ((h.1 52 5) ≤ a3) → jCall E mX8_hears n [.ref 52] (jPI (jPI (jPI (jPI (jPI h 58 0 (vp_nar .boolean 0)) 58 1 (vp_nar .boolean 0)) 52 12 (-1)) 52 14 0) 52 16 0) (fun v h2 => jG E mX8_province (n + 1) X Post 323 [some (.ref 52), none, none, none, none] (v.toList ++ []) h2))
    (k1 : (¬ (h.1 52 5) ≤ a3) → jG E mX8_province (n + 1) X Post 247 [some (.ref 52), none, none, some (.int a3), some (.int 0)] [] h)
    : jG E mX8_province (n + 1) X Post 236 [some (.ref 52), none, none, some (.int a3), none] [] h := by
  refine jr_iload_n (pc' := 237) (i := 3) dX8_province_236 rfl rfl rfl ?_
  refine jr_aload_n (pc' := 238) (i := 0) dX8_province_237 rfl rfl rfl ?_
  refine jr_get (pc' := 241) jK8 (k := 52) (j := 5) (v := .int (h.1 52 5)) wfX8_86 dX8_province_238 rfl (by decide) rfl (by decide) rfl ?_
  by_cases c1 : (h.1 52 5) ≤ a3
  · refine jr_icmp_geT (pc' := 290) dX8_province_241 rfl c1 ?_
    refine jr_aload_n (pc' := 291) (i := 0) dX8_province_290 rfl rfl rfl ?_
    refine jr_get (pc' := 294) jK8 (k := 52) (j := 11) (v := .ref 58) wfX8_25 dX8_province_291 rfl (by decide) rfl (by decide) rfl ?_
    refine jr_iconst (pc' := 295) (v := 0) dX8_province_294 rfl (by decide) ?_
    refine jr_iconst (pc' := 296) (v := 0) dX8_province_295 rfl (by decide) ?_
    refine jr_zast (pc' := 297) (j := 0) dX8_province_296 rfl (by decide) rfl (jvin (by decide)) (by decide) ?_
    refine jr_aload_n (pc' := 298) (i := 0) dX8_province_297 rfl rfl rfl ?_
    refine jr_get (pc' := 301) jK8 (k := 52) (j := 11) (v := .ref 58) wfX8_25 dX8_province_298 rfl (by decide) rfl (by decide) rfl ?_
    refine jr_iconst (pc' := 302) (v := 1) dX8_province_301 rfl (by decide) ?_
    refine jr_iconst (pc' := 303) (v := 0) dX8_province_302 rfl (by decide) ?_
    refine jr_zast (pc' := 304) (j := 1) dX8_province_303 rfl (by decide) rfl (jvin (by decide)) (by decide) ?_
    refine jr_aload_n (pc' := 305) (i := 0) dX8_province_304 rfl rfl rfl ?_
    refine jr_iconst (pc' := 306) (v := (-1)) dX8_province_305 rfl (by decide) ?_
    refine jr_putI (pc' := 309) jK8 (k := 52) (j := 12) wfX8_73 dX8_province_306 rfl (by decide) rfl (by decide) (by decide) rfl rfl rfl ?_
    refine jr_aload_n (pc' := 310) (i := 0) dX8_province_309 rfl rfl rfl ?_
    refine jr_iconst (pc' := 311) (v := 0) dX8_province_310 rfl (by decide) ?_
    refine jr_putI (pc' := 314) jK8 (k := 52) (j := 14) wfX8_214 dX8_province_311 rfl (by decide) rfl (by decide) (by decide) rfl rfl rfl ?_
    refine jr_aload_n (pc' := 315) (i := 0) dX8_province_314 rfl rfl rfl ?_
    refine jr_iconst (pc' := 316) (v := 0) dX8_province_315 rfl (by decide) ?_
    refine jr_putI (pc' := 319) jK8 (k := 52) (j := 16) wfX8_217 dX8_province_316 rfl (by decide) rfl (by decide) (by decide) rfl rfl rfl ?_
    refine jr_aload_n (pc' := 320) (i := 0) dX8_province_319 rfl rfl rfl ?_
    obtain ⟨P1, hC1, hK1⟩ := k0 c1
    exact jr_callV (pc' := 323) (k := 52) (av := []) (st := []) sX8_hears wmX8_220 dX8_province_320 rfl (by decide) rfl (by decide) rfl rfl rfl (Nat.le_of_ble_eq_true rfl) rfl hC1 (fun v h2 hp => jG.weak (lv' := [some (.ref 52), none, none, none, none]) ⟨rfl, trivial⟩ (hK1 v h2 hp))
  · refine jr_icmp_geF (pc' := 244) (tgt := 290) dX8_province_241 rfl rfl c1 ?_
    refine jr_iconst (pc' := 245) (v := 0) dX8_province_244 rfl (by decide) ?_
    refine jr_istore (pc' := 247) (i := 4) (lv' := [some (.ref 52), none, none, some (.int a3), some (.int 0)]) dX8_province_245 rfl (by decide) rfl ?_
    exact jG.weak (lv' := [some (.ref 52), none, none, some (.int a3), some (.int 0)]) ⟨rfl, rfl, rfl, trivial⟩ (k1 c1)

theorem q_Moprovince_323 {E : jEnv} {n : Nat} {X : State → Prop} {Post : Option Value → HP → Prop}  (h : HP)
    (k0 : Post (some (.int ((h.1 52 0) * (h.1 52 1)))) h)
    : jG E mX8_province (n + 1) X Post 323 [some (.ref 52), none, none, none, none] [] h := by
  refine jr_aload_n (pc' := 324) (i := 0) dX8_province_323 rfl rfl rfl ?_
  refine jr_get (pc' := 327) jK8 (k := 52) (j := 0) (v := .int (h.1 52 0)) wfX8_76 dX8_province_324 rfl (by decide) rfl (by decide) rfl ?_
  refine jr_aload_n (pc' := 328) (i := 0) dX8_province_327 rfl rfl rfl ?_
  refine jr_get (pc' := 331) jK8 (k := 52) (j := 1) (v := .int (h.1 52 1)) wfX8_83 dX8_province_328 rfl (by decide) rfl (by decide) rfl ?_
  refine jr_imul (pc' := 332)  dX8_province_331 rfl  ?_
  exact jr_iret dX8_province_332 rfl rfl (k0)

theorem q_Moprovince_247 {E : jEnv} {n : Nat} {X : State → Prop} {Post : Option Value → HP → Prop} (a3 : Int32) (a4 : Int32) (h : HP)
    (k0 : ((3 : Int32) ≤ a4) → jG E mX8_province (n + 1) X Post 236 [some (.ref 52), none, none, some (.int (a3 + 1)), none] [] h)
    (b0 : (¬ (3 : Int32) ≤ a4) → vp_in ((3 * a3) + a4) 12)
    (b1 : (¬ (3 : Int32) ≤ a4) → vp_in ((2 + (6 * a3)) + a4) 62)
    (k1 : (¬ (3 : Int32) ≤ a4) → jG E mX8_province (n + 1) X Post 247 [some (.ref 52), none, none, some (.int a3), some (.int (a4 + 1))] [] (jPI h 56 (((2 + (6 * a3)) + a4).toNatClampNeg) (h.1 64 (((3 * a3) + a4).toNatClampNeg))))
    : jG E mX8_province (n + 1) X Post 247 [some (.ref 52), none, none, some (.int a3), some (.int a4)] [] h := by
  refine jr_iload (pc' := 249) (i := 4) dX8_province_247 rfl rfl ?_
  refine jr_iconst (pc' := 250) (v := 3) dX8_province_249 rfl (by decide) ?_
  by_cases c1 : (3 : Int32) ≤ a4
  · refine jr_icmp_geT (pc' := 284) dX8_province_250 rfl c1 ?_
    refine jr_iinc (pc' := 287) (i := 3) (v := (a3 + 1)) (lv' := [some (.ref 52), none, none, some (.int (a3 + 1)), some (.int a4)]) dX8_province_284 rfl rfl (congrArg (a3 + ·) (by decide)) (by decide) rfl ?_
    refine jr_goto (pc' := 236) dX8_province_287 rfl ?_
    exact jG.weak (lv' := [some (.ref 52), none, none, some (.int (a3 + 1)), none]) ⟨rfl, rfl, trivial⟩ (k0 c1)
  · refine jr_icmp_geF (pc' := 253) (tgt := 284) dX8_province_250 rfl rfl c1 ?_
    refine jr_aload_n (pc' := 254) (i := 0) dX8_province_253 rfl rfl rfl ?_
    refine jr_get (pc' := 257) jK8 (k := 52) (j := 9) (v := .ref 56) wfX8_19 dX8_province_254 rfl (by decide) rfl (by decide) rfl ?_
    refine jr_iconst (pc' := 258) (v := 2) dX8_province_257 rfl (by decide) ?_
    refine jr_bipush (pc' := 260) (v := 6) dX8_province_258 rfl (by decide) ?_
    refine jr_iload_n (pc' := 261) (i := 3) dX8_province_260 rfl rfl rfl ?_
    refine jr_imul (pc' := 262)  dX8_province_261 rfl  ?_
    refine jr_iadd (pc' := 263)  dX8_province_262 rfl  ?_
    refine jr_iload (pc' := 265) (i := 4) dX8_province_263 rfl rfl ?_
    refine jr_iadd (pc' := 266)  dX8_province_265 rfl  ?_
    refine jr_aload_n (pc' := 267) (i := 0) dX8_province_266 rfl rfl rfl ?_
    refine jr_get (pc' := 270) jK8 (k := 52) (j := 32) (v := .ref 64) wfX8_44 dX8_province_267 rfl (by decide) rfl (by decide) rfl ?_
    refine jr_iconst (pc' := 271) (v := 3) dX8_province_270 rfl (by decide) ?_
    refine jr_iload_n (pc' := 272) (i := 3) dX8_province_271 rfl rfl rfl ?_
    refine jr_imul (pc' := 273)  dX8_province_272 rfl  ?_
    refine jr_iload (pc' := 275) (i := 4) dX8_province_273 rfl rfl ?_
    refine jr_iadd (pc' := 276)  dX8_province_275 rfl  ?_
    refine jr_iald (pc' := 277) (v := h.1 64 (((3 * a3) + a4).toNatClampNeg)) dX8_province_276 rfl (by decide) rfl (b0 c1) rfl ?_
    refine jr_iast (pc' := 278) (j := ((2 + (6 * a3)) + a4).toNatClampNeg) dX8_province_277 rfl (by decide) rfl (b1 c1) rfl ?_
    refine jr_iinc (pc' := 281) (i := 4) (v := (a4 + 1)) (lv' := [some (.ref 52), none, none, some (.int a3), some (.int (a4 + 1))]) dX8_province_278 rfl rfl (congrArg (a4 + ·) (by decide)) (by decide) rfl ?_
    refine jr_goto (pc' := 247) dX8_province_281 rfl ?_
    exact jG.weak (lv' := [some (.ref 52), none, none, some (.int a3), some (.int (a4 + 1))]) ⟨rfl, rfl, rfl, trivial⟩ (k1 c1)

theorem q_Moreads_0 {E : jEnv} {n : Nat} {X : State → Prop} {Post : Option Value → HP → Prop}  (h : HP)
    (k0 : jG E mX8_reads (n + 1) X Post 47 [some (.ref 52), some (.int 0)] [] (jPI (jPI (jPI (jPI (jPI (jPI (jPI (jPI (jPI h 52 19 0) 52 26 0) 52 27 0) 52 30 0) 52 31 0) 52 33 0) 52 35 0) 52 36 0) 52 37 0))
    : jG E mX8_reads (n + 1) X Post 0 [some (.ref 52), none] [] h := by
  refine jr_aload_n (pc' := 1) (i := 0) dX8_reads_0 rfl rfl rfl ?_
  refine jr_iconst (pc' := 2) (v := 0) dX8_reads_1 rfl (by decide) ?_
  refine jr_putI (pc' := 5) jK8 (k := 52) (j := 19) wfX8_101 dX8_reads_2 rfl (by decide) rfl (by decide) (by decide) rfl rfl rfl ?_
  refine jr_aload_n (pc' := 6) (i := 0) dX8_reads_5 rfl rfl rfl ?_
  refine jr_iconst (pc' := 7) (v := 0) dX8_reads_6 rfl (by decide) ?_
  refine jr_putI (pc' := 10) jK8 (k := 52) (j := 26) wfX8_155 dX8_reads_7 rfl (by decide) rfl (by decide) (by decide) rfl rfl rfl ?_
  refine jr_aload_n (pc' := 11) (i := 0) dX8_reads_10 rfl rfl rfl ?_
  refine jr_iconst (pc' := 12) (v := 0) dX8_reads_11 rfl (by decide) ?_
  refine jr_putI (pc' := 15) jK8 (k := 52) (j := 27) wfX8_160 dX8_reads_12 rfl (by decide) rfl (by decide) (by decide) rfl rfl rfl ?_
  refine jr_aload_n (pc' := 16) (i := 0) dX8_reads_15 rfl rfl rfl ?_
  refine jr_iconst (pc' := 17) (v := 0) dX8_reads_16 rfl (by decide) ?_
  refine jr_putI (pc' := 20) jK8 (k := 52) (j := 30) wfX8_169 dX8_reads_17 rfl (by decide) rfl (by decide) (by decide) rfl rfl rfl ?_
  refine jr_aload_n (pc' := 21) (i := 0) dX8_reads_20 rfl rfl rfl ?_
  refine jr_iconst (pc' := 22) (v := 0) dX8_reads_21 rfl (by decide) ?_
  refine jr_putI (pc' := 25) jK8 (k := 52) (j := 31) wfX8_172 dX8_reads_22 rfl (by decide) rfl (by decide) (by decide) rfl rfl rfl ?_
  refine jr_aload_n (pc' := 26) (i := 0) dX8_reads_25 rfl rfl rfl ?_
  refine jr_iconst (pc' := 27) (v := 0) dX8_reads_26 rfl (by decide) ?_
  refine jr_putI (pc' := 30) jK8 (k := 52) (j := 33) wfX8_179 dX8_reads_27 rfl (by decide) rfl (by decide) (by decide) rfl rfl rfl ?_
  refine jr_aload_n (pc' := 31) (i := 0) dX8_reads_30 rfl rfl rfl ?_
  refine jr_iconst (pc' := 32) (v := 0) dX8_reads_31 rfl (by decide) ?_
  refine jr_putI (pc' := 35) jK8 (k := 52) (j := 35) wfX8_186 dX8_reads_32 rfl (by decide) rfl (by decide) (by decide) rfl rfl rfl ?_
  refine jr_aload_n (pc' := 36) (i := 0) dX8_reads_35 rfl rfl rfl ?_
  refine jr_iconst (pc' := 37) (v := 0) dX8_reads_36 rfl (by decide) ?_
  refine jr_putI (pc' := 40) jK8 (k := 52) (j := 36) wfX8_166 dX8_reads_37 rfl (by decide) rfl (by decide) (by decide) rfl rfl rfl ?_
  refine jr_aload_n (pc' := 41) (i := 0) dX8_reads_40 rfl rfl rfl ?_
  refine jr_iconst (pc' := 42) (v := 0) dX8_reads_41 rfl (by decide) ?_
  refine jr_putI (pc' := 45) jK8 (k := 52) (j := 37) wfX8_182 dX8_reads_42 rfl (by decide) rfl (by decide) (by decide) rfl rfl rfl ?_
  refine jr_iconst (pc' := 46) (v := 0) dX8_reads_45 rfl (by decide) ?_
  refine jr_istore_n (pc' := 47) (i := 1) (lv' := [some (.ref 52), some (.int 0)]) dX8_reads_46 rfl rfl (by decide) rfl ?_
  exact jG.weak (lv' := [some (.ref 52), some (.int 0)]) ⟨rfl, rfl, trivial⟩ (k0)

theorem q_Moreads_47 {E : jEnv} {n : Nat} {X : State → Prop} {Post : Option Value → HP → Prop} (a1 : Int32) (h : HP)
    (k0 : ((36 : Int32) ≤ a1) → jCall E mX8_scans n [.ref 52] h (fun v h2 => jG E mX8_reads (n + 1) X Post 70 [some (.ref 52), none] (v.toList ++ []) h2))
    (b0 : (¬ (36 : Int32) ≤ a1) → vp_in a1 36)
    (k1 : (¬ (36 : Int32) ≤ a1) → jG E mX8_reads (n + 1) X Post 47 [some (.ref 52), some (.int (a1 + 1))] [] (jPI h 62 a1.toNatClampNeg 0))
    : jG E mX8_reads (n + 1) X Post 47 [some (.ref 52), some (.int a1)] [] h := by
  refine jr_iload_n (pc' := 48) (i := 1) dX8_reads_47 rfl rfl rfl ?_
  refine jr_bipush (pc' := 50) (v := 36) dX8_reads_48 rfl (by decide) ?_
  by_cases c1 : (36 : Int32) ≤ a1
  · refine jr_icmp_geT (pc' := 66) dX8_reads_50 rfl c1 ?_
    refine jr_aload_n (pc' := 67) (i := 0) dX8_reads_66 rfl rfl rfl ?_
    obtain ⟨P1, hC1, hK1⟩ := k0 c1
    exact jr_callV (pc' := 70) (k := 52) (av := []) (st := []) sX8_scans wmX8_149 dX8_reads_67 rfl (by decide) rfl (by decide) rfl rfl rfl (Nat.le_of_ble_eq_true rfl) rfl hC1 (fun v h2 hp => jG.weak (lv' := [some (.ref 52), none]) ⟨rfl, trivial⟩ (hK1 v h2 hp))
  · refine jr_icmp_geF (pc' := 53) (tgt := 66) dX8_reads_50 rfl rfl c1 ?_
    refine jr_aload_n (pc' := 54) (i := 0) dX8_reads_53 rfl rfl rfl ?_
    refine jr_get (pc' := 57) jK8 (k := 52) (j := 28) (v := .ref 62) wfX8_38 dX8_reads_54 rfl (by decide) rfl (by decide) rfl ?_
    refine jr_iload_n (pc' := 58) (i := 1) dX8_reads_57 rfl rfl rfl ?_
    refine jr_iconst (pc' := 59) (v := 0) dX8_reads_58 rfl (by decide) ?_
    refine jr_iast (pc' := 60) (j := a1.toNatClampNeg) dX8_reads_59 rfl (by decide) rfl (b0 c1) rfl ?_
    refine jr_iinc (pc' := 63) (i := 1) (v := (a1 + 1)) (lv' := [some (.ref 52), some (.int (a1 + 1))]) dX8_reads_60 rfl rfl (congrArg (a1 + ·) (by decide)) (by decide) rfl ?_
    refine jr_goto (pc' := 47) dX8_reads_63 rfl ?_
    exact jG.weak (lv' := [some (.ref 52), some (.int (a1 + 1))]) ⟨rfl, rfl, trivial⟩ (k1 c1)

theorem q_Moreads_70 {E : jEnv} {n : Nat} {X : State → Prop} {Post : Option Value → HP → Prop}  (h : HP)
    (k0 : ((h.1 52 21) = 0) → Post (some (.int 1)) h)
    (k1 : (¬ (h.1 52 21) = 0) → ((h.1 52 21) = 5) → jCall E mX8_scans n [.ref 52] h (fun v h2 => jG E mX8_reads (n + 1) X Post 97 [some (.ref 52), none] (v.toList ++ []) h2))
    (k2 : (¬ (h.1 52 21) = 0) → (¬ (h.1 52 21) = 5) → Post (some (.int (f_Mofaults 1))) (jPI h 52 23 1))
    (b0 : (¬ (h.1 52 21) = 0) → (¬ (h.1 52 21) = 5) → narrow .boolean (.int (f_Mofaults 1)) = .int (f_Mofaults 1))
    : jG E mX8_reads (n + 1) X Post 70 [some (.ref 52), none] [] h := by
  refine jr_aload_n (pc' := 71) (i := 0) dX8_reads_70 rfl rfl rfl ?_
  refine jr_get (pc' := 74) jK8 (k := 52) (j := 21) (v := .int (h.1 52 21)) wfX8_123 dX8_reads_71 rfl (by decide) rfl (by decide) rfl ?_
  by_cases c1 : (h.1 52 21) = 0
  · refine jr_if_neF (pc' := 77) (tgt := 79) dX8_reads_74 rfl rfl c1 ?_
    refine jr_iconst (pc' := 78) (v := 1) dX8_reads_77 rfl (by decide) ?_
    exact jr_iret dX8_reads_78 rfl rfl (k0 c1)
  · refine jr_if_neT (pc' := 79) dX8_reads_74 rfl c1 ?_
    refine jr_aload_n (pc' := 80) (i := 0) dX8_reads_79 rfl rfl rfl ?_
    refine jr_get (pc' := 83) jK8 (k := 52) (j := 21) (v := .int (h.1 52 21)) wfX8_123 dX8_reads_80 rfl (by decide) rfl (by decide) rfl ?_
    refine jr_iconst (pc' := 84) (v := 5) dX8_reads_83 rfl (by decide) ?_
    by_cases c2 : (h.1 52 21) = 5
    · refine jr_icmp_eqT (pc' := 93) dX8_reads_84 rfl c2 ?_
      refine jr_aload_n (pc' := 94) (i := 0) dX8_reads_93 rfl rfl rfl ?_
      obtain ⟨P1, hC1, hK1⟩ := k1 c1 c2
      exact jr_callV (pc' := 97) (k := 52) (av := []) (st := []) sX8_scans wmX8_149 dX8_reads_94 rfl (by decide) rfl (by decide) rfl rfl rfl (Nat.le_of_ble_eq_true rfl) rfl hC1 (fun v h2 hp => jG.weak (lv' := [some (.ref 52), none]) ⟨rfl, trivial⟩ (hK1 v h2 hp))
    · refine jr_icmp_eqF (pc' := 87) (tgt := 93) dX8_reads_84 rfl rfl c2 ?_
      refine jr_aload_n (pc' := 88) (i := 0) dX8_reads_87 rfl rfl rfl ?_
      refine jr_iconst (pc' := 89) (v := 1) dX8_reads_88 rfl (by decide) ?_
      refine jr_callV (pc' := 92) (k := 52) (av := [.int 1]) (st := []) sX8_faults wmX8_142 dX8_reads_89 rfl (by decide) rfl (by decide) rfl rfl rfl (Nat.le_of_ble_eq_true rfl) rfl (c_Mofaults (n := n) 1 h ) (fun v h2 hp => ?_)
      rw [hp.1, hp.2]
      show jG E mX8_reads (n + 1) X Post 92 [some (.ref 52), none] [.int (f_Mofaults 1)] (jPI h 52 23 1)
      exact jr_iret dX8_reads_92 rfl (b0 c1 c2) (k2 c1 c2)

theorem q_Moreads_97 {E : jEnv} {n : Nat} {X : State → Prop} {Post : Option Value → HP → Prop}  (h : HP)
    (k0 : jCall E mX8_land n [.ref 52] h (fun v h2 => jG E mX8_reads (n + 1) X Post 101 [some (.ref 52), none] (v.toList ++ []) h2))
    : jG E mX8_reads (n + 1) X Post 97 [some (.ref 52), none] [] h := by
  refine jr_aload_n (pc' := 98) (i := 0) dX8_reads_97 rfl rfl rfl ?_
  obtain ⟨P1, hC1, hK1⟩ := k0
  exact jr_callV (pc' := 101) (k := 52) (av := []) (st := []) sX8_land wmX8_189 dX8_reads_98 rfl (by decide) rfl (by decide) rfl rfl rfl (Nat.le_of_ble_eq_true rfl) rfl hC1 (fun v h2 hp => jG.weak (lv' := [some (.ref 52), none]) ⟨rfl, trivial⟩ (hK1 v h2 hp))

theorem q_Moreads_101 {E : jEnv} {n : Nat} {X : State → Prop} {Post : Option Value → HP → Prop} (s0 : Int32) (h : HP)
    (k0 : (s0 = 0) → Post (some (.int 0)) h)
    (k1 : (¬ s0 = 0) → jG E mX8_reads (n + 1) X Post 106 [some (.ref 52), none] [] h)
    : jG E mX8_reads (n + 1) X Post 101 [some (.ref 52), none] [.int s0] h := by
  by_cases c1 : s0 = 0
  · refine jr_if_neF (pc' := 104) (tgt := 106) dX8_reads_101 rfl rfl c1 ?_
    refine jr_iconst (pc' := 105) (v := 0) dX8_reads_104 rfl (by decide) ?_
    exact jr_iret dX8_reads_105 rfl rfl (k0 c1)
  · refine jr_if_neT (pc' := 106) dX8_reads_101 rfl c1 ?_
    exact jG.weak (lv' := [some (.ref 52), none]) ⟨rfl, trivial⟩ (k1 c1)

set_option maxRecDepth 4000 in
theorem q_Moreads_106 {E : jEnv} {n : Nat} {X : State → Prop} {Post : Option Value → HP → Prop}  (h : HP)
    (k0 : ((h.1 52 21) = 0) → Post (some (.int 1)) h)
    (k1 : (¬ (h.1 52 21) = 0) → ((h.1 52 21) = 5) → Post (some (.int (f_Mofaults 3))) (jPI h 52 23 3))
    (b0 : (¬ (h.1 52 21) = 0) → ((h.1 52 21) = 5) → narrow .boolean (.int (f_Mofaults 3)) = .int (f_Mofaults 3))
    (k2 : (¬ (h.1 52 21) = 0) → (¬ (h.1 52 21) = 5) → ((h.1 52 21) = 6) → jCall E mX8_scans n [.ref 52] h (fun v h2 => jG E mX8_reads (n + 1) X Post 142 [some (.ref 52), none] (v.toList ++ []) h2))
    (k3 : (¬ (h.1 52 21) = 0) → (¬ (h.1 52 21) = 5) → (¬ (h.1 52 21) = 6) → ((h.1 52 21) = 7) → jCall E mX8_tides n [.ref 52] h (fun v h2 => jG E mX8_reads (n + 1) X Post 163 [some (.ref 52), none] (v.toList ++ []) h2))
    (k4 : (¬ (h.1 52 21) = 0) → (¬ (h.1 52 21) = 5) → (¬ (h.1 52 21) = 6) → (¬ (h.1 52 21) = 7) → ((h.1 52 21) = 8) → jCall E mX8_somebody n [.ref 52] h (fun v h2 => jG E mX8_reads (n + 1) X Post 180 [some (.ref 52), none] (v.toList ++ []) h2))
    (k5 : (¬ (h.1 52 21) = 0) → (¬ (h.1 52 21) = 5) → (¬ (h.1 52 21) = 6) → (¬ (h.1 52 21) = 7) → (¬ (h.1 52 21) = 8) → ((h.1 52 21) = 9) → ((h.1 52 21) = 9) → jCall E mX8_place n [.ref 52, .int 1] h (fun v h2 => jG E mX8_reads (n + 1) X Post 220 [some (.ref 52), none] (v.toList ++ []) h2))
    (k6 : (¬ (h.1 52 21) = 0) → (¬ (h.1 52 21) = 5) → (¬ (h.1 52 21) = 6) → (¬ (h.1 52 21) = 7) → (¬ (h.1 52 21) = 8) → ((h.1 52 21) = 9) → (¬ (h.1 52 21) = 9) → jCall E mX8_place n [.ref 52, .int 0] h (fun v h2 => jG E mX8_reads (n + 1) X Post 220 [some (.ref 52), none] (v.toList ++ []) h2))
    (k7 : (¬ (h.1 52 21) = 0) → (¬ (h.1 52 21) = 5) → (¬ (h.1 52 21) = 6) → (¬ (h.1 52 21) = 7) → (¬ (h.1 52 21) = 8) → (¬ (h.1 52 21) = 9) → ((h.1 52 21) = 10) → ((h.1 52 21) = 9) → jCall E mX8_place n [.ref 52, .int 1] h (fun v h2 => jG E mX8_reads (n + 1) X Post 220 [some (.ref 52), none] (v.toList ++ []) h2))
    (k8 : (¬ (h.1 52 21) = 0) → (¬ (h.1 52 21) = 5) → (¬ (h.1 52 21) = 6) → (¬ (h.1 52 21) = 7) → (¬ (h.1 52 21) = 8) → (¬ (h.1 52 21) = 9) → ((h.1 52 21) = 10) → (¬ (h.1 52 21) = 9) → jCall E mX8_place n [.ref 52, .int 0] h (fun v h2 => jG E mX8_reads (n + 1) X Post 220 [some (.ref 52), none] (v.toList ++ []) h2))
    (k9 : (¬ (h.1 52 21) = 0) → (¬ (h.1 52 21) = 5) → (¬ (h.1 52 21) = 6) → (¬ (h.1 52 21) = 7) → (¬ (h.1 52 21) = 8) → (¬ (h.1 52 21) = 9) → (¬ (h.1 52 21) = 10) → Post (some (.int (f_Mofaults 1))) (jPI h 52 23 1))
    (b1 : (¬ (h.1 52 21) = 0) → (¬ (h.1 52 21) = 5) → (¬ (h.1 52 21) = 6) → (¬ (h.1 52 21) = 7) → (¬ (h.1 52 21) = 8) → (¬ (h.1 52 21) = 9) → (¬ (h.1 52 21) = 10) → narrow .boolean (.int (f_Mofaults 1)) = .int (f_Mofaults 1))
    : jG E mX8_reads (n + 1) X Post 106 [some (.ref 52), none] [] h := by
  refine jr_aload_n (pc' := 107) (i := 0) dX8_reads_106 rfl rfl rfl ?_
  refine jr_get (pc' := 110) jK8 (k := 52) (j := 21) (v := .int (h.1 52 21)) wfX8_123 dX8_reads_107 rfl (by decide) rfl (by decide) rfl ?_
  by_cases c1 : (h.1 52 21) = 0
  · refine jr_if_eqT (pc' := 239) dX8_reads_110 rfl c1 ?_
    refine jr_iconst (pc' := 240) (v := 1) dX8_reads_239 rfl (by decide) ?_
    exact jr_iret dX8_reads_240 rfl rfl (k0 c1)
  · refine jr_if_eqF (pc' := 113) (tgt := 239) dX8_reads_110 rfl rfl c1 ?_
    refine jr_iconst (pc' := 114) (v := 0) dX8_reads_113 rfl (by decide) ?_
    refine jr_istore_n (pc' := 115) (i := 1) (lv' := [some (.ref 52), some (.int 0)]) dX8_reads_114 rfl rfl (by decide) rfl ?_
    refine jr_aload_n (pc' := 116) (i := 0) dX8_reads_115 rfl rfl rfl ?_
    refine jr_get (pc' := 119) jK8 (k := 52) (j := 21) (v := .int (h.1 52 21)) wfX8_123 dX8_reads_116 rfl (by decide) rfl (by decide) rfl ?_
    refine jr_iconst (pc' := 120) (v := 5) dX8_reads_119 rfl (by decide) ?_
    by_cases c2 : (h.1 52 21) = 5
    · refine jr_icmp_neF (pc' := 123) (tgt := 129) dX8_reads_120 rfl rfl c2 ?_
      refine jr_aload_n (pc' := 124) (i := 0) dX8_reads_123 rfl rfl rfl ?_
      refine jr_iconst (pc' := 125) (v := 3) dX8_reads_124 rfl (by decide) ?_
      refine jr_callV (pc' := 128) (k := 52) (av := [.int 3]) (st := []) sX8_faults wmX8_142 dX8_reads_125 rfl (by decide) rfl (by decide) rfl rfl rfl (Nat.le_of_ble_eq_true rfl) rfl (c_Mofaults (n := n) 3 h ) (fun v h2 hp => ?_)
      rw [hp.1, hp.2]
      show jG E mX8_reads (n + 1) X Post 128 [some (.ref 52), some (.int 0)] [.int (f_Mofaults 3)] (jPI h 52 23 3)
      exact jr_iret dX8_reads_128 rfl (b0 c1 c2) (k1 c1 c2)
    · refine jr_icmp_neT (pc' := 129) dX8_reads_120 rfl c2 ?_
      refine jr_aload_n (pc' := 130) (i := 0) dX8_reads_129 rfl rfl rfl ?_
      refine jr_get (pc' := 133) jK8 (k := 52) (j := 21) (v := .int (h.1 52 21)) wfX8_123 dX8_reads_130 rfl (by decide) rfl (by decide) rfl ?_
      refine jr_bipush (pc' := 135) (v := 6) dX8_reads_133 rfl (by decide) ?_
      by_cases c3 : (h.1 52 21) = 6
      · refine jr_icmp_neF (pc' := 138) (tgt := 150) dX8_reads_135 rfl rfl c3 ?_
        refine jr_aload_n (pc' := 139) (i := 0) dX8_reads_138 rfl rfl rfl ?_
        obtain ⟨P1, hC1, hK1⟩ := k2 c1 c2 c3
        exact jr_callV (pc' := 142) (k := 52) (av := []) (st := []) sX8_scans wmX8_149 dX8_reads_139 rfl (by decide) rfl (by decide) rfl rfl rfl (Nat.le_of_ble_eq_true rfl) rfl hC1 (fun v h2 hp => jG.weak (lv' := [some (.ref 52), none]) ⟨rfl, trivial⟩ (hK1 v h2 hp))
      · refine jr_icmp_neT (pc' := 150) dX8_reads_135 rfl c3 ?_
        refine jr_aload_n (pc' := 151) (i := 0) dX8_reads_150 rfl rfl rfl ?_
        refine jr_get (pc' := 154) jK8 (k := 52) (j := 21) (v := .int (h.1 52 21)) wfX8_123 dX8_reads_151 rfl (by decide) rfl (by decide) rfl ?_
        refine jr_bipush (pc' := 156) (v := 7) dX8_reads_154 rfl (by decide) ?_
        by_cases c4 : (h.1 52 21) = 7
        · refine jr_icmp_neF (pc' := 159) (tgt := 167) dX8_reads_156 rfl rfl c4 ?_
          refine jr_aload_n (pc' := 160) (i := 0) dX8_reads_159 rfl rfl rfl ?_
          obtain ⟨P1, hC1, hK1⟩ := k3 c1 c2 c3 c4
          exact jr_callV (pc' := 163) (k := 52) (av := []) (st := []) sX8_tides wmX8_195 dX8_reads_160 rfl (by decide) rfl (by decide) rfl rfl rfl (Nat.le_of_ble_eq_true rfl) rfl hC1 (fun v h2 hp => jG.weak (lv' := [some (.ref 52), none]) ⟨rfl, trivial⟩ (hK1 v h2 hp))
        · refine jr_icmp_neT (pc' := 167) dX8_reads_156 rfl c4 ?_
          refine jr_aload_n (pc' := 168) (i := 0) dX8_reads_167 rfl rfl rfl ?_
          refine jr_get (pc' := 171) jK8 (k := 52) (j := 21) (v := .int (h.1 52 21)) wfX8_123 dX8_reads_168 rfl (by decide) rfl (by decide) rfl ?_
          refine jr_bipush (pc' := 173) (v := 8) dX8_reads_171 rfl (by decide) ?_
          by_cases c5 : (h.1 52 21) = 8
          · refine jr_icmp_neF (pc' := 176) (tgt := 184) dX8_reads_173 rfl rfl c5 ?_
            refine jr_aload_n (pc' := 177) (i := 0) dX8_reads_176 rfl rfl rfl ?_
            obtain ⟨P1, hC1, hK1⟩ := k4 c1 c2 c3 c4 c5
            exact jr_callV (pc' := 180) (k := 52) (av := []) (st := []) sX8_somebody wmX8_198 dX8_reads_177 rfl (by decide) rfl (by decide) rfl rfl rfl (Nat.le_of_ble_eq_true rfl) rfl hC1 (fun v h2 hp => jG.weak (lv' := [some (.ref 52), none]) ⟨rfl, trivial⟩ (hK1 v h2 hp))
          · refine jr_icmp_neT (pc' := 184) dX8_reads_173 rfl c5 ?_
            refine jr_aload_n (pc' := 185) (i := 0) dX8_reads_184 rfl rfl rfl ?_
            refine jr_get (pc' := 188) jK8 (k := 52) (j := 21) (v := .int (h.1 52 21)) wfX8_123 dX8_reads_185 rfl (by decide) rfl (by decide) rfl ?_
            refine jr_bipush (pc' := 190) (v := 9) dX8_reads_188 rfl (by decide) ?_
            by_cases c6 : (h.1 52 21) = 9
            · refine jr_icmp_eqT (pc' := 202) dX8_reads_190 rfl c6 ?_
              refine jr_aload_n (pc' := 203) (i := 0) dX8_reads_202 rfl rfl rfl ?_
              refine jr_aload_n (pc' := 204) (i := 0) dX8_reads_203 rfl rfl rfl ?_
              refine jr_get (pc' := 207) jK8 (k := 52) (j := 21) (v := .int (h.1 52 21)) wfX8_123 dX8_reads_204 rfl (by decide) rfl (by decide) rfl ?_
              refine jr_bipush (pc' := 209) (v := 9) dX8_reads_207 rfl (by decide) ?_
              by_cases c7 : (h.1 52 21) = 9
              · refine jr_icmp_neF (pc' := 212) (tgt := 216) dX8_reads_209 rfl rfl c7 ?_
                refine jr_iconst (pc' := 213) (v := 1) dX8_reads_212 rfl (by decide) ?_
                refine jr_goto (pc' := 217) dX8_reads_213 rfl ?_
                obtain ⟨P1, hC1, hK1⟩ := k5 c1 c2 c3 c4 c5 c6 c7
                exact jr_callV (pc' := 220) (k := 52) (av := [.int 1]) (st := []) sX8_place wmX8_201 dX8_reads_217 rfl (by decide) rfl (by decide) rfl rfl rfl (Nat.le_of_ble_eq_true rfl) rfl hC1 (fun v h2 hp => jG.weak (lv' := [some (.ref 52), none]) ⟨rfl, trivial⟩ (hK1 v h2 hp))
              · refine jr_icmp_neT (pc' := 216) dX8_reads_209 rfl c7 ?_
                refine jr_iconst (pc' := 217) (v := 0) dX8_reads_216 rfl (by decide) ?_
                obtain ⟨P1, hC1, hK1⟩ := k6 c1 c2 c3 c4 c5 c6 c7
                exact jr_callV (pc' := 220) (k := 52) (av := [.int 0]) (st := []) sX8_place wmX8_201 dX8_reads_217 rfl (by decide) rfl (by decide) rfl rfl rfl (Nat.le_of_ble_eq_true rfl) rfl hC1 (fun v h2 hp => jG.weak (lv' := [some (.ref 52), none]) ⟨rfl, trivial⟩ (hK1 v h2 hp))
            · refine jr_icmp_eqF (pc' := 193) (tgt := 202) dX8_reads_190 rfl rfl c6 ?_
              refine jr_aload_n (pc' := 194) (i := 0) dX8_reads_193 rfl rfl rfl ?_
              refine jr_get (pc' := 197) jK8 (k := 52) (j := 21) (v := .int (h.1 52 21)) wfX8_123 dX8_reads_194 rfl (by decide) rfl (by decide) rfl ?_
              refine jr_bipush (pc' := 199) (v := 10) dX8_reads_197 rfl (by decide) ?_
              by_cases c8 : (h.1 52 21) = 10
              · refine jr_icmp_neF (pc' := 202) (tgt := 224) dX8_reads_199 rfl rfl c8 ?_
                refine jr_aload_n (pc' := 203) (i := 0) dX8_reads_202 rfl rfl rfl ?_
                refine jr_aload_n (pc' := 204) (i := 0) dX8_reads_203 rfl rfl rfl ?_
                refine jr_get (pc' := 207) jK8 (k := 52) (j := 21) (v := .int (h.1 52 21)) wfX8_123 dX8_reads_204 rfl (by decide) rfl (by decide) rfl ?_
                refine jr_bipush (pc' := 209) (v := 9) dX8_reads_207 rfl (by decide) ?_
                by_cases c9 : (h.1 52 21) = 9
                · refine jr_icmp_neF (pc' := 212) (tgt := 216) dX8_reads_209 rfl rfl c9 ?_
                  refine jr_iconst (pc' := 213) (v := 1) dX8_reads_212 rfl (by decide) ?_
                  refine jr_goto (pc' := 217) dX8_reads_213 rfl ?_
                  obtain ⟨P1, hC1, hK1⟩ := k7 c1 c2 c3 c4 c5 c6 c8 c9
                  exact jr_callV (pc' := 220) (k := 52) (av := [.int 1]) (st := []) sX8_place wmX8_201 dX8_reads_217 rfl (by decide) rfl (by decide) rfl rfl rfl (Nat.le_of_ble_eq_true rfl) rfl hC1 (fun v h2 hp => jG.weak (lv' := [some (.ref 52), none]) ⟨rfl, trivial⟩ (hK1 v h2 hp))
                · refine jr_icmp_neT (pc' := 216) dX8_reads_209 rfl c9 ?_
                  refine jr_iconst (pc' := 217) (v := 0) dX8_reads_216 rfl (by decide) ?_
                  obtain ⟨P1, hC1, hK1⟩ := k8 c1 c2 c3 c4 c5 c6 c8 c9
                  exact jr_callV (pc' := 220) (k := 52) (av := [.int 0]) (st := []) sX8_place wmX8_201 dX8_reads_217 rfl (by decide) rfl (by decide) rfl rfl rfl (Nat.le_of_ble_eq_true rfl) rfl hC1 (fun v h2 hp => jG.weak (lv' := [some (.ref 52), none]) ⟨rfl, trivial⟩ (hK1 v h2 hp))
              · refine jr_icmp_neT (pc' := 224) dX8_reads_199 rfl c8 ?_
                refine jr_aload_n (pc' := 225) (i := 0) dX8_reads_224 rfl rfl rfl ?_
                refine jr_iconst (pc' := 226) (v := 1) dX8_reads_225 rfl (by decide) ?_
                refine jr_callV (pc' := 229) (k := 52) (av := [.int 1]) (st := []) sX8_faults wmX8_142 dX8_reads_226 rfl (by decide) rfl (by decide) rfl rfl rfl (Nat.le_of_ble_eq_true rfl) rfl (c_Mofaults (n := n) 1 h ) (fun v h2 hp => ?_)
                rw [hp.1, hp.2]
                show jG E mX8_reads (n + 1) X Post 229 [some (.ref 52), some (.int 0)] [.int (f_Mofaults 1)] (jPI h 52 23 1)
                exact jr_iret dX8_reads_229 rfl (b1 c1 c2 c3 c4 c5 c6 c8) (k9 c1 c2 c3 c4 c5 c6 c8)

theorem q_Moreads_142 {E : jEnv} {n : Nat} {X : State → Prop} {Post : Option Value → HP → Prop}  (h : HP)
    (k0 : jCall E mX8_row n [.ref 52] h (fun v h2 => jG E mX8_reads (n + 1) X Post 146 [some (.ref 52), none] (v.toList ++ []) h2))
    : jG E mX8_reads (n + 1) X Post 142 [some (.ref 52), none] [] h := by
  refine jr_aload_n (pc' := 143) (i := 0) dX8_reads_142 rfl rfl rfl ?_
  obtain ⟨P1, hC1, hK1⟩ := k0
  exact jr_callV (pc' := 146) (k := 52) (av := []) (st := []) sX8_row wmX8_192 dX8_reads_143 rfl (by decide) rfl (by decide) rfl rfl rfl (Nat.le_of_ble_eq_true rfl) rfl hC1 (fun v h2 hp => jG.weak (lv' := [some (.ref 52), none]) ⟨rfl, trivial⟩ (hK1 v h2 hp))

theorem q_Moreads_163 {E : jEnv} {n : Nat} {X : State → Prop} {Post : Option Value → HP → Prop} (s0 : Int32) (h : HP)
    (k0 : (s0 = 0) → Post (some (.int 0)) h)
    (k1 : (¬ s0 = 0) → jG E mX8_reads (n + 1) X Post 106 [some (.ref 52), none] [] h)
    : jG E mX8_reads (n + 1) X Post 163 [some (.ref 52), none] [.int s0] h := by
  refine jr_istore_n (pc' := 164) (i := 1) (lv' := [some (.ref 52), some (.int s0)]) dX8_reads_163 rfl rfl (by decide) rfl ?_
  refine jr_goto (pc' := 230) dX8_reads_164 rfl ?_
  refine jr_iload_n (pc' := 231) (i := 1) dX8_reads_230 rfl rfl rfl ?_
  by_cases c1 : s0 = 0
  · refine jr_if_neF (pc' := 234) (tgt := 236) dX8_reads_231 rfl rfl c1 ?_
    refine jr_iconst (pc' := 235) (v := 0) dX8_reads_234 rfl (by decide) ?_
    exact jr_iret dX8_reads_235 rfl rfl (k0 c1)
  · refine jr_if_neT (pc' := 236) dX8_reads_231 rfl c1 ?_
    refine jr_goto (pc' := 106) dX8_reads_236 rfl ?_
    exact jG.weak (lv' := [some (.ref 52), none]) ⟨rfl, trivial⟩ (k1 c1)

theorem q_Moreads_180 {E : jEnv} {n : Nat} {X : State → Prop} {Post : Option Value → HP → Prop} (s0 : Int32) (h : HP)
    (k0 : (s0 = 0) → Post (some (.int 0)) h)
    (k1 : (¬ s0 = 0) → jG E mX8_reads (n + 1) X Post 106 [some (.ref 52), none] [] h)
    : jG E mX8_reads (n + 1) X Post 180 [some (.ref 52), none] [.int s0] h := by
  refine jr_istore_n (pc' := 181) (i := 1) (lv' := [some (.ref 52), some (.int s0)]) dX8_reads_180 rfl rfl (by decide) rfl ?_
  refine jr_goto (pc' := 230) dX8_reads_181 rfl ?_
  refine jr_iload_n (pc' := 231) (i := 1) dX8_reads_230 rfl rfl rfl ?_
  by_cases c1 : s0 = 0
  · refine jr_if_neF (pc' := 234) (tgt := 236) dX8_reads_231 rfl rfl c1 ?_
    refine jr_iconst (pc' := 235) (v := 0) dX8_reads_234 rfl (by decide) ?_
    exact jr_iret dX8_reads_235 rfl rfl (k0 c1)
  · refine jr_if_neT (pc' := 236) dX8_reads_231 rfl c1 ?_
    refine jr_goto (pc' := 106) dX8_reads_236 rfl ?_
    exact jG.weak (lv' := [some (.ref 52), none]) ⟨rfl, trivial⟩ (k1 c1)

theorem q_Moreads_220 {E : jEnv} {n : Nat} {X : State → Prop} {Post : Option Value → HP → Prop} (s0 : Int32) (h : HP)
    (k0 : (s0 = 0) → Post (some (.int 0)) h)
    (k1 : (¬ s0 = 0) → jG E mX8_reads (n + 1) X Post 106 [some (.ref 52), none] [] h)
    : jG E mX8_reads (n + 1) X Post 220 [some (.ref 52), none] [.int s0] h := by
  refine jr_istore_n (pc' := 221) (i := 1) (lv' := [some (.ref 52), some (.int s0)]) dX8_reads_220 rfl rfl (by decide) rfl ?_
  refine jr_goto (pc' := 230) dX8_reads_221 rfl ?_
  refine jr_iload_n (pc' := 231) (i := 1) dX8_reads_230 rfl rfl rfl ?_
  by_cases c1 : s0 = 0
  · refine jr_if_neF (pc' := 234) (tgt := 236) dX8_reads_231 rfl rfl c1 ?_
    refine jr_iconst (pc' := 235) (v := 0) dX8_reads_234 rfl (by decide) ?_
    exact jr_iret dX8_reads_235 rfl rfl (k0 c1)
  · refine jr_if_neT (pc' := 236) dX8_reads_231 rfl c1 ?_
    refine jr_goto (pc' := 106) dX8_reads_236 rfl ?_
    exact jG.weak (lv' := [some (.ref 52), none]) ⟨rfl, trivial⟩ (k1 c1)

theorem q_Moreads_146 {E : jEnv} {n : Nat} {X : State → Prop} {Post : Option Value → HP → Prop} (s0 : Int32) (h : HP)
    (k0 : (s0 = 0) → Post (some (.int 0)) h)
    (k1 : (¬ s0 = 0) → jG E mX8_reads (n + 1) X Post 106 [some (.ref 52), none] [] h)
    : jG E mX8_reads (n + 1) X Post 146 [some (.ref 52), none] [.int s0] h := by
  refine jr_istore_n (pc' := 147) (i := 1) (lv' := [some (.ref 52), some (.int s0)]) dX8_reads_146 rfl rfl (by decide) rfl ?_
  refine jr_goto (pc' := 230) dX8_reads_147 rfl ?_
  refine jr_iload_n (pc' := 231) (i := 1) dX8_reads_230 rfl rfl rfl ?_
  by_cases c1 : s0 = 0
  · refine jr_if_neF (pc' := 234) (tgt := 236) dX8_reads_231 rfl rfl c1 ?_
    refine jr_iconst (pc' := 235) (v := 0) dX8_reads_234 rfl (by decide) ?_
    exact jr_iret dX8_reads_235 rfl rfl (k0 c1)
  · refine jr_if_neT (pc' := 236) dX8_reads_231 rfl c1 ?_
    refine jr_goto (pc' := 106) dX8_reads_236 rfl ?_
    exact jG.weak (lv' := [some (.ref 52), none]) ⟨rfl, trivial⟩ (k1 c1)

set_option maxRecDepth 4000 in
theorem q_Moscans_0 {E : jEnv} {n : Nat} {X : State → Prop} {Post : Option Value → HP → Prop}  (h : HP)
    (b0 : ((¬ ((h.1 52 18)) ≤ ((h.1 52 19))) → vp_in ((h.1 52 19)) 500))
    (k0 : ((f_MoisAt (h.1 52 18) (h.1 52 19) (h.1 61) 32 32) = 0) → ((h.1 52 19) = (h.1 52 18)) → Post none (jPI (jPI h 52 20 (h.1 52 19)) 52 21 0))
    (b1 : ((f_MoisAt (h.1 52 18) (h.1 52 19) (h.1 61) 32 32) = 0) → (¬ (h.1 52 19) = (h.1 52 18)) → ((¬ ((h.1 52 18)) ≤ ((h.1 52 19))) → vp_in ((h.1 52 19)) 500))
    (b2 : ((f_MoisAt (h.1 52 18) (h.1 52 19) (h.1 61) 32 32) = 0) → (¬ (h.1 52 19) = (h.1 52 18)) → ((f_MoisAt (h.1 52 18) (h.1 52 19) (h.1 61) 97 122) = 0) → ((¬ ((h.1 52 18)) ≤ ((h.1 52 19))) → vp_in ((h.1 52 19)) 500))
    (b3 : ((f_MoisAt (h.1 52 18) (h.1 52 19) (h.1 61) 32 32) = 0) → (¬ (h.1 52 19) = (h.1 52 18)) → ((f_MoisAt (h.1 52 18) (h.1 52 19) (h.1 61) 97 122) = 0) → ((f_MoisAt (h.1 52 18) (h.1 52 19) (h.1 61) 48 57) = 0) → ((¬ ((h.1 52 18)) ≤ ((h.1 52 19))) → vp_in ((h.1 52 19)) 500))
    (b4 : ((f_MoisAt (h.1 52 18) (h.1 52 19) (h.1 61) 32 32) = 0) → (¬ (h.1 52 19) = (h.1 52 18)) → ((f_MoisAt (h.1 52 18) (h.1 52 19) (h.1 61) 97 122) = 0) → ((f_MoisAt (h.1 52 18) (h.1 52 19) (h.1 61) 48 57) = 0) → ((f_MoisAt (h.1 52 18) (h.1 52 19) (h.1 61) 59 59) = 0) → ((¬ ((h.1 52 18)) ≤ ((h.1 52 19))) → vp_in ((h.1 52 19)) 500))
    (k1 : ((f_MoisAt (h.1 52 18) (h.1 52 19) (h.1 61) 32 32) = 0) → (¬ (h.1 52 19) = (h.1 52 18)) → ((f_MoisAt (h.1 52 18) (h.1 52 19) (h.1 61) 97 122) = 0) → ((f_MoisAt (h.1 52 18) (h.1 52 19) (h.1 61) 48 57) = 0) → ((f_MoisAt (h.1 52 18) (h.1 52 19) (h.1 61) 59 59) = 0) → ((f_MoisAt (h.1 52 18) (h.1 52 19) (h.1 61) 44 44) = 0) → Post none (jPI (jPI (jPI h 52 20 (h.1 52 19)) 52 21 1) 52 19 ((h.1 52 19) + 1)))
    (k2 : ((f_MoisAt (h.1 52 18) (h.1 52 19) (h.1 61) 32 32) = 0) → (¬ (h.1 52 19) = (h.1 52 18)) → ((f_MoisAt (h.1 52 18) (h.1 52 19) (h.1 61) 97 122) = 0) → ((f_MoisAt (h.1 52 18) (h.1 52 19) (h.1 61) 48 57) = 0) → ((f_MoisAt (h.1 52 18) (h.1 52 19) (h.1 61) 59 59) = 0) → (¬ (f_MoisAt (h.1 52 18) (h.1 52 19) (h.1 61) 44 44) = 0) → Post none (jPI (jPI (jPI h 52 20 (h.1 52 19)) 52 21 4) 52 19 ((h.1 52 19) + 1)))
    (k3 : ((f_MoisAt (h.1 52 18) (h.1 52 19) (h.1 61) 32 32) = 0) → (¬ (h.1 52 19) = (h.1 52 18)) → ((f_MoisAt (h.1 52 18) (h.1 52 19) (h.1 61) 97 122) = 0) → ((f_MoisAt (h.1 52 18) (h.1 52 19) (h.1 61) 48 57) = 0) → (¬ (f_MoisAt (h.1 52 18) (h.1 52 19) (h.1 61) 59 59) = 0) → Post none (jPI (jPI (jPI h 52 20 (h.1 52 19)) 52 21 3) 52 19 ((h.1 52 19) + 1)))
    (k4 : ((f_MoisAt (h.1 52 18) (h.1 52 19) (h.1 61) 32 32) = 0) → (¬ (h.1 52 19) = (h.1 52 18)) → ((f_MoisAt (h.1 52 18) (h.1 52 19) (h.1 61) 97 122) = 0) → (¬ (f_MoisAt (h.1 52 18) (h.1 52 19) (h.1 61) 48 57) = 0) → jG E mX8_scans (n + 2) X Post 181 [some (.ref 52), none, none] [] (jPI (jPI h 52 20 (h.1 52 19)) 52 22 0))
    (k5 : ((f_MoisAt (h.1 52 18) (h.1 52 19) (h.1 61) 32 32) = 0) → (¬ (h.1 52 19) = (h.1 52 18)) → (¬ (f_MoisAt (h.1 52 18) (h.1 52 19) (h.1 61) 97 122) = 0) → jG E mX8_scans (n + 2) X Post 62 [some (.ref 52), some (.long 0), none] [] (jPI h 52 20 (h.1 52 19)))
    (k6 : (¬ (f_MoisAt (h.1 52 18) (h.1 52 19) (h.1 61) 32 32) = 0) → jG E mX8_scans (n + 2) X Post 0 [some (.ref 52), none, none] [] (jPI h 52 19 ((h.1 52 19) + 1)))
    : jG E mX8_scans (n + 2) X Post 0 [some (.ref 52), none, none] [] h := by
  refine jr_aload_n (pc' := 1) (i := 0) dX8_scans_0 rfl rfl rfl ?_
  refine jr_bipush (pc' := 3) (v := 32) dX8_scans_1 rfl (by decide) ?_
  refine jr_bipush (pc' := 5) (v := 32) dX8_scans_3 rfl (by decide) ?_
  refine jr_callV (pc' := 8) (k := 52) (av := [.int 32, .int 32]) (st := []) sX8_isAt wmX8_116 dX8_scans_5 rfl (by decide) rfl (by decide) rfl rfl rfl (Nat.le_of_ble_eq_true rfl) rfl (c_MoisAt (n := n) 32 32 h (b0)) (fun v h2 hp => ?_)
  rw [hp.1, hp.2]
  show jG E mX8_scans (n + 2) X Post 8 [some (.ref 52), none, none] [.int (f_MoisAt (h.1 52 18) (h.1 52 19) (h.1 61) 32 32)] h
  by_cases c1 : (f_MoisAt (h.1 52 18) (h.1 52 19) (h.1 61) 32 32) = 0
  · refine jr_if_eqT (pc' := 24) dX8_scans_8 rfl c1 ?_
    refine jr_aload_n (pc' := 25) (i := 0) dX8_scans_24 rfl rfl rfl ?_
    refine jr_aload_n (pc' := 26) (i := 0) dX8_scans_25 rfl rfl rfl ?_
    refine jr_get (pc' := 29) jK8 (k := 52) (j := 19) (v := .int (h.1 52 19)) wfX8_101 dX8_scans_26 rfl (by decide) rfl (by decide) rfl ?_
    refine jr_putI (pc' := 32) jK8 (k := 52) (j := 20) wfX8_120 dX8_scans_29 rfl (by decide) rfl (by decide) (by decide) rfl rfl rfl ?_
    refine jr_aload_n (pc' := 33) (i := 0) dX8_scans_32 rfl rfl rfl ?_
    refine jr_get (pc' := 36) jK8 (k := 52) (j := 19) (v := .int (h.1 52 19)) wfX8_101 dX8_scans_33 rfl (by decide) rfl (by decide) rfl ?_
    refine jr_aload_n (pc' := 37) (i := 0) dX8_scans_36 rfl rfl rfl ?_
    refine jr_get (pc' := 40) jK8 (k := 52) (j := 18) (v := .int (h.1 52 18)) wfX8_95 dX8_scans_37 rfl (by decide) rfl (by decide) rfl ?_
    by_cases c2 : (h.1 52 19) = (h.1 52 18)
    · refine jr_icmp_neF (pc' := 43) (tgt := 49) dX8_scans_40 rfl rfl c2 ?_
      refine jr_aload_n (pc' := 44) (i := 0) dX8_scans_43 rfl rfl rfl ?_
      refine jr_iconst (pc' := 45) (v := 0) dX8_scans_44 rfl (by decide) ?_
      refine jr_putI (pc' := 48) jK8 (k := 52) (j := 21) wfX8_123 dX8_scans_45 rfl (by decide) rfl (by decide) (by decide) rfl rfl rfl ?_
      exact jr_vret dX8_scans_48 rfl (k0 c1 c2)
    · refine jr_icmp_neT (pc' := 49) dX8_scans_40 rfl c2 ?_
      refine jr_aload_n (pc' := 50) (i := 0) dX8_scans_49 rfl rfl rfl ?_
      refine jr_bipush (pc' := 52) (v := 97) dX8_scans_50 rfl (by decide) ?_
      refine jr_bipush (pc' := 54) (v := 122) dX8_scans_52 rfl (by decide) ?_
      refine jr_callV (pc' := 57) (k := 52) (av := [.int 97, .int 122]) (st := []) sX8_isAt wmX8_116 dX8_scans_54 rfl (by decide) rfl (by decide) rfl rfl rfl (Nat.le_of_ble_eq_true rfl) rfl (c_MoisAt (n := n) 97 122 (jPI h 52 20 (h.1 52 19)) (b1 c1 c2)) (fun v h2 hp => ?_)
      rw [hp.1, hp.2]
      show jG E mX8_scans (n + 2) X Post 57 [some (.ref 52), none, none] [.int (f_MoisAt (h.1 52 18) (h.1 52 19) (h.1 61) 97 122)] (jPI h 52 20 (h.1 52 19))
      by_cases c3 : (f_MoisAt (h.1 52 18) (h.1 52 19) (h.1 61) 97 122) = 0
      · refine jr_if_eqT (pc' := 165) dX8_scans_57 rfl c3 ?_
        refine jr_aload_n (pc' := 166) (i := 0) dX8_scans_165 rfl rfl rfl ?_
        refine jr_bipush (pc' := 168) (v := 48) dX8_scans_166 rfl (by decide) ?_
        refine jr_bipush (pc' := 170) (v := 57) dX8_scans_168 rfl (by decide) ?_
        refine jr_callV (pc' := 173) (k := 52) (av := [.int 48, .int 57]) (st := []) sX8_isAt wmX8_116 dX8_scans_170 rfl (by decide) rfl (by decide) rfl rfl rfl (Nat.le_of_ble_eq_true rfl) rfl (c_MoisAt (n := n) 48 57 (jPI h 52 20 (h.1 52 19)) (b2 c1 c2 c3)) (fun v h2 hp => ?_)
        rw [hp.1, hp.2]
        show jG E mX8_scans (n + 2) X Post 173 [some (.ref 52), none, none] [.int (f_MoisAt (h.1 52 18) (h.1 52 19) (h.1 61) 48 57)] (jPI h 52 20 (h.1 52 19))
        by_cases c4 : (f_MoisAt (h.1 52 18) (h.1 52 19) (h.1 61) 48 57) = 0
        · refine jr_if_eqT (pc' := 254) dX8_scans_173 rfl c4 ?_
          refine jr_aload_n (pc' := 255) (i := 0) dX8_scans_254 rfl rfl rfl ?_
          refine jr_aload_n (pc' := 256) (i := 0) dX8_scans_255 rfl rfl rfl ?_
          refine jr_bipush (pc' := 258) (v := 59) dX8_scans_256 rfl (by decide) ?_
          refine jr_bipush (pc' := 260) (v := 59) dX8_scans_258 rfl (by decide) ?_
          refine jr_callV (pc' := 263) (k := 52) (av := [.int 59, .int 59]) (st := [.ref 52]) sX8_isAt wmX8_116 dX8_scans_260 rfl (by decide) rfl (by decide) rfl rfl rfl (Nat.le_of_ble_eq_true rfl) rfl (c_MoisAt (n := n) 59 59 (jPI h 52 20 (h.1 52 19)) (b3 c1 c2 c3 c4)) (fun v h2 hp => ?_)
          rw [hp.1, hp.2]
          show jG E mX8_scans (n + 2) X Post 263 [some (.ref 52), none, none] [.int (f_MoisAt (h.1 52 18) (h.1 52 19) (h.1 61) 59 59), .ref 52] (jPI h 52 20 (h.1 52 19))
          by_cases c5 : (f_MoisAt (h.1 52 18) (h.1 52 19) (h.1 61) 59 59) = 0
          · refine jr_if_eqT (pc' := 270) dX8_scans_263 rfl c5 ?_
            refine jr_aload_n (pc' := 271) (i := 0) dX8_scans_270 rfl rfl rfl ?_
            refine jr_bipush (pc' := 273) (v := 44) dX8_scans_271 rfl (by decide) ?_
            refine jr_bipush (pc' := 275) (v := 44) dX8_scans_273 rfl (by decide) ?_
            refine jr_callV (pc' := 278) (k := 52) (av := [.int 44, .int 44]) (st := [.ref 52]) sX8_isAt wmX8_116 dX8_scans_275 rfl (by decide) rfl (by decide) rfl rfl rfl (Nat.le_of_ble_eq_true rfl) rfl (c_MoisAt (n := n) 44 44 (jPI h 52 20 (h.1 52 19)) (b4 c1 c2 c3 c4 c5)) (fun v h2 hp => ?_)
            rw [hp.1, hp.2]
            show jG E mX8_scans (n + 2) X Post 278 [some (.ref 52), none, none] [.int (f_MoisAt (h.1 52 18) (h.1 52 19) (h.1 61) 44 44), .ref 52] (jPI h 52 20 (h.1 52 19))
            by_cases c6 : (f_MoisAt (h.1 52 18) (h.1 52 19) (h.1 61) 44 44) = 0
            · refine jr_if_eqT (pc' := 285) dX8_scans_278 rfl c6 ?_
              refine jr_iconst (pc' := 286) (v := 1) dX8_scans_285 rfl (by decide) ?_
              refine jr_putI (pc' := 289) jK8 (k := 52) (j := 21) wfX8_123 dX8_scans_286 rfl (by decide) rfl (by decide) (by decide) rfl rfl rfl ?_
              refine jr_aload_n (pc' := 290) (i := 0) dX8_scans_289 rfl rfl rfl ?_
              refine jr_dup (pc' := 291)  dX8_scans_290 rfl rfl ?_
              refine jr_get (pc' := 294) jK8 (k := 52) (j := 19) (v := .int (h.1 52 19)) wfX8_101 dX8_scans_291 rfl (by decide) rfl (by decide) rfl ?_
              refine jr_iconst (pc' := 295) (v := 1) dX8_scans_294 rfl (by decide) ?_
              refine jr_iadd (pc' := 296)  dX8_scans_295 rfl  ?_
              refine jr_putI (pc' := 299) jK8 (k := 52) (j := 19) wfX8_101 dX8_scans_296 rfl (by decide) rfl (by decide) (by decide) rfl rfl rfl ?_
              exact jr_vret dX8_scans_299 rfl (k1 c1 c2 c3 c4 c5 c6)
            · refine jr_if_eqF (pc' := 281) (tgt := 285) dX8_scans_278 rfl rfl c6 ?_
              refine jr_iconst (pc' := 282) (v := 4) dX8_scans_281 rfl (by decide) ?_
              refine jr_goto (pc' := 286) dX8_scans_282 rfl ?_
              refine jr_putI (pc' := 289) jK8 (k := 52) (j := 21) wfX8_123 dX8_scans_286 rfl (by decide) rfl (by decide) (by decide) rfl rfl rfl ?_
              refine jr_aload_n (pc' := 290) (i := 0) dX8_scans_289 rfl rfl rfl ?_
              refine jr_dup (pc' := 291)  dX8_scans_290 rfl rfl ?_
              refine jr_get (pc' := 294) jK8 (k := 52) (j := 19) (v := .int (h.1 52 19)) wfX8_101 dX8_scans_291 rfl (by decide) rfl (by decide) rfl ?_
              refine jr_iconst (pc' := 295) (v := 1) dX8_scans_294 rfl (by decide) ?_
              refine jr_iadd (pc' := 296)  dX8_scans_295 rfl  ?_
              refine jr_putI (pc' := 299) jK8 (k := 52) (j := 19) wfX8_101 dX8_scans_296 rfl (by decide) rfl (by decide) (by decide) rfl rfl rfl ?_
              exact jr_vret dX8_scans_299 rfl (k2 c1 c2 c3 c4 c5 c6)
          · refine jr_if_eqF (pc' := 266) (tgt := 270) dX8_scans_263 rfl rfl c5 ?_
            refine jr_iconst (pc' := 267) (v := 3) dX8_scans_266 rfl (by decide) ?_
            refine jr_goto (pc' := 286) dX8_scans_267 rfl ?_
            refine jr_putI (pc' := 289) jK8 (k := 52) (j := 21) wfX8_123 dX8_scans_286 rfl (by decide) rfl (by decide) (by decide) rfl rfl rfl ?_
            refine jr_aload_n (pc' := 290) (i := 0) dX8_scans_289 rfl rfl rfl ?_
            refine jr_dup (pc' := 291)  dX8_scans_290 rfl rfl ?_
            refine jr_get (pc' := 294) jK8 (k := 52) (j := 19) (v := .int (h.1 52 19)) wfX8_101 dX8_scans_291 rfl (by decide) rfl (by decide) rfl ?_
            refine jr_iconst (pc' := 295) (v := 1) dX8_scans_294 rfl (by decide) ?_
            refine jr_iadd (pc' := 296)  dX8_scans_295 rfl  ?_
            refine jr_putI (pc' := 299) jK8 (k := 52) (j := 19) wfX8_101 dX8_scans_296 rfl (by decide) rfl (by decide) (by decide) rfl rfl rfl ?_
            exact jr_vret dX8_scans_299 rfl (k3 c1 c2 c3 c4 c5)
        · refine jr_if_eqF (pc' := 176) (tgt := 254) dX8_scans_173 rfl rfl c4 ?_
          refine jr_aload_n (pc' := 177) (i := 0) dX8_scans_176 rfl rfl rfl ?_
          refine jr_iconst (pc' := 178) (v := 0) dX8_scans_177 rfl (by decide) ?_
          refine jr_putI (pc' := 181) jK8 (k := 52) (j := 22) wfX8_136 dX8_scans_178 rfl (by decide) rfl (by decide) (by decide) rfl rfl rfl ?_
          exact jG.weak (lv' := [some (.ref 52), none, none]) ⟨rfl, trivial⟩ (k4 c1 c2 c3 c4)
      · refine jr_if_eqF (pc' := 60) (tgt := 165) dX8_scans_57 rfl rfl c3 ?_
        refine jr_lconst (pc' := 61) (v := 0) dX8_scans_60 rfl (by decide) ?_
        refine jr_lstore_n (pc' := 62) (i := 1) (lv' := [some (.ref 52), some (.long 0), none]) dX8_scans_61 rfl rfl (by decide) rfl ?_
        exact jG.weak (lv' := [some (.ref 52), some (.long 0), none]) ⟨rfl, rfl, trivial⟩ (k5 c1 c2 c3)
  · refine jr_if_eqF (pc' := 11) (tgt := 24) dX8_scans_8 rfl rfl c1 ?_
    refine jr_aload_n (pc' := 12) (i := 0) dX8_scans_11 rfl rfl rfl ?_
    refine jr_dup (pc' := 13)  dX8_scans_12 rfl rfl ?_
    refine jr_get (pc' := 16) jK8 (k := 52) (j := 19) (v := .int (h.1 52 19)) wfX8_101 dX8_scans_13 rfl (by decide) rfl (by decide) rfl ?_
    refine jr_iconst (pc' := 17) (v := 1) dX8_scans_16 rfl (by decide) ?_
    refine jr_iadd (pc' := 18)  dX8_scans_17 rfl  ?_
    refine jr_putI (pc' := 21) jK8 (k := 52) (j := 19) wfX8_101 dX8_scans_18 rfl (by decide) rfl (by decide) (by decide) rfl rfl rfl ?_
    refine jr_goto (pc' := 0) dX8_scans_21 rfl ?_
    exact jG.weak (lv' := [some (.ref 52), none, none]) ⟨rfl, trivial⟩ (k6 c1)

theorem q_Moscans_181 {E : jEnv} {n : Nat} {X : State → Prop} {Post : Option Value → HP → Prop}  (h : HP)
    (b0 : ((¬ ((h.1 52 18)) ≤ ((h.1 52 19))) → vp_in ((h.1 52 19)) 500))
    (k0 : ((f_MoisAt (h.1 52 18) (h.1 52 19) (h.1 61) 48 57) = 0) → Post none (jPI h 52 21 2))
    (k1 : (¬ (f_MoisAt (h.1 52 18) (h.1 52 19) (h.1 61) 48 57) = 0) → ((3 : Int32) ≤ ((h.1 52 19) - (h.1 52 20))) → jG E mX8_scans (n + 2) X Post 181 [some (.ref 52), none, none] [] (jPI (jPI h 52 22 9999) 52 19 ((h.1 52 19) + 1)))
    (b1 : (¬ (f_MoisAt (h.1 52 18) (h.1 52 19) (h.1 61) 48 57) = 0) → (¬ (3 : Int32) ≤ ((h.1 52 19) - (h.1 52 20))) → vp_in (h.1 52 19) 500)
    (k2 : (¬ (f_MoisAt (h.1 52 18) (h.1 52 19) (h.1 61) 48 57) = 0) → (¬ (3 : Int32) ≤ ((h.1 52 19) - (h.1 52 20))) → jG E mX8_scans (n + 2) X Post 181 [some (.ref 52), none, none] [] (jPI (jPI h 52 22 (((10 * (h.1 52 22)) + (h.1 61 ((h.1 52 19).toNatClampNeg))) - 48)) 52 19 ((h.1 52 19) + 1)))
    : jG E mX8_scans (n + 2) X Post 181 [some (.ref 52), none, none] [] h := by
  refine jr_aload_n (pc' := 182) (i := 0) dX8_scans_181 rfl rfl rfl ?_
  refine jr_bipush (pc' := 184) (v := 48) dX8_scans_182 rfl (by decide) ?_
  refine jr_bipush (pc' := 186) (v := 57) dX8_scans_184 rfl (by decide) ?_
  refine jr_callV (pc' := 189) (k := 52) (av := [.int 48, .int 57]) (st := []) sX8_isAt wmX8_116 dX8_scans_186 rfl (by decide) rfl (by decide) rfl rfl rfl (Nat.le_of_ble_eq_true rfl) rfl (c_MoisAt (n := n) 48 57 h (b0)) (fun v h2 hp => ?_)
  rw [hp.1, hp.2]
  show jG E mX8_scans (n + 2) X Post 189 [some (.ref 52), none, none] [.int (f_MoisAt (h.1 52 18) (h.1 52 19) (h.1 61) 48 57)] h
  by_cases c1 : (f_MoisAt (h.1 52 18) (h.1 52 19) (h.1 61) 48 57) = 0
  · refine jr_if_eqT (pc' := 248) dX8_scans_189 rfl c1 ?_
    refine jr_aload_n (pc' := 249) (i := 0) dX8_scans_248 rfl rfl rfl ?_
    refine jr_iconst (pc' := 250) (v := 2) dX8_scans_249 rfl (by decide) ?_
    refine jr_putI (pc' := 253) jK8 (k := 52) (j := 21) wfX8_123 dX8_scans_250 rfl (by decide) rfl (by decide) (by decide) rfl rfl rfl ?_
    exact jr_vret dX8_scans_253 rfl (k0 c1)
  · refine jr_if_eqF (pc' := 192) (tgt := 248) dX8_scans_189 rfl rfl c1 ?_
    refine jr_aload_n (pc' := 193) (i := 0) dX8_scans_192 rfl rfl rfl ?_
    refine jr_aload_n (pc' := 194) (i := 0) dX8_scans_193 rfl rfl rfl ?_
    refine jr_get (pc' := 197) jK8 (k := 52) (j := 19) (v := .int (h.1 52 19)) wfX8_101 dX8_scans_194 rfl (by decide) rfl (by decide) rfl ?_
    refine jr_aload_n (pc' := 198) (i := 0) dX8_scans_197 rfl rfl rfl ?_
    refine jr_get (pc' := 201) jK8 (k := 52) (j := 20) (v := .int (h.1 52 20)) wfX8_120 dX8_scans_198 rfl (by decide) rfl (by decide) rfl ?_
    refine jr_isub (pc' := 202)  dX8_scans_201 rfl  ?_
    refine jr_iconst (pc' := 203) (v := 3) dX8_scans_202 rfl (by decide) ?_
    by_cases c2 : (3 : Int32) ≤ ((h.1 52 19) - (h.1 52 20))
    · refine jr_icmp_geT (pc' := 229) dX8_scans_203 rfl c2 ?_
      refine jr_sipush (pc' := 232) (v := 9999) dX8_scans_229 rfl (by decide) ?_
      refine jr_putI (pc' := 235) jK8 (k := 52) (j := 22) wfX8_136 dX8_scans_232 rfl (by decide) rfl (by decide) (by decide) rfl rfl rfl ?_
      refine jr_aload_n (pc' := 236) (i := 0) dX8_scans_235 rfl rfl rfl ?_
      refine jr_dup (pc' := 237)  dX8_scans_236 rfl rfl ?_
      refine jr_get (pc' := 240) jK8 (k := 52) (j := 19) (v := .int (h.1 52 19)) wfX8_101 dX8_scans_237 rfl (by decide) rfl (by decide) rfl ?_
      refine jr_iconst (pc' := 241) (v := 1) dX8_scans_240 rfl (by decide) ?_
      refine jr_iadd (pc' := 242)  dX8_scans_241 rfl  ?_
      refine jr_putI (pc' := 245) jK8 (k := 52) (j := 19) wfX8_101 dX8_scans_242 rfl (by decide) rfl (by decide) (by decide) rfl rfl rfl ?_
      refine jr_goto (pc' := 181) dX8_scans_245 rfl ?_
      exact jG.weak (lv' := [some (.ref 52), none, none]) ⟨rfl, trivial⟩ (k1 c1 c2)
    · refine jr_icmp_geF (pc' := 206) (tgt := 229) dX8_scans_203 rfl rfl c2 ?_
      refine jr_bipush (pc' := 208) (v := 10) dX8_scans_206 rfl (by decide) ?_
      refine jr_aload_n (pc' := 209) (i := 0) dX8_scans_208 rfl rfl rfl ?_
      refine jr_get (pc' := 212) jK8 (k := 52) (j := 22) (v := .int (h.1 52 22)) wfX8_136 dX8_scans_209 rfl (by decide) rfl (by decide) rfl ?_
      refine jr_imul (pc' := 213)  dX8_scans_212 rfl  ?_
      refine jr_aload_n (pc' := 214) (i := 0) dX8_scans_213 rfl rfl rfl ?_
      refine jr_get (pc' := 217) jK8 (k := 52) (j := 17) (v := .ref 61) wfX8_35 dX8_scans_214 rfl (by decide) rfl (by decide) rfl ?_
      refine jr_aload_n (pc' := 218) (i := 0) dX8_scans_217 rfl rfl rfl ?_
      refine jr_get (pc' := 221) jK8 (k := 52) (j := 19) (v := .int (h.1 52 19)) wfX8_101 dX8_scans_218 rfl (by decide) rfl (by decide) rfl ?_
      refine jr_iald (pc' := 222) (v := h.1 61 ((h.1 52 19).toNatClampNeg)) dX8_scans_221 rfl (by decide) rfl (b1 c1 c2) rfl ?_
      refine jr_iadd (pc' := 223)  dX8_scans_222 rfl  ?_
      refine jr_bipush (pc' := 225) (v := 48) dX8_scans_223 rfl (by decide) ?_
      refine jr_isub (pc' := 226)  dX8_scans_225 rfl  ?_
      refine jr_goto (pc' := 232) dX8_scans_226 rfl ?_
      refine jr_putI (pc' := 235) jK8 (k := 52) (j := 22) wfX8_136 dX8_scans_232 rfl (by decide) rfl (by decide) (by decide) rfl rfl rfl ?_
      refine jr_aload_n (pc' := 236) (i := 0) dX8_scans_235 rfl rfl rfl ?_
      refine jr_dup (pc' := 237)  dX8_scans_236 rfl rfl ?_
      refine jr_get (pc' := 240) jK8 (k := 52) (j := 19) (v := .int (h.1 52 19)) wfX8_101 dX8_scans_237 rfl (by decide) rfl (by decide) rfl ?_
      refine jr_iconst (pc' := 241) (v := 1) dX8_scans_240 rfl (by decide) ?_
      refine jr_iadd (pc' := 242)  dX8_scans_241 rfl  ?_
      refine jr_putI (pc' := 245) jK8 (k := 52) (j := 19) wfX8_101 dX8_scans_242 rfl (by decide) rfl (by decide) (by decide) rfl rfl rfl ?_
      refine jr_goto (pc' := 181) dX8_scans_245 rfl ?_
      exact jG.weak (lv' := [some (.ref 52), none, none]) ⟨rfl, trivial⟩ (k2 c1 c2)

set_option maxRecDepth 4000 in
theorem q_Moscans_62 {E : jEnv} {n : Nat} {X : State → Prop} {Post : Option Value → HP → Prop} (l1 : Int64) (h : HP)
    (b0 : ((¬ ((h.1 52 18)) ≤ ((h.1 52 19))) → vp_in ((h.1 52 19)) 500))
    (k0 : ((f_MoisAt (h.1 52 18) (h.1 52 19) (h.1 61) 97 122) = 0) → ((6 : Int32) < ((h.1 52 19) - (h.1 52 20))) → Post none (jPI h 52 21 1))
    (k1 : ((f_MoisAt (h.1 52 18) (h.1 52 19) (h.1 61) 97 122) = 0) → (¬ (6 : Int32) < ((h.1 52 19) - (h.1 52 20))) → ((f_MoverbOf l1) = (-1)) → Post none (jPI h 52 21 1))
    (k2 : ((f_MoisAt (h.1 52 18) (h.1 52 19) (h.1 61) 97 122) = 0) → (¬ (6 : Int32) < ((h.1 52 19) - (h.1 52 20))) → (¬ (f_MoverbOf l1) = (-1)) → Post none (jPI h 52 21 (5 + (f_MoverbOf l1))))
    (b1 : (¬ (f_MoisAt (h.1 52 18) (h.1 52 19) (h.1 61) 97 122) = 0) → (((h.1 52 19) - (h.1 52 20)) ≤ 5) → vp_in (h.1 52 19) 500)
    (k3 : (¬ (f_MoisAt (h.1 52 18) (h.1 52 19) (h.1 61) 97 122) = 0) → (((h.1 52 19) - (h.1 52 20)) ≤ 5) → jG E mX8_scans (n + 2) X Post 62 [some (.ref 52), some (.long ((((32 * l1) + ((h.1 61 ((h.1 52 19).toNatClampNeg)).toInt64)) - 97) + 1)), none] [] (jPI h 52 19 ((h.1 52 19) + 1)))
    (k4 : (¬ (f_MoisAt (h.1 52 18) (h.1 52 19) (h.1 61) 97 122) = 0) → (¬ ((h.1 52 19) - (h.1 52 20)) ≤ 5) → jG E mX8_scans (n + 2) X Post 62 [some (.ref 52), some (.long (-1)), none] [] (jPI h 52 19 ((h.1 52 19) + 1)))
    : jG E mX8_scans (n + 2) X Post 62 [some (.ref 52), some (.long l1), none] [] h := by
  refine jr_aload_n (pc' := 63) (i := 0) dX8_scans_62 rfl rfl rfl ?_
  refine jr_bipush (pc' := 65) (v := 97) dX8_scans_63 rfl (by decide) ?_
  refine jr_bipush (pc' := 67) (v := 122) dX8_scans_65 rfl (by decide) ?_
  refine jr_callV (pc' := 70) (k := 52) (av := [.int 97, .int 122]) (st := []) sX8_isAt wmX8_116 dX8_scans_67 rfl (by decide) rfl (by decide) rfl rfl rfl (Nat.le_of_ble_eq_true rfl) rfl (c_MoisAt (n := n) 97 122 h (b0)) (fun v h2 hp => ?_)
  rw [hp.1, hp.2]
  show jG E mX8_scans (n + 2) X Post 70 [some (.ref 52), some (.long l1), none] [.int (f_MoisAt (h.1 52 18) (h.1 52 19) (h.1 61) 97 122)] h
  by_cases c1 : (f_MoisAt (h.1 52 18) (h.1 52 19) (h.1 61) 97 122) = 0
  · refine jr_if_eqT (pc' := 128) dX8_scans_70 rfl c1 ?_
    refine jr_aload_n (pc' := 129) (i := 0) dX8_scans_128 rfl rfl rfl ?_
    refine jr_aload_n (pc' := 130) (i := 0) dX8_scans_129 rfl rfl rfl ?_
    refine jr_get (pc' := 133) jK8 (k := 52) (j := 19) (v := .int (h.1 52 19)) wfX8_101 dX8_scans_130 rfl (by decide) rfl (by decide) rfl ?_
    refine jr_aload_n (pc' := 134) (i := 0) dX8_scans_133 rfl rfl rfl ?_
    refine jr_get (pc' := 137) jK8 (k := 52) (j := 20) (v := .int (h.1 52 20)) wfX8_120 dX8_scans_134 rfl (by decide) rfl (by decide) rfl ?_
    refine jr_isub (pc' := 138)  dX8_scans_137 rfl  ?_
    refine jr_bipush (pc' := 140) (v := 6) dX8_scans_138 rfl (by decide) ?_
    by_cases c2 : (6 : Int32) < ((h.1 52 19) - (h.1 52 20))
    · refine jr_icmp_gtT (pc' := 151) dX8_scans_140 rfl c2 ?_
      refine jr_iconst (pc' := 152) (v := 1) dX8_scans_151 rfl (by decide) ?_
      refine jr_goto (pc' := 161) dX8_scans_152 rfl ?_
      refine jr_putI (pc' := 164) jK8 (k := 52) (j := 21) wfX8_123 dX8_scans_161 rfl (by decide) rfl (by decide) (by decide) rfl rfl rfl ?_
      exact jr_vret dX8_scans_164 rfl (k0 c1 c2)
    · refine jr_icmp_gtF (pc' := 143) (tgt := 151) dX8_scans_140 rfl rfl c2 ?_
      refine jr_lload_n (pc' := 144) (i := 1) dX8_scans_143 rfl rfl rfl ?_
      refine jr_callS (pc' := 147) (av := [.long l1]) (st := [.ref 52]) sX8_verbOf wmX8_132 dX8_scans_144 rfl rfl (Nat.le_of_ble_eq_true rfl) rfl (c_MoverbOf (n := n + 1) l1 h ) (fun v h2 hp => ?_)
      rw [hp.1, hp.2]
      show jG E mX8_scans (n + 2) X Post 147 [some (.ref 52), some (.long l1), none] [.int (f_MoverbOf l1), .ref 52] h
      refine jr_iconst (pc' := 148) (v := (-1)) dX8_scans_147 rfl (by decide) ?_
      by_cases c3 : (f_MoverbOf l1) = (-1)
      · refine jr_icmp_neF (pc' := 151) (tgt := 155) dX8_scans_148 rfl rfl c3 ?_
        refine jr_iconst (pc' := 152) (v := 1) dX8_scans_151 rfl (by decide) ?_
        refine jr_goto (pc' := 161) dX8_scans_152 rfl ?_
        refine jr_putI (pc' := 164) jK8 (k := 52) (j := 21) wfX8_123 dX8_scans_161 rfl (by decide) rfl (by decide) (by decide) rfl rfl rfl ?_
        exact jr_vret dX8_scans_164 rfl (k1 c1 c2 c3)
      · refine jr_icmp_neT (pc' := 155) dX8_scans_148 rfl c3 ?_
        refine jr_iconst (pc' := 156) (v := 5) dX8_scans_155 rfl (by decide) ?_
        refine jr_lload_n (pc' := 157) (i := 1) dX8_scans_156 rfl rfl rfl ?_
        refine jr_callS (pc' := 160) (av := [.long l1]) (st := [.int 5, .ref 52]) sX8_verbOf wmX8_132 dX8_scans_157 rfl rfl (Nat.le_of_ble_eq_true rfl) rfl (c_MoverbOf (n := n + 1) l1 h ) (fun v h2 hp => ?_)
        rw [hp.1, hp.2]
        show jG E mX8_scans (n + 2) X Post 160 [some (.ref 52), some (.long l1), none] [.int (f_MoverbOf l1), .int 5, .ref 52] h
        refine jr_iadd (pc' := 161)  dX8_scans_160 rfl  ?_
        refine jr_putI (pc' := 164) jK8 (k := 52) (j := 21) wfX8_123 dX8_scans_161 rfl (by decide) rfl (by decide) (by decide) rfl rfl rfl ?_
        exact jr_vret dX8_scans_164 rfl (k2 c1 c2 c3)
  · refine jr_if_eqF (pc' := 73) (tgt := 128) dX8_scans_70 rfl rfl c1 ?_
    refine jr_aload_n (pc' := 74) (i := 0) dX8_scans_73 rfl rfl rfl ?_
    refine jr_get (pc' := 77) jK8 (k := 52) (j := 19) (v := .int (h.1 52 19)) wfX8_101 dX8_scans_74 rfl (by decide) rfl (by decide) rfl ?_
    refine jr_aload_n (pc' := 78) (i := 0) dX8_scans_77 rfl rfl rfl ?_
    refine jr_get (pc' := 81) jK8 (k := 52) (j := 20) (v := .int (h.1 52 20)) wfX8_120 dX8_scans_78 rfl (by decide) rfl (by decide) rfl ?_
    refine jr_isub (pc' := 82)  dX8_scans_81 rfl  ?_
    refine jr_iconst (pc' := 83) (v := 5) dX8_scans_82 rfl (by decide) ?_
    by_cases c4 : ((h.1 52 19) - (h.1 52 20)) ≤ 5
    · refine jr_icmp_leT (pc' := 92) dX8_scans_83 rfl c4 ?_
      refine jr_ldc2 (pc' := 95) (v := 32) dX8_scans_92 rfl wcX8_128 ?_
      refine jr_lload_n (pc' := 96) (i := 1) dX8_scans_95 rfl rfl rfl ?_
      refine jr_lmul (pc' := 97)  dX8_scans_96 rfl  ?_
      refine jr_aload_n (pc' := 98) (i := 0) dX8_scans_97 rfl rfl rfl ?_
      refine jr_get (pc' := 101) jK8 (k := 52) (j := 17) (v := .ref 61) wfX8_35 dX8_scans_98 rfl (by decide) rfl (by decide) rfl ?_
      refine jr_aload_n (pc' := 102) (i := 0) dX8_scans_101 rfl rfl rfl ?_
      refine jr_get (pc' := 105) jK8 (k := 52) (j := 19) (v := .int (h.1 52 19)) wfX8_101 dX8_scans_102 rfl (by decide) rfl (by decide) rfl ?_
      refine jr_iald (pc' := 106) (v := h.1 61 ((h.1 52 19).toNatClampNeg)) dX8_scans_105 rfl (by decide) rfl (b1 c1 c4) rfl ?_
      refine jr_i2l (pc' := 107)  dX8_scans_106 rfl  ?_
      refine jr_ladd (pc' := 108)  dX8_scans_107 rfl  ?_
      refine jr_ldc2 (pc' := 111) (v := 97) dX8_scans_108 rfl wcX8_130 ?_
      refine jr_lsub (pc' := 112)  dX8_scans_111 rfl  ?_
      refine jr_lconst (pc' := 113) (v := 1) dX8_scans_112 rfl (by decide) ?_
      refine jr_ladd (pc' := 114)  dX8_scans_113 rfl  ?_
      refine jr_lstore_n (pc' := 115) (i := 1) (lv' := [some (.ref 52), some (.long ((((32 * l1) + ((h.1 61 ((h.1 52 19).toNatClampNeg)).toInt64)) - 97) + 1)), none]) dX8_scans_114 rfl rfl (by decide) rfl ?_
      refine jr_aload_n (pc' := 116) (i := 0) dX8_scans_115 rfl rfl rfl ?_
      refine jr_dup (pc' := 117)  dX8_scans_116 rfl rfl ?_
      refine jr_get (pc' := 120) jK8 (k := 52) (j := 19) (v := .int (h.1 52 19)) wfX8_101 dX8_scans_117 rfl (by decide) rfl (by decide) rfl ?_
      refine jr_iconst (pc' := 121) (v := 1) dX8_scans_120 rfl (by decide) ?_
      refine jr_iadd (pc' := 122)  dX8_scans_121 rfl  ?_
      refine jr_putI (pc' := 125) jK8 (k := 52) (j := 19) wfX8_101 dX8_scans_122 rfl (by decide) rfl (by decide) (by decide) rfl rfl rfl ?_
      refine jr_goto (pc' := 62) dX8_scans_125 rfl ?_
      exact jG.weak (lv' := [some (.ref 52), some (.long ((((32 * l1) + ((h.1 61 ((h.1 52 19).toNatClampNeg)).toInt64)) - 97) + 1)), none]) ⟨rfl, rfl, trivial⟩ (k3 c1 c4)
    · refine jr_icmp_leF (pc' := 86) (tgt := 92) dX8_scans_83 rfl rfl c4 ?_
      refine jr_ldc2 (pc' := 89) (v := (-1)) dX8_scans_86 rfl wcX8_126 ?_
      refine jr_goto (pc' := 114) dX8_scans_89 rfl ?_
      refine jr_lstore_n (pc' := 115) (i := 1) (lv' := [some (.ref 52), some (.long (-1)), none]) dX8_scans_114 rfl rfl (by decide) rfl ?_
      refine jr_aload_n (pc' := 116) (i := 0) dX8_scans_115 rfl rfl rfl ?_
      refine jr_dup (pc' := 117)  dX8_scans_116 rfl rfl ?_
      refine jr_get (pc' := 120) jK8 (k := 52) (j := 19) (v := .int (h.1 52 19)) wfX8_101 dX8_scans_117 rfl (by decide) rfl (by decide) rfl ?_
      refine jr_iconst (pc' := 121) (v := 1) dX8_scans_120 rfl (by decide) ?_
      refine jr_iadd (pc' := 122)  dX8_scans_121 rfl  ?_
      refine jr_putI (pc' := 125) jK8 (k := 52) (j := 19) wfX8_101 dX8_scans_122 rfl (by decide) rfl (by decide) (by decide) rfl rfl rfl ?_
      refine jr_goto (pc' := 62) dX8_scans_125 rfl ?_
      exact jG.weak (lv' := [some (.ref 52), some (.long (-1)), none]) ⟨rfl, rfl, trivial⟩ (k4 c1 c4)

theorem q_Moland_0 {E : jEnv} {n : Nat} {X : State → Prop} {Post : Option Value → HP → Prop}  (h : HP)
    (k0 : jCall E mX8_takes n [.ref 52, .int 1, .int 9] h (fun v h2 => jG E mX8_land (n + 1) X Post 7 [some (.ref 52)] (v.toList ++ []) h2))
    : jG E mX8_land (n + 1) X Post 0 [some (.ref 52)] [] h := by
  refine jr_aload_n (pc' := 1) (i := 0) dX8_land_0 rfl rfl rfl ?_
  refine jr_iconst (pc' := 2) (v := 1) dX8_land_1 rfl (by decide) ?_
  refine jr_bipush (pc' := 4) (v := 9) dX8_land_2 rfl (by decide) ?_
  obtain ⟨P1, hC1, hK1⟩ := k0
  exact jr_callV (pc' := 7) (k := 52) (av := [.int 1, .int 9]) (st := []) sX8_takes wmX8_152 dX8_land_4 rfl (by decide) rfl (by decide) rfl rfl rfl (Nat.le_of_ble_eq_true rfl) rfl hC1 (fun v h2 hp => jG.weak (lv' := [some (.ref 52)]) ⟨rfl, trivial⟩ (hK1 v h2 hp))

theorem q_Moland_7 {E : jEnv} {n : Nat} {X : State → Prop} {Post : Option Value → HP → Prop} (s0 : Int32) (h : HP)
    (k0 : (s0 = 0) → Post (some (.int 0)) h)
    (k1 : (¬ s0 = 0) → ((h.1 52 21) = 2) → ((f_Moin ((h.1 52 22).toInt64) 1 9) = 0) → jCall E mX8_takes n [.ref 52, .int 1, .int 9] (jPI h 52 26 (h.1 52 25)) (fun v h2 => jG E mX8_land (n + 1) X Post 70 [some (.ref 52)] (v.toList ++ []) h2))
    (k2 : (¬ s0 = 0) → ((h.1 52 21) = 2) → (¬ (f_Moin ((h.1 52 22).toInt64) 1 9) = 0) → (((h.1 52 25) * (h.1 52 22)) ≤ 36) → jCall E mX8_takes n [.ref 52, .int 1, .int 9] (jPI h 52 26 (h.1 52 25)) (fun v h2 => jG E mX8_land (n + 1) X Post 70 [some (.ref 52)] (v.toList ++ []) h2))
    (k3 : (¬ s0 = 0) → ((h.1 52 21) = 2) → (¬ (f_Moin ((h.1 52 22).toInt64) 1 9) = 0) → (¬ ((h.1 52 25) * (h.1 52 22)) ≤ 36) → Post (some (.int (f_Mofaults 2))) (jPI (jPI h 52 26 (h.1 52 25)) 52 23 2))
    (b0 : (¬ s0 = 0) → ((h.1 52 21) = 2) → (¬ (f_Moin ((h.1 52 22).toInt64) 1 9) = 0) → (¬ ((h.1 52 25) * (h.1 52 22)) ≤ 36) → narrow .boolean (.int (f_Mofaults 2)) = .int (f_Mofaults 2))
    (k4 : (¬ s0 = 0) → (¬ (h.1 52 21) = 2) → jCall E mX8_takes n [.ref 52, .int 1, .int 9] (jPI h 52 26 (h.1 52 25)) (fun v h2 => jG E mX8_land (n + 1) X Post 70 [some (.ref 52)] (v.toList ++ []) h2))
    : jG E mX8_land (n + 1) X Post 7 [some (.ref 52)] [.int s0] h := by
  by_cases c1 : s0 = 0
  · refine jr_if_neF (pc' := 10) (tgt := 12) dX8_land_7 rfl rfl c1 ?_
    refine jr_iconst (pc' := 11) (v := 0) dX8_land_10 rfl (by decide) ?_
    exact jr_iret dX8_land_11 rfl rfl (k0 c1)
  · refine jr_if_neT (pc' := 12) dX8_land_7 rfl c1 ?_
    refine jr_aload_n (pc' := 13) (i := 0) dX8_land_12 rfl rfl rfl ?_
    refine jr_aload_n (pc' := 14) (i := 0) dX8_land_13 rfl rfl rfl ?_
    refine jr_get (pc' := 17) jK8 (k := 52) (j := 25) (v := .int (h.1 52 25)) wfX8_146 dX8_land_14 rfl (by decide) rfl (by decide) rfl ?_
    refine jr_putI (pc' := 20) jK8 (k := 52) (j := 26) wfX8_155 dX8_land_17 rfl (by decide) rfl (by decide) (by decide) rfl rfl rfl ?_
    refine jr_aload_n (pc' := 21) (i := 0) dX8_land_20 rfl rfl rfl ?_
    refine jr_get (pc' := 24) jK8 (k := 52) (j := 21) (v := .int (h.1 52 21)) wfX8_123 dX8_land_21 rfl (by decide) rfl (by decide) rfl ?_
    refine jr_iconst (pc' := 25) (v := 2) dX8_land_24 rfl (by decide) ?_
    by_cases c2 : (h.1 52 21) = 2
    · refine jr_icmp_neF (pc' := 28) (tgt := 63) dX8_land_25 rfl rfl c2 ?_
      refine jr_aload_n (pc' := 29) (i := 0) dX8_land_28 rfl rfl rfl ?_
      refine jr_get (pc' := 32) jK8 (k := 52) (j := 22) (v := .int (h.1 52 22)) wfX8_136 dX8_land_29 rfl (by decide) rfl (by decide) rfl ?_
      refine jr_i2l (pc' := 33)  dX8_land_32 rfl  ?_
      refine jr_lconst (pc' := 34) (v := 1) dX8_land_33 rfl (by decide) ?_
      refine jr_ldc2 (pc' := 37) (v := 9) dX8_land_34 rfl wcX8_158 ?_
      refine jr_callS (pc' := 40) (av := [.long ((h.1 52 22).toInt64), .long 1, .long 9]) (st := []) sX8_in wmX8_79 dX8_land_37 rfl rfl (Nat.le_of_ble_eq_true rfl) rfl (c_Moin (n := n) ((h.1 52 22).toInt64) 1 9 (jPI h 52 26 (h.1 52 25)) ) (fun v h2 hp => ?_)
      rw [hp.1, hp.2]
      show jG E mX8_land (n + 1) X Post 40 [some (.ref 52)] [.int (f_Moin ((h.1 52 22).toInt64) 1 9)] (jPI h 52 26 (h.1 52 25))
      by_cases c3 : (f_Moin ((h.1 52 22).toInt64) 1 9) = 0
      · refine jr_if_eqT (pc' := 63) dX8_land_40 rfl c3 ?_
        refine jr_aload_n (pc' := 64) (i := 0) dX8_land_63 rfl rfl rfl ?_
        refine jr_iconst (pc' := 65) (v := 1) dX8_land_64 rfl (by decide) ?_
        refine jr_bipush (pc' := 67) (v := 9) dX8_land_65 rfl (by decide) ?_
        obtain ⟨P1, hC1, hK1⟩ := k1 c1 c2 c3
        exact jr_callV (pc' := 70) (k := 52) (av := [.int 1, .int 9]) (st := []) sX8_takes wmX8_152 dX8_land_67 rfl (by decide) rfl (by decide) rfl rfl rfl (Nat.le_of_ble_eq_true rfl) rfl hC1 (fun v h2 hp => jG.weak (lv' := [some (.ref 52)]) ⟨rfl, trivial⟩ (hK1 v h2 hp))
      · refine jr_if_eqF (pc' := 43) (tgt := 63) dX8_land_40 rfl rfl c3 ?_
        refine jr_aload_n (pc' := 44) (i := 0) dX8_land_43 rfl rfl rfl ?_
        refine jr_get (pc' := 47) jK8 (k := 52) (j := 26) (v := .int (h.1 52 25)) wfX8_155 dX8_land_44 rfl (by decide) rfl (by decide) rfl ?_
        refine jr_aload_n (pc' := 48) (i := 0) dX8_land_47 rfl rfl rfl ?_
        refine jr_get (pc' := 51) jK8 (k := 52) (j := 22) (v := .int (h.1 52 22)) wfX8_136 dX8_land_48 rfl (by decide) rfl (by decide) rfl ?_
        refine jr_imul (pc' := 52)  dX8_land_51 rfl  ?_
        refine jr_bipush (pc' := 54) (v := 36) dX8_land_52 rfl (by decide) ?_
        by_cases c4 : ((h.1 52 25) * (h.1 52 22)) ≤ 36
        · refine jr_icmp_leT (pc' := 63) dX8_land_54 rfl c4 ?_
          refine jr_aload_n (pc' := 64) (i := 0) dX8_land_63 rfl rfl rfl ?_
          refine jr_iconst (pc' := 65) (v := 1) dX8_land_64 rfl (by decide) ?_
          refine jr_bipush (pc' := 67) (v := 9) dX8_land_65 rfl (by decide) ?_
          obtain ⟨P1, hC1, hK1⟩ := k2 c1 c2 c3 c4
          exact jr_callV (pc' := 70) (k := 52) (av := [.int 1, .int 9]) (st := []) sX8_takes wmX8_152 dX8_land_67 rfl (by decide) rfl (by decide) rfl rfl rfl (Nat.le_of_ble_eq_true rfl) rfl hC1 (fun v h2 hp => jG.weak (lv' := [some (.ref 52)]) ⟨rfl, trivial⟩ (hK1 v h2 hp))
        · refine jr_icmp_leF (pc' := 57) (tgt := 63) dX8_land_54 rfl rfl c4 ?_
          refine jr_aload_n (pc' := 58) (i := 0) dX8_land_57 rfl rfl rfl ?_
          refine jr_iconst (pc' := 59) (v := 2) dX8_land_58 rfl (by decide) ?_
          refine jr_callV (pc' := 62) (k := 52) (av := [.int 2]) (st := []) sX8_faults wmX8_142 dX8_land_59 rfl (by decide) rfl (by decide) rfl rfl rfl (Nat.le_of_ble_eq_true rfl) rfl (c_Mofaults (n := n) 2 (jPI h 52 26 (h.1 52 25)) ) (fun v h2 hp => ?_)
          rw [hp.1, hp.2]
          show jG E mX8_land (n + 1) X Post 62 [some (.ref 52)] [.int (f_Mofaults 2)] (jPI (jPI h 52 26 (h.1 52 25)) 52 23 2)
          exact jr_iret dX8_land_62 rfl (b0 c1 c2 c3 c4) (k3 c1 c2 c3 c4)
    · refine jr_icmp_neT (pc' := 63) dX8_land_25 rfl c2 ?_
      refine jr_aload_n (pc' := 64) (i := 0) dX8_land_63 rfl rfl rfl ?_
      refine jr_iconst (pc' := 65) (v := 1) dX8_land_64 rfl (by decide) ?_
      refine jr_bipush (pc' := 67) (v := 9) dX8_land_65 rfl (by decide) ?_
      obtain ⟨P1, hC1, hK1⟩ := k4 c1 c2
      exact jr_callV (pc' := 70) (k := 52) (av := [.int 1, .int 9]) (st := []) sX8_takes wmX8_152 dX8_land_67 rfl (by decide) rfl (by decide) rfl rfl rfl (Nat.le_of_ble_eq_true rfl) rfl hC1 (fun v h2 hp => jG.weak (lv' := [some (.ref 52)]) ⟨rfl, trivial⟩ (hK1 v h2 hp))

theorem q_Moland_70 {E : jEnv} {n : Nat} {X : State → Prop} {Post : Option Value → HP → Prop} (s0 : Int32) (h : HP)
    (k0 : (s0 = 0) → Post (some (.int 0)) h)
    (k1 : (¬ s0 = 0) → jCall E mX8_signs n [.ref 52, .int 3] (jPI h 52 27 (h.1 52 25)) (fun v h2 => jG E mX8_land (n + 1) X Post 88 [none] (v.toList ++ []) h2))
    : jG E mX8_land (n + 1) X Post 70 [some (.ref 52)] [.int s0] h := by
  by_cases c1 : s0 = 0
  · refine jr_if_neF (pc' := 73) (tgt := 75) dX8_land_70 rfl rfl c1 ?_
    refine jr_iconst (pc' := 74) (v := 0) dX8_land_73 rfl (by decide) ?_
    exact jr_iret dX8_land_74 rfl rfl (k0 c1)
  · refine jr_if_neT (pc' := 75) dX8_land_70 rfl c1 ?_
    refine jr_aload_n (pc' := 76) (i := 0) dX8_land_75 rfl rfl rfl ?_
    refine jr_aload_n (pc' := 77) (i := 0) dX8_land_76 rfl rfl rfl ?_
    refine jr_get (pc' := 80) jK8 (k := 52) (j := 25) (v := .int (h.1 52 25)) wfX8_146 dX8_land_77 rfl (by decide) rfl (by decide) rfl ?_
    refine jr_putI (pc' := 83) jK8 (k := 52) (j := 27) wfX8_160 dX8_land_80 rfl (by decide) rfl (by decide) (by decide) rfl rfl rfl ?_
    refine jr_aload_n (pc' := 84) (i := 0) dX8_land_83 rfl rfl rfl ?_
    refine jr_iconst (pc' := 85) (v := 3) dX8_land_84 rfl (by decide) ?_
    obtain ⟨P1, hC1, hK1⟩ := k1 c1
    exact jr_callV (pc' := 88) (k := 52) (av := [.int 3]) (st := []) sX8_signs wmX8_163 dX8_land_85 rfl (by decide) rfl (by decide) rfl rfl rfl (Nat.le_of_ble_eq_true rfl) rfl hC1 (fun v h2 hp => jG.weak (lv' := [none]) trivial (hK1 v h2 hp))

theorem q_Moland_88 {E : jEnv} {n : Nat} {X : State → Prop} {Post : Option Value → HP → Prop} (s0 : Int32) (h : HP)
    (k0 : Post (some (.int s0)) h)
    (b0 : narrow .boolean (.int s0) = .int s0)
    : jG E mX8_land (n + 1) X Post 88 [none] [.int s0] h := by
  exact jr_iret dX8_land_88 rfl (b0) (k0)

theorem q_Motakes_0 {E : jEnv} {n : Nat} {X : State → Prop} {Post : Option Value → HP → Prop} (x : Int32) (y : Int32) (h : HP)
    (k0 : ((h.1 52 21) = 2) → ((f_Moin ((h.1 52 22).toInt64) x.toInt64 y.toInt64) = 0) → Post (some (.int (f_Mofaults 2))) (jPI h 52 23 2))
    (b0 : ((h.1 52 21) = 2) → ((f_Moin ((h.1 52 22).toInt64) x.toInt64 y.toInt64) = 0) → narrow .boolean (.int (f_Mofaults 2)) = .int (f_Mofaults 2))
    (k1 : ((h.1 52 21) = 2) → (¬ (f_Moin ((h.1 52 22).toInt64) x.toInt64 y.toInt64) = 0) → jCall E mX8_scans n [.ref 52] (jPI h 52 25 (h.1 52 22)) (fun v h2 => jG E mX8_takes (n + 1) X Post 47 [none, none, none] (v.toList ++ []) h2))
    (k2 : (¬ (h.1 52 21) = 2) → Post (some (.int (f_Mofaults 1))) (jPI h 52 23 1))
    (b1 : (¬ (h.1 52 21) = 2) → narrow .boolean (.int (f_Mofaults 1)) = .int (f_Mofaults 1))
    : jG E mX8_takes (n + 1) X Post 0 [some (.ref 52), some (.int x), some (.int y)] [] h := by
  refine jr_aload_n (pc' := 1) (i := 0) dX8_takes_0 rfl rfl rfl ?_
  refine jr_get (pc' := 4) jK8 (k := 52) (j := 21) (v := .int (h.1 52 21)) wfX8_123 dX8_takes_1 rfl (by decide) rfl (by decide) rfl ?_
  refine jr_iconst (pc' := 5) (v := 2) dX8_takes_4 rfl (by decide) ?_
  by_cases c1 : (h.1 52 21) = 2
  · refine jr_icmp_eqT (pc' := 14) dX8_takes_5 rfl c1 ?_
    refine jr_aload_n (pc' := 15) (i := 0) dX8_takes_14 rfl rfl rfl ?_
    refine jr_get (pc' := 18) jK8 (k := 52) (j := 22) (v := .int (h.1 52 22)) wfX8_136 dX8_takes_15 rfl (by decide) rfl (by decide) rfl ?_
    refine jr_i2l (pc' := 19)  dX8_takes_18 rfl  ?_
    refine jr_iload_n (pc' := 20) (i := 1) dX8_takes_19 rfl rfl rfl ?_
    refine jr_i2l (pc' := 21)  dX8_takes_20 rfl  ?_
    refine jr_iload_n (pc' := 22) (i := 2) dX8_takes_21 rfl rfl rfl ?_
    refine jr_i2l (pc' := 23)  dX8_takes_22 rfl  ?_
    refine jr_callS (pc' := 26) (av := [.long ((h.1 52 22).toInt64), .long x.toInt64, .long y.toInt64]) (st := []) sX8_in wmX8_79 dX8_takes_23 rfl rfl (Nat.le_of_ble_eq_true rfl) rfl (c_Moin (n := n) ((h.1 52 22).toInt64) x.toInt64 y.toInt64 h ) (fun v h2 hp => ?_)
    rw [hp.1, hp.2]
    show jG E mX8_takes (n + 1) X Post 26 [some (.ref 52), some (.int x), some (.int y)] [.int (f_Moin ((h.1 52 22).toInt64) x.toInt64 y.toInt64)] h
    by_cases c2 : (f_Moin ((h.1 52 22).toInt64) x.toInt64 y.toInt64) = 0
    · refine jr_if_neF (pc' := 29) (tgt := 35) dX8_takes_26 rfl rfl c2 ?_
      refine jr_aload_n (pc' := 30) (i := 0) dX8_takes_29 rfl rfl rfl ?_
      refine jr_iconst (pc' := 31) (v := 2) dX8_takes_30 rfl (by decide) ?_
      refine jr_callV (pc' := 34) (k := 52) (av := [.int 2]) (st := []) sX8_faults wmX8_142 dX8_takes_31 rfl (by decide) rfl (by decide) rfl rfl rfl (Nat.le_of_ble_eq_true rfl) rfl (c_Mofaults (n := n) 2 h ) (fun v h2 hp => ?_)
      rw [hp.1, hp.2]
      show jG E mX8_takes (n + 1) X Post 34 [some (.ref 52), some (.int x), some (.int y)] [.int (f_Mofaults 2)] (jPI h 52 23 2)
      exact jr_iret dX8_takes_34 rfl (b0 c1 c2) (k0 c1 c2)
    · refine jr_if_neT (pc' := 35) dX8_takes_26 rfl c2 ?_
      refine jr_aload_n (pc' := 36) (i := 0) dX8_takes_35 rfl rfl rfl ?_
      refine jr_aload_n (pc' := 37) (i := 0) dX8_takes_36 rfl rfl rfl ?_
      refine jr_get (pc' := 40) jK8 (k := 52) (j := 22) (v := .int (h.1 52 22)) wfX8_136 dX8_takes_37 rfl (by decide) rfl (by decide) rfl ?_
      refine jr_putI (pc' := 43) jK8 (k := 52) (j := 25) wfX8_146 dX8_takes_40 rfl (by decide) rfl (by decide) (by decide) rfl rfl rfl ?_
      refine jr_aload_n (pc' := 44) (i := 0) dX8_takes_43 rfl rfl rfl ?_
      obtain ⟨P1, hC1, hK1⟩ := k1 c1 c2
      exact jr_callV (pc' := 47) (k := 52) (av := []) (st := []) sX8_scans wmX8_149 dX8_takes_44 rfl (by decide) rfl (by decide) rfl rfl rfl (Nat.le_of_ble_eq_true rfl) rfl hC1 (fun v h2 hp => jG.weak (lv' := [none, none, none]) trivial (hK1 v h2 hp))
  · refine jr_icmp_eqF (pc' := 8) (tgt := 14) dX8_takes_5 rfl rfl c1 ?_
    refine jr_aload_n (pc' := 9) (i := 0) dX8_takes_8 rfl rfl rfl ?_
    refine jr_iconst (pc' := 10) (v := 1) dX8_takes_9 rfl (by decide) ?_
    refine jr_callV (pc' := 13) (k := 52) (av := [.int 1]) (st := []) sX8_faults wmX8_142 dX8_takes_10 rfl (by decide) rfl (by decide) rfl rfl rfl (Nat.le_of_ble_eq_true rfl) rfl (c_Mofaults (n := n) 1 h ) (fun v h2 hp => ?_)
    rw [hp.1, hp.2]
    show jG E mX8_takes (n + 1) X Post 13 [some (.ref 52), some (.int x), some (.int y)] [.int (f_Mofaults 1)] (jPI h 52 23 1)
    exact jr_iret dX8_takes_13 rfl (b1 c1) (k2 c1)

theorem q_Motakes_47 {E : jEnv} {n : Nat} {X : State → Prop} {Post : Option Value → HP → Prop}  (h : HP)
    (k0 : Post (some (.int 1)) h)
    : jG E mX8_takes (n + 1) X Post 47 [none, none, none] [] h := by
  refine jr_iconst (pc' := 48) (v := 1) dX8_takes_47 rfl (by decide) ?_
  exact jr_iret dX8_takes_48 rfl rfl (k0)

theorem q_Mosigns_0 {E : jEnv} {n : Nat} {X : State → Prop} {Post : Option Value → HP → Prop} (x : Int32) (h : HP)
    (k0 : ((h.1 52 21) = x) → jCall E mX8_scans n [.ref 52] h (fun v h2 => jG E mX8_signs (n + 1) X Post 18 [none, none] (v.toList ++ []) h2))
    (k1 : (¬ (h.1 52 21) = x) → Post (some (.int (f_Mofaults 1))) (jPI h 52 23 1))
    (b0 : (¬ (h.1 52 21) = x) → narrow .boolean (.int (f_Mofaults 1)) = .int (f_Mofaults 1))
    : jG E mX8_signs (n + 1) X Post 0 [some (.ref 52), some (.int x)] [] h := by
  refine jr_aload_n (pc' := 1) (i := 0) dX8_signs_0 rfl rfl rfl ?_
  refine jr_get (pc' := 4) jK8 (k := 52) (j := 21) (v := .int (h.1 52 21)) wfX8_123 dX8_signs_1 rfl (by decide) rfl (by decide) rfl ?_
  refine jr_iload_n (pc' := 5) (i := 1) dX8_signs_4 rfl rfl rfl ?_
  by_cases c1 : (h.1 52 21) = x
  · refine jr_icmp_eqT (pc' := 14) dX8_signs_5 rfl c1 ?_
    refine jr_aload_n (pc' := 15) (i := 0) dX8_signs_14 rfl rfl rfl ?_
    obtain ⟨P1, hC1, hK1⟩ := k0 c1
    exact jr_callV (pc' := 18) (k := 52) (av := []) (st := []) sX8_scans wmX8_149 dX8_signs_15 rfl (by decide) rfl (by decide) rfl rfl rfl (Nat.le_of_ble_eq_true rfl) rfl hC1 (fun v h2 hp => jG.weak (lv' := [none, none]) trivial (hK1 v h2 hp))
  · refine jr_icmp_eqF (pc' := 8) (tgt := 14) dX8_signs_5 rfl rfl c1 ?_
    refine jr_aload_n (pc' := 9) (i := 0) dX8_signs_8 rfl rfl rfl ?_
    refine jr_iconst (pc' := 10) (v := 1) dX8_signs_9 rfl (by decide) ?_
    refine jr_callV (pc' := 13) (k := 52) (av := [.int 1]) (st := []) sX8_faults wmX8_142 dX8_signs_10 rfl (by decide) rfl (by decide) rfl rfl rfl (Nat.le_of_ble_eq_true rfl) rfl (c_Mofaults (n := n) 1 h ) (fun v h2 hp => ?_)
    rw [hp.1, hp.2]
    show jG E mX8_signs (n + 1) X Post 13 [some (.ref 52), some (.int x)] [.int (f_Mofaults 1)] (jPI h 52 23 1)
    exact jr_iret dX8_signs_13 rfl (b0 c1) (k1 c1)

theorem q_Mosigns_18 {E : jEnv} {n : Nat} {X : State → Prop} {Post : Option Value → HP → Prop}  (h : HP)
    (k0 : Post (some (.int 1)) h)
    : jG E mX8_signs (n + 1) X Post 18 [none, none] [] h := by
  refine jr_iconst (pc' := 19) (v := 1) dX8_signs_18 rfl (by decide) ?_
  exact jr_iret dX8_signs_19 rfl rfl (k0)

set_option maxRecDepth 4000 in
theorem q_Morow_0 {E : jEnv} {n : Nat} {X : State → Prop} {Post : Option Value → HP → Prop}  (h : HP)
    (k0 : ((h.1 52 21) = 2) → ((f_Moin ((h.1 52 22).toInt64) 0 (((h.1 52 27) - 1).toInt64)) = 0) → jCall E mX8_takes n [.ref 52, .int 0, .int ((h.1 52 27) - 1)] h (fun v h2 => jG E mX8_row (n + 1) X Post 59 [some (.ref 52), none, none] (v.toList ++ []) h2))
    (k1 : ((h.1 52 21) = 2) → (¬ (f_Moin ((h.1 52 22).toInt64) 0 (((h.1 52 27) - 1).toInt64)) = 0) → ((((h.1 52 36) >>> ((h.1 52 22) &&& 31)) &&& 1) = 1) → Post (some (.int (f_Mofaults 4))) (jPI h 52 23 4))
    (b0 : ((h.1 52 21) = 2) → (¬ (f_Moin ((h.1 52 22).toInt64) 0 (((h.1 52 27) - 1).toInt64)) = 0) → ((((h.1 52 36) >>> ((h.1 52 22) &&& 31)) &&& 1) = 1) → narrow .boolean (.int (f_Mofaults 4)) = .int (f_Mofaults 4))
    (k2 : ((h.1 52 21) = 2) → (¬ (f_Moin ((h.1 52 22).toInt64) 0 (((h.1 52 27) - 1).toInt64)) = 0) → (¬ (((h.1 52 36) >>> ((h.1 52 22) &&& 31)) &&& 1) = 1) → jCall E mX8_takes n [.ref 52, .int 0, .int ((h.1 52 27) - 1)] h (fun v h2 => jG E mX8_row (n + 1) X Post 59 [some (.ref 52), none, none] (v.toList ++ []) h2))
    (k3 : (¬ (h.1 52 21) = 2) → jCall E mX8_takes n [.ref 52, .int 0, .int ((h.1 52 27) - 1)] h (fun v h2 => jG E mX8_row (n + 1) X Post 59 [some (.ref 52), none, none] (v.toList ++ []) h2))
    : jG E mX8_row (n + 1) X Post 0 [some (.ref 52), none, none] [] h := by
  refine jr_aload_n (pc' := 1) (i := 0) dX8_row_0 rfl rfl rfl ?_
  refine jr_get (pc' := 4) jK8 (k := 52) (j := 21) (v := .int (h.1 52 21)) wfX8_123 dX8_row_1 rfl (by decide) rfl (by decide) rfl ?_
  refine jr_iconst (pc' := 5) (v := 2) dX8_row_4 rfl (by decide) ?_
  by_cases c1 : (h.1 52 21) = 2
  · refine jr_icmp_neF (pc' := 8) (tgt := 48) dX8_row_5 rfl rfl c1 ?_
    refine jr_aload_n (pc' := 9) (i := 0) dX8_row_8 rfl rfl rfl ?_
    refine jr_get (pc' := 12) jK8 (k := 52) (j := 22) (v := .int (h.1 52 22)) wfX8_136 dX8_row_9 rfl (by decide) rfl (by decide) rfl ?_
    refine jr_i2l (pc' := 13)  dX8_row_12 rfl  ?_
    refine jr_lconst (pc' := 14) (v := 0) dX8_row_13 rfl (by decide) ?_
    refine jr_aload_n (pc' := 15) (i := 0) dX8_row_14 rfl rfl rfl ?_
    refine jr_get (pc' := 18) jK8 (k := 52) (j := 27) (v := .int (h.1 52 27)) wfX8_160 dX8_row_15 rfl (by decide) rfl (by decide) rfl ?_
    refine jr_iconst (pc' := 19) (v := 1) dX8_row_18 rfl (by decide) ?_
    refine jr_isub (pc' := 20)  dX8_row_19 rfl  ?_
    refine jr_i2l (pc' := 21)  dX8_row_20 rfl  ?_
    refine jr_callS (pc' := 24) (av := [.long ((h.1 52 22).toInt64), .long 0, .long (((h.1 52 27) - 1).toInt64)]) (st := []) sX8_in wmX8_79 dX8_row_21 rfl rfl (Nat.le_of_ble_eq_true rfl) rfl (c_Moin (n := n) ((h.1 52 22).toInt64) 0 (((h.1 52 27) - 1).toInt64) h ) (fun v h2 hp => ?_)
    rw [hp.1, hp.2]
    show jG E mX8_row (n + 1) X Post 24 [some (.ref 52), none, none] [.int (f_Moin ((h.1 52 22).toInt64) 0 (((h.1 52 27) - 1).toInt64))] h
    by_cases c2 : (f_Moin ((h.1 52 22).toInt64) 0 (((h.1 52 27) - 1).toInt64)) = 0
    · refine jr_if_eqT (pc' := 48) dX8_row_24 rfl c2 ?_
      refine jr_aload_n (pc' := 49) (i := 0) dX8_row_48 rfl rfl rfl ?_
      refine jr_iconst (pc' := 50) (v := 0) dX8_row_49 rfl (by decide) ?_
      refine jr_aload_n (pc' := 51) (i := 0) dX8_row_50 rfl rfl rfl ?_
      refine jr_get (pc' := 54) jK8 (k := 52) (j := 27) (v := .int (h.1 52 27)) wfX8_160 dX8_row_51 rfl (by decide) rfl (by decide) rfl ?_
      refine jr_iconst (pc' := 55) (v := 1) dX8_row_54 rfl (by decide) ?_
      refine jr_isub (pc' := 56)  dX8_row_55 rfl  ?_
      obtain ⟨P1, hC1, hK1⟩ := k0 c1 c2
      exact jr_callV (pc' := 59) (k := 52) (av := [.int 0, .int ((h.1 52 27) - 1)]) (st := []) sX8_takes wmX8_152 dX8_row_56 rfl (by decide) rfl (by decide) rfl rfl rfl (Nat.le_of_ble_eq_true rfl) rfl hC1 (fun v h2 hp => jG.weak (lv' := [some (.ref 52), none, none]) ⟨rfl, trivial⟩ (hK1 v h2 hp))
    · refine jr_if_eqF (pc' := 27) (tgt := 48) dX8_row_24 rfl rfl c2 ?_
      refine jr_aload_n (pc' := 28) (i := 0) dX8_row_27 rfl rfl rfl ?_
      refine jr_get (pc' := 31) jK8 (k := 52) (j := 36) (v := .int (h.1 52 36)) wfX8_166 dX8_row_28 rfl (by decide) rfl (by decide) rfl ?_
      refine jr_aload_n (pc' := 32) (i := 0) dX8_row_31 rfl rfl rfl ?_
      refine jr_get (pc' := 35) jK8 (k := 52) (j := 22) (v := .int (h.1 52 22)) wfX8_136 dX8_row_32 rfl (by decide) rfl (by decide) rfl ?_
      refine jr_ishr (pc' := 36)  dX8_row_35 rfl  ?_
      refine jr_iconst (pc' := 37) (v := 1) dX8_row_36 rfl (by decide) ?_
      refine jr_iand (pc' := 38)  dX8_row_37 rfl  ?_
      refine jr_iconst (pc' := 39) (v := 1) dX8_row_38 rfl (by decide) ?_
      by_cases c3 : (((h.1 52 36) >>> ((h.1 52 22) &&& 31)) &&& 1) = 1
      · refine jr_icmp_neF (pc' := 42) (tgt := 48) dX8_row_39 rfl rfl c3 ?_
        refine jr_aload_n (pc' := 43) (i := 0) dX8_row_42 rfl rfl rfl ?_
        refine jr_iconst (pc' := 44) (v := 4) dX8_row_43 rfl (by decide) ?_
        refine jr_callV (pc' := 47) (k := 52) (av := [.int 4]) (st := []) sX8_faults wmX8_142 dX8_row_44 rfl (by decide) rfl (by decide) rfl rfl rfl (Nat.le_of_ble_eq_true rfl) rfl (c_Mofaults (n := n) 4 h ) (fun v h2 hp => ?_)
        rw [hp.1, hp.2]
        show jG E mX8_row (n + 1) X Post 47 [some (.ref 52), none, none] [.int (f_Mofaults 4)] (jPI h 52 23 4)
        exact jr_iret dX8_row_47 rfl (b0 c1 c2 c3) (k1 c1 c2 c3)
      · refine jr_icmp_neT (pc' := 48) dX8_row_39 rfl c3 ?_
        refine jr_aload_n (pc' := 49) (i := 0) dX8_row_48 rfl rfl rfl ?_
        refine jr_iconst (pc' := 50) (v := 0) dX8_row_49 rfl (by decide) ?_
        refine jr_aload_n (pc' := 51) (i := 0) dX8_row_50 rfl rfl rfl ?_
        refine jr_get (pc' := 54) jK8 (k := 52) (j := 27) (v := .int (h.1 52 27)) wfX8_160 dX8_row_51 rfl (by decide) rfl (by decide) rfl ?_
        refine jr_iconst (pc' := 55) (v := 1) dX8_row_54 rfl (by decide) ?_
        refine jr_isub (pc' := 56)  dX8_row_55 rfl  ?_
        obtain ⟨P1, hC1, hK1⟩ := k2 c1 c2 c3
        exact jr_callV (pc' := 59) (k := 52) (av := [.int 0, .int ((h.1 52 27) - 1)]) (st := []) sX8_takes wmX8_152 dX8_row_56 rfl (by decide) rfl (by decide) rfl rfl rfl (Nat.le_of_ble_eq_true rfl) rfl hC1 (fun v h2 hp => jG.weak (lv' := [some (.ref 52), none, none]) ⟨rfl, trivial⟩ (hK1 v h2 hp))
  · refine jr_icmp_neT (pc' := 48) dX8_row_5 rfl c1 ?_
    refine jr_aload_n (pc' := 49) (i := 0) dX8_row_48 rfl rfl rfl ?_
    refine jr_iconst (pc' := 50) (v := 0) dX8_row_49 rfl (by decide) ?_
    refine jr_aload_n (pc' := 51) (i := 0) dX8_row_50 rfl rfl rfl ?_
    refine jr_get (pc' := 54) jK8 (k := 52) (j := 27) (v := .int (h.1 52 27)) wfX8_160 dX8_row_51 rfl (by decide) rfl (by decide) rfl ?_
    refine jr_iconst (pc' := 55) (v := 1) dX8_row_54 rfl (by decide) ?_
    refine jr_isub (pc' := 56)  dX8_row_55 rfl  ?_
    obtain ⟨P1, hC1, hK1⟩ := k3 c1
    exact jr_callV (pc' := 59) (k := 52) (av := [.int 0, .int ((h.1 52 27) - 1)]) (st := []) sX8_takes wmX8_152 dX8_row_56 rfl (by decide) rfl (by decide) rfl rfl rfl (Nat.le_of_ble_eq_true rfl) rfl hC1 (fun v h2 hp => jG.weak (lv' := [some (.ref 52), none, none]) ⟨rfl, trivial⟩ (hK1 v h2 hp))

theorem q_Morow_59 {E : jEnv} {n : Nat} {X : State → Prop} {Post : Option Value → HP → Prop} (s0 : Int32) (h : HP)
    (k0 : (s0 = 0) → Post (some (.int 0)) h)
    (k1 : (¬ s0 = 0) → jG E mX8_row (n + 1) X Post 83 [some (.ref 52), some (.int (h.1 52 25)), some (.int 0)] [] (jPI h 52 36 ((h.1 52 36) ||| (1 <<< ((h.1 52 25) &&& 31)))))
    : jG E mX8_row (n + 1) X Post 59 [some (.ref 52), none, none] [.int s0] h := by
  by_cases c1 : s0 = 0
  · refine jr_if_neF (pc' := 62) (tgt := 64) dX8_row_59 rfl rfl c1 ?_
    refine jr_iconst (pc' := 63) (v := 0) dX8_row_62 rfl (by decide) ?_
    exact jr_iret dX8_row_63 rfl rfl (k0 c1)
  · refine jr_if_neT (pc' := 64) dX8_row_59 rfl c1 ?_
    refine jr_aload_n (pc' := 65) (i := 0) dX8_row_64 rfl rfl rfl ?_
    refine jr_get (pc' := 68) jK8 (k := 52) (j := 25) (v := .int (h.1 52 25)) wfX8_146 dX8_row_65 rfl (by decide) rfl (by decide) rfl ?_
    refine jr_istore_n (pc' := 69) (i := 1) (lv' := [some (.ref 52), some (.int (h.1 52 25)), none]) dX8_row_68 rfl rfl (by decide) rfl ?_
    refine jr_aload_n (pc' := 70) (i := 0) dX8_row_69 rfl rfl rfl ?_
    refine jr_dup (pc' := 71)  dX8_row_70 rfl rfl ?_
    refine jr_get (pc' := 74) jK8 (k := 52) (j := 36) (v := .int (h.1 52 36)) wfX8_166 dX8_row_71 rfl (by decide) rfl (by decide) rfl ?_
    refine jr_iconst (pc' := 75) (v := 1) dX8_row_74 rfl (by decide) ?_
    refine jr_iload_n (pc' := 76) (i := 1) dX8_row_75 rfl rfl rfl ?_
    refine jr_ishl (pc' := 77)  dX8_row_76 rfl  ?_
    refine jr_ior (pc' := 78)  dX8_row_77 rfl  ?_
    refine jr_putI (pc' := 81) jK8 (k := 52) (j := 36) wfX8_166 dX8_row_78 rfl (by decide) rfl (by decide) (by decide) rfl rfl rfl ?_
    refine jr_iconst (pc' := 82) (v := 0) dX8_row_81 rfl (by decide) ?_
    refine jr_istore_n (pc' := 83) (i := 2) (lv' := [some (.ref 52), some (.int (h.1 52 25)), some (.int 0)]) dX8_row_82 rfl rfl (by decide) rfl ?_
    exact jG.weak (lv' := [some (.ref 52), some (.int (h.1 52 25)), some (.int 0)]) ⟨rfl, rfl, rfl, trivial⟩ (k1 c1)

theorem q_Morow_83 {E : jEnv} {n : Nat} {X : State → Prop} {Post : Option Value → HP → Prop} (a1 : Int32) (a2 : Int32) (h : HP)
    (k0 : ((h.1 52 26) ≤ a2) → jCall E mX8_signs n [.ref 52, .int 3] h (fun v h2 => jG E mX8_row (n + 1) X Post 145 [none, none, none] (v.toList ++ []) h2))
    (k1 : (¬ (h.1 52 26) ≤ a2) → (a2 ≤ 0) → jCall E mX8_takes n [.ref 52, .int 0, .int 9] h (fun v h2 => jG E mX8_row (n + 1) X Post 112 [some (.ref 52), some (.int a1), some (.int a2)] (v.toList ++ []) h2))
    (k2 : (¬ (h.1 52 26) ≤ a2) → (¬ a2 ≤ 0) → jCall E mX8_signs n [.ref 52, .int 4] h (fun v h2 => jG E mX8_row (n + 1) X Post 100 [some (.ref 52), some (.int a1), some (.int a2)] (v.toList ++ []) h2))
    : jG E mX8_row (n + 1) X Post 83 [some (.ref 52), some (.int a1), some (.int a2)] [] h := by
  refine jr_iload_n (pc' := 84) (i := 2) dX8_row_83 rfl rfl rfl ?_
  refine jr_aload_n (pc' := 85) (i := 0) dX8_row_84 rfl rfl rfl ?_
  refine jr_get (pc' := 88) jK8 (k := 52) (j := 26) (v := .int (h.1 52 26)) wfX8_155 dX8_row_85 rfl (by decide) rfl (by decide) rfl ?_
  by_cases c1 : (h.1 52 26) ≤ a2
  · refine jr_icmp_geT (pc' := 140) dX8_row_88 rfl c1 ?_
    refine jr_aload_n (pc' := 141) (i := 0) dX8_row_140 rfl rfl rfl ?_
    refine jr_iconst (pc' := 142) (v := 3) dX8_row_141 rfl (by decide) ?_
    obtain ⟨P1, hC1, hK1⟩ := k0 c1
    exact jr_callV (pc' := 145) (k := 52) (av := [.int 3]) (st := []) sX8_signs wmX8_163 dX8_row_142 rfl (by decide) rfl (by decide) rfl rfl rfl (Nat.le_of_ble_eq_true rfl) rfl hC1 (fun v h2 hp => jG.weak (lv' := [none, none, none]) trivial (hK1 v h2 hp))
  · refine jr_icmp_geF (pc' := 91) (tgt := 140) dX8_row_88 rfl rfl c1 ?_
    refine jr_iload_n (pc' := 92) (i := 2) dX8_row_91 rfl rfl rfl ?_
    by_cases c2 : a2 ≤ 0
    · refine jr_if_leT (pc' := 105) dX8_row_92 rfl c2 ?_
      refine jr_aload_n (pc' := 106) (i := 0) dX8_row_105 rfl rfl rfl ?_
      refine jr_iconst (pc' := 107) (v := 0) dX8_row_106 rfl (by decide) ?_
      refine jr_bipush (pc' := 109) (v := 9) dX8_row_107 rfl (by decide) ?_
      obtain ⟨P1, hC1, hK1⟩ := k1 c1 c2
      exact jr_callV (pc' := 112) (k := 52) (av := [.int 0, .int 9]) (st := []) sX8_takes wmX8_152 dX8_row_109 rfl (by decide) rfl (by decide) rfl rfl rfl (Nat.le_of_ble_eq_true rfl) rfl hC1 (fun v h2 hp => jG.weak (lv' := [some (.ref 52), some (.int a1), some (.int a2)]) ⟨rfl, rfl, rfl, trivial⟩ (hK1 v h2 hp))
    · refine jr_if_leF (pc' := 95) (tgt := 105) dX8_row_92 rfl rfl c2 ?_
      refine jr_aload_n (pc' := 96) (i := 0) dX8_row_95 rfl rfl rfl ?_
      refine jr_iconst (pc' := 97) (v := 4) dX8_row_96 rfl (by decide) ?_
      obtain ⟨P1, hC1, hK1⟩ := k2 c1 c2
      exact jr_callV (pc' := 100) (k := 52) (av := [.int 4]) (st := []) sX8_signs wmX8_163 dX8_row_97 rfl (by decide) rfl (by decide) rfl rfl rfl (Nat.le_of_ble_eq_true rfl) rfl hC1 (fun v h2 hp => jG.weak (lv' := [some (.ref 52), some (.int a1), some (.int a2)]) ⟨rfl, rfl, rfl, trivial⟩ (hK1 v h2 hp))

theorem q_Morow_145 {E : jEnv} {n : Nat} {X : State → Prop} {Post : Option Value → HP → Prop} (s0 : Int32) (h : HP)
    (k0 : Post (some (.int s0)) h)
    (b0 : narrow .boolean (.int s0) = .int s0)
    : jG E mX8_row (n + 1) X Post 145 [none, none, none] [.int s0] h := by
  exact jr_iret dX8_row_145 rfl (b0) (k0)

theorem q_Morow_112 {E : jEnv} {n : Nat} {X : State → Prop} {Post : Option Value → HP → Prop} (a1 : Int32) (a2 : Int32) (s0 : Int32) (h : HP)
    (k0 : (s0 = 0) → Post (some (.int 0)) h)
    (b0 : (¬ s0 = 0) → vp_in (((h.1 52 26) * a1) + a2) 36)
    (k1 : (¬ s0 = 0) → jG E mX8_row (n + 1) X Post 83 [some (.ref 52), some (.int a1), some (.int (a2 + 1))] [] (jPI h 62 ((((h.1 52 26) * a1) + a2).toNatClampNeg) (h.1 52 25)))
    : jG E mX8_row (n + 1) X Post 112 [some (.ref 52), some (.int a1), some (.int a2)] [.int s0] h := by
  by_cases c1 : s0 = 0
  · refine jr_if_neF (pc' := 115) (tgt := 117) dX8_row_112 rfl rfl c1 ?_
    refine jr_iconst (pc' := 116) (v := 0) dX8_row_115 rfl (by decide) ?_
    exact jr_iret dX8_row_116 rfl rfl (k0 c1)
  · refine jr_if_neT (pc' := 117) dX8_row_112 rfl c1 ?_
    refine jr_aload_n (pc' := 118) (i := 0) dX8_row_117 rfl rfl rfl ?_
    refine jr_get (pc' := 121) jK8 (k := 52) (j := 28) (v := .ref 62) wfX8_38 dX8_row_118 rfl (by decide) rfl (by decide) rfl ?_
    refine jr_aload_n (pc' := 122) (i := 0) dX8_row_121 rfl rfl rfl ?_
    refine jr_get (pc' := 125) jK8 (k := 52) (j := 26) (v := .int (h.1 52 26)) wfX8_155 dX8_row_122 rfl (by decide) rfl (by decide) rfl ?_
    refine jr_iload_n (pc' := 126) (i := 1) dX8_row_125 rfl rfl rfl ?_
    refine jr_imul (pc' := 127)  dX8_row_126 rfl  ?_
    refine jr_iload_n (pc' := 128) (i := 2) dX8_row_127 rfl rfl rfl ?_
    refine jr_iadd (pc' := 129)  dX8_row_128 rfl  ?_
    refine jr_aload_n (pc' := 130) (i := 0) dX8_row_129 rfl rfl rfl ?_
    refine jr_get (pc' := 133) jK8 (k := 52) (j := 25) (v := .int (h.1 52 25)) wfX8_146 dX8_row_130 rfl (by decide) rfl (by decide) rfl ?_
    refine jr_iast (pc' := 134) (j := (((h.1 52 26) * a1) + a2).toNatClampNeg) dX8_row_133 rfl (by decide) rfl (b0 c1) rfl ?_
    refine jr_iinc (pc' := 137) (i := 2) (v := (a2 + 1)) (lv' := [some (.ref 52), some (.int a1), some (.int (a2 + 1))]) dX8_row_134 rfl rfl (congrArg (a2 + ·) (by decide)) (by decide) rfl ?_
    refine jr_goto (pc' := 83) dX8_row_137 rfl ?_
    exact jG.weak (lv' := [some (.ref 52), some (.int a1), some (.int (a2 + 1))]) ⟨rfl, rfl, rfl, trivial⟩ (k1 c1)

theorem q_Morow_100 {E : jEnv} {n : Nat} {X : State → Prop} {Post : Option Value → HP → Prop} (a1 : Int32) (a2 : Int32) (s0 : Int32) (h : HP)
    (k0 : (s0 = 0) → Post (some (.int 0)) h)
    (k1 : (¬ s0 = 0) → jCall E mX8_takes n [.ref 52, .int 0, .int 9] h (fun v h2 => jG E mX8_row (n + 1) X Post 112 [some (.ref 52), some (.int a1), some (.int a2)] (v.toList ++ []) h2))
    : jG E mX8_row (n + 1) X Post 100 [some (.ref 52), some (.int a1), some (.int a2)] [.int s0] h := by
  by_cases c1 : s0 = 0
  · refine jr_if_neF (pc' := 103) (tgt := 105) dX8_row_100 rfl rfl c1 ?_
    refine jr_iconst (pc' := 104) (v := 0) dX8_row_103 rfl (by decide) ?_
    exact jr_iret dX8_row_104 rfl rfl (k0 c1)
  · refine jr_if_neT (pc' := 105) dX8_row_100 rfl c1 ?_
    refine jr_aload_n (pc' := 106) (i := 0) dX8_row_105 rfl rfl rfl ?_
    refine jr_iconst (pc' := 107) (v := 0) dX8_row_106 rfl (by decide) ?_
    refine jr_bipush (pc' := 109) (v := 9) dX8_row_107 rfl (by decide) ?_
    obtain ⟨P1, hC1, hK1⟩ := k1 c1
    exact jr_callV (pc' := 112) (k := 52) (av := [.int 0, .int 9]) (st := []) sX8_takes wmX8_152 dX8_row_109 rfl (by decide) rfl (by decide) rfl rfl rfl (Nat.le_of_ble_eq_true rfl) rfl hC1 (fun v h2 hp => jG.weak (lv' := [some (.ref 52), some (.int a1), some (.int a2)]) ⟨rfl, rfl, rfl, trivial⟩ (hK1 v h2 hp))

theorem q_Motides_0 {E : jEnv} {n : Nat} {X : State → Prop} {Post : Option Value → HP → Prop}  (h : HP)
    (k0 : ((h.1 52 30) ≤ 0) → jCall E mX8_scans n [.ref 52] h (fun v h2 => jG E mX8_tides (n + 1) X Post 17 [some (.ref 52)] (v.toList ++ []) h2))
    (k1 : (¬ (h.1 52 30) ≤ 0) → Post (some (.int (f_Mofaults 3))) (jPI h 52 23 3))
    (b0 : (¬ (h.1 52 30) ≤ 0) → narrow .boolean (.int (f_Mofaults 3)) = .int (f_Mofaults 3))
    : jG E mX8_tides (n + 1) X Post 0 [some (.ref 52)] [] h := by
  refine jr_aload_n (pc' := 1) (i := 0) dX8_tides_0 rfl rfl rfl ?_
  refine jr_get (pc' := 4) jK8 (k := 52) (j := 30) (v := .int (h.1 52 30)) wfX8_169 dX8_tides_1 rfl (by decide) rfl (by decide) rfl ?_
  by_cases c1 : (h.1 52 30) ≤ 0
  · refine jr_if_leT (pc' := 13) dX8_tides_4 rfl c1 ?_
    refine jr_aload_n (pc' := 14) (i := 0) dX8_tides_13 rfl rfl rfl ?_
    obtain ⟨P1, hC1, hK1⟩ := k0 c1
    exact jr_callV (pc' := 17) (k := 52) (av := []) (st := []) sX8_scans wmX8_149 dX8_tides_14 rfl (by decide) rfl (by decide) rfl rfl rfl (Nat.le_of_ble_eq_true rfl) rfl hC1 (fun v h2 hp => jG.weak (lv' := [some (.ref 52)]) ⟨rfl, trivial⟩ (hK1 v h2 hp))
  · refine jr_if_leF (pc' := 7) (tgt := 13) dX8_tides_4 rfl rfl c1 ?_
    refine jr_aload_n (pc' := 8) (i := 0) dX8_tides_7 rfl rfl rfl ?_
    refine jr_iconst (pc' := 9) (v := 3) dX8_tides_8 rfl (by decide) ?_
    refine jr_callV (pc' := 12) (k := 52) (av := [.int 3]) (st := []) sX8_faults wmX8_142 dX8_tides_9 rfl (by decide) rfl (by decide) rfl rfl rfl (Nat.le_of_ble_eq_true rfl) rfl (c_Mofaults (n := n) 3 h ) (fun v h2 hp => ?_)
    rw [hp.1, hp.2]
    show jG E mX8_tides (n + 1) X Post 12 [some (.ref 52)] [.int (f_Mofaults 3)] (jPI h 52 23 3)
    exact jr_iret dX8_tides_12 rfl (b0 c1) (k1 c1)

theorem q_Motides_17 {E : jEnv} {n : Nat} {X : State → Prop} {Post : Option Value → HP → Prop}  (h : HP)
    (k0 : jCall E mX8_takes n [.ref 52, .int 0, .int 9] h (fun v h2 => jG E mX8_tides (n + 1) X Post 24 [some (.ref 52)] (v.toList ++ []) h2))
    : jG E mX8_tides (n + 1) X Post 17 [some (.ref 52)] [] h := by
  refine jr_aload_n (pc' := 18) (i := 0) dX8_tides_17 rfl rfl rfl ?_
  refine jr_iconst (pc' := 19) (v := 0) dX8_tides_18 rfl (by decide) ?_
  refine jr_bipush (pc' := 21) (v := 9) dX8_tides_19 rfl (by decide) ?_
  obtain ⟨P1, hC1, hK1⟩ := k0
  exact jr_callV (pc' := 24) (k := 52) (av := [.int 0, .int 9]) (st := []) sX8_takes wmX8_152 dX8_tides_21 rfl (by decide) rfl (by decide) rfl rfl rfl (Nat.le_of_ble_eq_true rfl) rfl hC1 (fun v h2 hp => jG.weak (lv' := [some (.ref 52)]) ⟨rfl, trivial⟩ (hK1 v h2 hp))

theorem q_Motides_24 {E : jEnv} {n : Nat} {X : State → Prop} {Post : Option Value → HP → Prop} (s0 : Int32) (h : HP)
    (k0 : (s0 = 0) → Post (some (.int 0)) h)
    (k1 : (¬ s0 = 0) → jG E mX8_tides (n + 1) X Post 44 [some (.ref 52)] [] (jPI (jPI h 63 0 (h.1 52 25)) 52 30 1))
    : jG E mX8_tides (n + 1) X Post 24 [some (.ref 52)] [.int s0] h := by
  by_cases c1 : s0 = 0
  · refine jr_if_neF (pc' := 27) (tgt := 29) dX8_tides_24 rfl rfl c1 ?_
    refine jr_iconst (pc' := 28) (v := 0) dX8_tides_27 rfl (by decide) ?_
    exact jr_iret dX8_tides_28 rfl rfl (k0 c1)
  · refine jr_if_neT (pc' := 29) dX8_tides_24 rfl c1 ?_
    refine jr_aload_n (pc' := 30) (i := 0) dX8_tides_29 rfl rfl rfl ?_
    refine jr_get (pc' := 33) jK8 (k := 52) (j := 29) (v := .ref 63) wfX8_41 dX8_tides_30 rfl (by decide) rfl (by decide) rfl ?_
    refine jr_iconst (pc' := 34) (v := 0) dX8_tides_33 rfl (by decide) ?_
    refine jr_aload_n (pc' := 35) (i := 0) dX8_tides_34 rfl rfl rfl ?_
    refine jr_get (pc' := 38) jK8 (k := 52) (j := 25) (v := .int (h.1 52 25)) wfX8_146 dX8_tides_35 rfl (by decide) rfl (by decide) rfl ?_
    refine jr_iast (pc' := 39) (j := 0) dX8_tides_38 rfl (by decide) rfl (jvin (by decide)) (by decide) ?_
    refine jr_aload_n (pc' := 40) (i := 0) dX8_tides_39 rfl rfl rfl ?_
    refine jr_iconst (pc' := 41) (v := 1) dX8_tides_40 rfl (by decide) ?_
    refine jr_putI (pc' := 44) jK8 (k := 52) (j := 30) wfX8_169 dX8_tides_41 rfl (by decide) rfl (by decide) (by decide) rfl rfl rfl ?_
    exact jG.weak (lv' := [some (.ref 52)]) ⟨rfl, trivial⟩ (k1 c1)

theorem q_Motides_44 {E : jEnv} {n : Nat} {X : State → Prop} {Post : Option Value → HP → Prop}  (h : HP)
    (k0 : ((h.1 52 21) = 4) → ((6 : Int32) ≤ (h.1 52 30)) → jCall E mX8_signs n [.ref 52, .int 3] h (fun v h2 => jG E mX8_tides (n + 1) X Post 108 [none] (v.toList ++ []) h2))
    (k1 : ((h.1 52 21) = 4) → (¬ (6 : Int32) ≤ (h.1 52 30)) → jCall E mX8_scans n [.ref 52] h (fun v h2 => jG E mX8_tides (n + 1) X Post 65 [some (.ref 52)] (v.toList ++ []) h2))
    (k2 : (¬ (h.1 52 21) = 4) → jCall E mX8_signs n [.ref 52, .int 3] h (fun v h2 => jG E mX8_tides (n + 1) X Post 108 [none] (v.toList ++ []) h2))
    : jG E mX8_tides (n + 1) X Post 44 [some (.ref 52)] [] h := by
  refine jr_aload_n (pc' := 45) (i := 0) dX8_tides_44 rfl rfl rfl ?_
  refine jr_get (pc' := 48) jK8 (k := 52) (j := 21) (v := .int (h.1 52 21)) wfX8_123 dX8_tides_45 rfl (by decide) rfl (by decide) rfl ?_
  refine jr_iconst (pc' := 49) (v := 4) dX8_tides_48 rfl (by decide) ?_
  by_cases c1 : (h.1 52 21) = 4
  · refine jr_icmp_neF (pc' := 52) (tgt := 103) dX8_tides_49 rfl rfl c1 ?_
    refine jr_aload_n (pc' := 53) (i := 0) dX8_tides_52 rfl rfl rfl ?_
    refine jr_get (pc' := 56) jK8 (k := 52) (j := 30) (v := .int (h.1 52 30)) wfX8_169 dX8_tides_53 rfl (by decide) rfl (by decide) rfl ?_
    refine jr_bipush (pc' := 58) (v := 6) dX8_tides_56 rfl (by decide) ?_
    by_cases c2 : (6 : Int32) ≤ (h.1 52 30)
    · refine jr_icmp_geT (pc' := 103) dX8_tides_58 rfl c2 ?_
      refine jr_aload_n (pc' := 104) (i := 0) dX8_tides_103 rfl rfl rfl ?_
      refine jr_iconst (pc' := 105) (v := 3) dX8_tides_104 rfl (by decide) ?_
      obtain ⟨P1, hC1, hK1⟩ := k0 c1 c2
      exact jr_callV (pc' := 108) (k := 52) (av := [.int 3]) (st := []) sX8_signs wmX8_163 dX8_tides_105 rfl (by decide) rfl (by decide) rfl rfl rfl (Nat.le_of_ble_eq_true rfl) rfl hC1 (fun v h2 hp => jG.weak (lv' := [none]) trivial (hK1 v h2 hp))
    · refine jr_icmp_geF (pc' := 61) (tgt := 103) dX8_tides_58 rfl rfl c2 ?_
      refine jr_aload_n (pc' := 62) (i := 0) dX8_tides_61 rfl rfl rfl ?_
      obtain ⟨P1, hC1, hK1⟩ := k1 c1 c2
      exact jr_callV (pc' := 65) (k := 52) (av := []) (st := []) sX8_scans wmX8_149 dX8_tides_62 rfl (by decide) rfl (by decide) rfl rfl rfl (Nat.le_of_ble_eq_true rfl) rfl hC1 (fun v h2 hp => jG.weak (lv' := [some (.ref 52)]) ⟨rfl, trivial⟩ (hK1 v h2 hp))
  · refine jr_icmp_neT (pc' := 103) dX8_tides_49 rfl c1 ?_
    refine jr_aload_n (pc' := 104) (i := 0) dX8_tides_103 rfl rfl rfl ?_
    refine jr_iconst (pc' := 105) (v := 3) dX8_tides_104 rfl (by decide) ?_
    obtain ⟨P1, hC1, hK1⟩ := k2 c1
    exact jr_callV (pc' := 108) (k := 52) (av := [.int 3]) (st := []) sX8_signs wmX8_163 dX8_tides_105 rfl (by decide) rfl (by decide) rfl rfl rfl (Nat.le_of_ble_eq_true rfl) rfl hC1 (fun v h2 hp => jG.weak (lv' := [none]) trivial (hK1 v h2 hp))

theorem q_Motides_108 {E : jEnv} {n : Nat} {X : State → Prop} {Post : Option Value → HP → Prop} (s0 : Int32) (h : HP)
    (k0 : Post (some (.int s0)) h)
    (b0 : narrow .boolean (.int s0) = .int s0)
    : jG E mX8_tides (n + 1) X Post 108 [none] [.int s0] h := by
  exact jr_iret dX8_tides_108 rfl (b0) (k0)

theorem q_Motides_65 {E : jEnv} {n : Nat} {X : State → Prop} {Post : Option Value → HP → Prop}  (h : HP)
    (k0 : jCall E mX8_takes n [.ref 52, .int 0, .int 9] h (fun v h2 => jG E mX8_tides (n + 1) X Post 72 [some (.ref 52)] (v.toList ++ []) h2))
    : jG E mX8_tides (n + 1) X Post 65 [some (.ref 52)] [] h := by
  refine jr_aload_n (pc' := 66) (i := 0) dX8_tides_65 rfl rfl rfl ?_
  refine jr_iconst (pc' := 67) (v := 0) dX8_tides_66 rfl (by decide) ?_
  refine jr_bipush (pc' := 69) (v := 9) dX8_tides_67 rfl (by decide) ?_
  obtain ⟨P1, hC1, hK1⟩ := k0
  exact jr_callV (pc' := 72) (k := 52) (av := [.int 0, .int 9]) (st := []) sX8_takes wmX8_152 dX8_tides_69 rfl (by decide) rfl (by decide) rfl rfl rfl (Nat.le_of_ble_eq_true rfl) rfl hC1 (fun v h2 hp => jG.weak (lv' := [some (.ref 52)]) ⟨rfl, trivial⟩ (hK1 v h2 hp))

theorem q_Motides_72 {E : jEnv} {n : Nat} {X : State → Prop} {Post : Option Value → HP → Prop} (s0 : Int32) (h : HP)
    (k0 : (s0 = 0) → Post (some (.int 0)) h)
    (b0 : (¬ s0 = 0) → vp_in (h.1 52 30) 6)
    (k1 : (¬ s0 = 0) → jG E mX8_tides (n + 1) X Post 44 [some (.ref 52)] [] (jPI (jPI h 63 ((h.1 52 30).toNatClampNeg) (h.1 52 25)) 52 30 ((h.1 52 30) + 1)))
    : jG E mX8_tides (n + 1) X Post 72 [some (.ref 52)] [.int s0] h := by
  by_cases c1 : s0 = 0
  · refine jr_if_neF (pc' := 75) (tgt := 77) dX8_tides_72 rfl rfl c1 ?_
    refine jr_iconst (pc' := 76) (v := 0) dX8_tides_75 rfl (by decide) ?_
    exact jr_iret dX8_tides_76 rfl rfl (k0 c1)
  · refine jr_if_neT (pc' := 77) dX8_tides_72 rfl c1 ?_
    refine jr_aload_n (pc' := 78) (i := 0) dX8_tides_77 rfl rfl rfl ?_
    refine jr_get (pc' := 81) jK8 (k := 52) (j := 29) (v := .ref 63) wfX8_41 dX8_tides_78 rfl (by decide) rfl (by decide) rfl ?_
    refine jr_aload_n (pc' := 82) (i := 0) dX8_tides_81 rfl rfl rfl ?_
    refine jr_get (pc' := 85) jK8 (k := 52) (j := 30) (v := .int (h.1 52 30)) wfX8_169 dX8_tides_82 rfl (by decide) rfl (by decide) rfl ?_
    refine jr_aload_n (pc' := 86) (i := 0) dX8_tides_85 rfl rfl rfl ?_
    refine jr_get (pc' := 89) jK8 (k := 52) (j := 25) (v := .int (h.1 52 25)) wfX8_146 dX8_tides_86 rfl (by decide) rfl (by decide) rfl ?_
    refine jr_iast (pc' := 90) (j := (h.1 52 30).toNatClampNeg) dX8_tides_89 rfl (by decide) rfl (b0 c1) rfl ?_
    refine jr_aload_n (pc' := 91) (i := 0) dX8_tides_90 rfl rfl rfl ?_
    refine jr_dup (pc' := 92)  dX8_tides_91 rfl rfl ?_
    refine jr_get (pc' := 95) jK8 (k := 52) (j := 30) (v := .int (h.1 52 30)) wfX8_169 dX8_tides_92 rfl (by decide) rfl (by decide) rfl ?_
    refine jr_iconst (pc' := 96) (v := 1) dX8_tides_95 rfl (by decide) ?_
    refine jr_iadd (pc' := 97)  dX8_tides_96 rfl  ?_
    refine jr_putI (pc' := 100) jK8 (k := 52) (j := 30) wfX8_169 dX8_tides_97 rfl (by decide) rfl (by decide) (by decide) rfl rfl rfl ?_
    refine jr_goto (pc' := 44) dX8_tides_100 rfl ?_
    exact jG.weak (lv' := [some (.ref 52)]) ⟨rfl, trivial⟩ (k1 c1)

theorem q_Mosomebody_0 {E : jEnv} {n : Nat} {X : State → Prop} {Post : Option Value → HP → Prop}  (h : HP)
    (k0 : ((h.1 52 31) = 4) → Post (some (.int (f_Mofaults 3))) (jPI h 52 23 3))
    (b0 : ((h.1 52 31) = 4) → narrow .boolean (.int (f_Mofaults 3)) = .int (f_Mofaults 3))
    (k1 : (¬ (h.1 52 31) = 4) → jCall E mX8_scans n [.ref 52] h (fun v h2 => jG E mX8_somebody (n + 1) X Post 18 [some (.ref 52)] (v.toList ++ []) h2))
    : jG E mX8_somebody (n + 1) X Post 0 [some (.ref 52)] [] h := by
  refine jr_aload_n (pc' := 1) (i := 0) dX8_somebody_0 rfl rfl rfl ?_
  refine jr_get (pc' := 4) jK8 (k := 52) (j := 31) (v := .int (h.1 52 31)) wfX8_172 dX8_somebody_1 rfl (by decide) rfl (by decide) rfl ?_
  refine jr_iconst (pc' := 5) (v := 4) dX8_somebody_4 rfl (by decide) ?_
  by_cases c1 : (h.1 52 31) = 4
  · refine jr_icmp_neF (pc' := 8) (tgt := 14) dX8_somebody_5 rfl rfl c1 ?_
    refine jr_aload_n (pc' := 9) (i := 0) dX8_somebody_8 rfl rfl rfl ?_
    refine jr_iconst (pc' := 10) (v := 3) dX8_somebody_9 rfl (by decide) ?_
    refine jr_callV (pc' := 13) (k := 52) (av := [.int 3]) (st := []) sX8_faults wmX8_142 dX8_somebody_10 rfl (by decide) rfl (by decide) rfl rfl rfl (Nat.le_of_ble_eq_true rfl) rfl (c_Mofaults (n := n) 3 h ) (fun v h2 hp => ?_)
    rw [hp.1, hp.2]
    show jG E mX8_somebody (n + 1) X Post 13 [some (.ref 52)] [.int (f_Mofaults 3)] (jPI h 52 23 3)
    exact jr_iret dX8_somebody_13 rfl (b0 c1) (k0 c1)
  · refine jr_icmp_neT (pc' := 14) dX8_somebody_5 rfl c1 ?_
    refine jr_aload_n (pc' := 15) (i := 0) dX8_somebody_14 rfl rfl rfl ?_
    obtain ⟨P1, hC1, hK1⟩ := k1 c1
    exact jr_callV (pc' := 18) (k := 52) (av := []) (st := []) sX8_scans wmX8_149 dX8_somebody_15 rfl (by decide) rfl (by decide) rfl rfl rfl (Nat.le_of_ble_eq_true rfl) rfl hC1 (fun v h2 hp => jG.weak (lv' := [some (.ref 52)]) ⟨rfl, trivial⟩ (hK1 v h2 hp))

theorem q_Mosomebody_18 {E : jEnv} {n : Nat} {X : State → Prop} {Post : Option Value → HP → Prop}  (h : HP)
    (k0 : jCall E mX8_spot n [.ref 52] h (fun v h2 => jG E mX8_somebody (n + 1) X Post 22 [some (.ref 52)] (v.toList ++ []) h2))
    : jG E mX8_somebody (n + 1) X Post 18 [some (.ref 52)] [] h := by
  refine jr_aload_n (pc' := 19) (i := 0) dX8_somebody_18 rfl rfl rfl ?_
  obtain ⟨P1, hC1, hK1⟩ := k0
  exact jr_callV (pc' := 22) (k := 52) (av := []) (st := []) sX8_spot wmX8_175 dX8_somebody_19 rfl (by decide) rfl (by decide) rfl rfl rfl (Nat.le_of_ble_eq_true rfl) rfl hC1 (fun v h2 hp => jG.weak (lv' := [some (.ref 52)]) ⟨rfl, trivial⟩ (hK1 v h2 hp))

theorem q_Mosomebody_22 {E : jEnv} {n : Nat} {X : State → Prop} {Post : Option Value → HP → Prop} (s0 : Int32) (h : HP)
    (k0 : (s0 = 0) → Post (some (.int 0)) h)
    (b0 : (¬ s0 = 0) → ¬ (h.1 52 26) = 0)
    (b1 : (¬ s0 = 0) → vp_in (3 * (h.1 52 31)) 12)
    (b2 : (¬ s0 = 0) → ¬ (h.1 52 26) = 0)
    (b3 : (¬ s0 = 0) → vp_in ((3 * (h.1 52 31)) + 1) 12)
    (k1 : (¬ s0 = 0) → jCall E mX8_takes n [.ref 52, .int 0, .int 6] (jPI (jPI h 64 ((3 * (h.1 52 31)).toNatClampNeg) ((h.1 52 25) - (h.1 52 25) / (h.1 52 26) * (h.1 52 26))) 64 (((3 * (h.1 52 31)) + 1).toNatClampNeg) ((h.1 52 25) / (h.1 52 26))) (fun v h2 => jG E mX8_somebody (n + 1) X Post 76 [some (.ref 52)] (v.toList ++ []) h2))
    : jG E mX8_somebody (n + 1) X Post 22 [some (.ref 52)] [.int s0] h := by
  by_cases c1 : s0 = 0
  · refine jr_if_neF (pc' := 25) (tgt := 27) dX8_somebody_22 rfl rfl c1 ?_
    refine jr_iconst (pc' := 26) (v := 0) dX8_somebody_25 rfl (by decide) ?_
    exact jr_iret dX8_somebody_26 rfl rfl (k0 c1)
  · refine jr_if_neT (pc' := 27) dX8_somebody_22 rfl c1 ?_
    refine jr_aload_n (pc' := 28) (i := 0) dX8_somebody_27 rfl rfl rfl ?_
    refine jr_get (pc' := 31) jK8 (k := 52) (j := 32) (v := .ref 64) wfX8_44 dX8_somebody_28 rfl (by decide) rfl (by decide) rfl ?_
    refine jr_iconst (pc' := 32) (v := 3) dX8_somebody_31 rfl (by decide) ?_
    refine jr_aload_n (pc' := 33) (i := 0) dX8_somebody_32 rfl rfl rfl ?_
    refine jr_get (pc' := 36) jK8 (k := 52) (j := 31) (v := .int (h.1 52 31)) wfX8_172 dX8_somebody_33 rfl (by decide) rfl (by decide) rfl ?_
    refine jr_imul (pc' := 37)  dX8_somebody_36 rfl  ?_
    refine jr_aload_n (pc' := 38) (i := 0) dX8_somebody_37 rfl rfl rfl ?_
    refine jr_get (pc' := 41) jK8 (k := 52) (j := 25) (v := .int (h.1 52 25)) wfX8_146 dX8_somebody_38 rfl (by decide) rfl (by decide) rfl ?_
    refine jr_aload_n (pc' := 42) (i := 0) dX8_somebody_41 rfl rfl rfl ?_
    refine jr_get (pc' := 45) jK8 (k := 52) (j := 26) (v := .int (h.1 52 26)) wfX8_155 dX8_somebody_42 rfl (by decide) rfl (by decide) rfl ?_
    refine jr_irem (pc' := 46)  dX8_somebody_45 rfl (b0 c1) ?_
    refine jr_iast (pc' := 47) (j := (3 * (h.1 52 31)).toNatClampNeg) dX8_somebody_46 rfl (by decide) rfl (b1 c1) rfl ?_
    refine jr_aload_n (pc' := 48) (i := 0) dX8_somebody_47 rfl rfl rfl ?_
    refine jr_get (pc' := 51) jK8 (k := 52) (j := 32) (v := .ref 64) wfX8_44 dX8_somebody_48 rfl (by decide) rfl (by decide) rfl ?_
    refine jr_iconst (pc' := 52) (v := 3) dX8_somebody_51 rfl (by decide) ?_
    refine jr_aload_n (pc' := 53) (i := 0) dX8_somebody_52 rfl rfl rfl ?_
    refine jr_get (pc' := 56) jK8 (k := 52) (j := 31) (v := .int (h.1 52 31)) wfX8_172 dX8_somebody_53 rfl (by decide) rfl (by decide) rfl ?_
    refine jr_imul (pc' := 57)  dX8_somebody_56 rfl  ?_
    refine jr_iconst (pc' := 58) (v := 1) dX8_somebody_57 rfl (by decide) ?_
    refine jr_iadd (pc' := 59)  dX8_somebody_58 rfl  ?_
    refine jr_aload_n (pc' := 60) (i := 0) dX8_somebody_59 rfl rfl rfl ?_
    refine jr_get (pc' := 63) jK8 (k := 52) (j := 25) (v := .int (h.1 52 25)) wfX8_146 dX8_somebody_60 rfl (by decide) rfl (by decide) rfl ?_
    refine jr_aload_n (pc' := 64) (i := 0) dX8_somebody_63 rfl rfl rfl ?_
    refine jr_get (pc' := 67) jK8 (k := 52) (j := 26) (v := .int (h.1 52 26)) wfX8_155 dX8_somebody_64 rfl (by decide) rfl (by decide) rfl ?_
    refine jr_idiv (pc' := 68)  dX8_somebody_67 rfl (b2 c1) ?_
    refine jr_iast (pc' := 69) (j := ((3 * (h.1 52 31)) + 1).toNatClampNeg) dX8_somebody_68 rfl (by decide) rfl (b3 c1) rfl ?_
    refine jr_aload_n (pc' := 70) (i := 0) dX8_somebody_69 rfl rfl rfl ?_
    refine jr_iconst (pc' := 71) (v := 0) dX8_somebody_70 rfl (by decide) ?_
    refine jr_bipush (pc' := 73) (v := 6) dX8_somebody_71 rfl (by decide) ?_
    obtain ⟨P1, hC1, hK1⟩ := k1 c1
    exact jr_callV (pc' := 76) (k := 52) (av := [.int 0, .int 6]) (st := []) sX8_takes wmX8_152 dX8_somebody_73 rfl (by decide) rfl (by decide) rfl rfl rfl (Nat.le_of_ble_eq_true rfl) rfl hC1 (fun v h2 hp => jG.weak (lv' := [some (.ref 52)]) ⟨rfl, trivial⟩ (hK1 v h2 hp))

theorem q_Mosomebody_76 {E : jEnv} {n : Nat} {X : State → Prop} {Post : Option Value → HP → Prop} (s0 : Int32) (h : HP)
    (k0 : (s0 = 0) → Post (some (.int 0)) h)
    (b0 : (¬ s0 = 0) → vp_in ((3 * (h.1 52 31)) + 2) 12)
    (k1 : (¬ s0 = 0) → jCall E mX8_signs n [.ref 52, .int 3] (jPI (jPI h 64 (((3 * (h.1 52 31)) + 2).toNatClampNeg) (h.1 52 25)) 52 31 ((h.1 52 31) + 1)) (fun v h2 => jG E mX8_somebody (n + 1) X Post 113 [none] (v.toList ++ []) h2))
    : jG E mX8_somebody (n + 1) X Post 76 [some (.ref 52)] [.int s0] h := by
  by_cases c1 : s0 = 0
  · refine jr_if_neF (pc' := 79) (tgt := 81) dX8_somebody_76 rfl rfl c1 ?_
    refine jr_iconst (pc' := 80) (v := 0) dX8_somebody_79 rfl (by decide) ?_
    exact jr_iret dX8_somebody_80 rfl rfl (k0 c1)
  · refine jr_if_neT (pc' := 81) dX8_somebody_76 rfl c1 ?_
    refine jr_aload_n (pc' := 82) (i := 0) dX8_somebody_81 rfl rfl rfl ?_
    refine jr_get (pc' := 85) jK8 (k := 52) (j := 32) (v := .ref 64) wfX8_44 dX8_somebody_82 rfl (by decide) rfl (by decide) rfl ?_
    refine jr_iconst (pc' := 86) (v := 3) dX8_somebody_85 rfl (by decide) ?_
    refine jr_aload_n (pc' := 87) (i := 0) dX8_somebody_86 rfl rfl rfl ?_
    refine jr_get (pc' := 90) jK8 (k := 52) (j := 31) (v := .int (h.1 52 31)) wfX8_172 dX8_somebody_87 rfl (by decide) rfl (by decide) rfl ?_
    refine jr_imul (pc' := 91)  dX8_somebody_90 rfl  ?_
    refine jr_iconst (pc' := 92) (v := 2) dX8_somebody_91 rfl (by decide) ?_
    refine jr_iadd (pc' := 93)  dX8_somebody_92 rfl  ?_
    refine jr_aload_n (pc' := 94) (i := 0) dX8_somebody_93 rfl rfl rfl ?_
    refine jr_get (pc' := 97) jK8 (k := 52) (j := 25) (v := .int (h.1 52 25)) wfX8_146 dX8_somebody_94 rfl (by decide) rfl (by decide) rfl ?_
    refine jr_iast (pc' := 98) (j := ((3 * (h.1 52 31)) + 2).toNatClampNeg) dX8_somebody_97 rfl (by decide) rfl (b0 c1) rfl ?_
    refine jr_aload_n (pc' := 99) (i := 0) dX8_somebody_98 rfl rfl rfl ?_
    refine jr_dup (pc' := 100)  dX8_somebody_99 rfl rfl ?_
    refine jr_get (pc' := 103) jK8 (k := 52) (j := 31) (v := .int (h.1 52 31)) wfX8_172 dX8_somebody_100 rfl (by decide) rfl (by decide) rfl ?_
    refine jr_iconst (pc' := 104) (v := 1) dX8_somebody_103 rfl (by decide) ?_
    refine jr_iadd (pc' := 105)  dX8_somebody_104 rfl  ?_
    refine jr_putI (pc' := 108) jK8 (k := 52) (j := 31) wfX8_172 dX8_somebody_105 rfl (by decide) rfl (by decide) (by decide) rfl rfl rfl ?_
    refine jr_aload_n (pc' := 109) (i := 0) dX8_somebody_108 rfl rfl rfl ?_
    refine jr_iconst (pc' := 110) (v := 3) dX8_somebody_109 rfl (by decide) ?_
    obtain ⟨P1, hC1, hK1⟩ := k1 c1
    exact jr_callV (pc' := 113) (k := 52) (av := [.int 3]) (st := []) sX8_signs wmX8_163 dX8_somebody_110 rfl (by decide) rfl (by decide) rfl rfl rfl (Nat.le_of_ble_eq_true rfl) rfl hC1 (fun v h2 hp => jG.weak (lv' := [none]) trivial (hK1 v h2 hp))

theorem q_Mosomebody_113 {E : jEnv} {n : Nat} {X : State → Prop} {Post : Option Value → HP → Prop} (s0 : Int32) (h : HP)
    (k0 : Post (some (.int s0)) h)
    (b0 : narrow .boolean (.int s0) = .int s0)
    : jG E mX8_somebody (n + 1) X Post 113 [none] [.int s0] h := by
  exact jr_iret dX8_somebody_113 rfl (b0) (k0)

theorem q_Mospot_0 {E : jEnv} {n : Nat} {X : State → Prop} {Post : Option Value → HP → Prop}  (h : HP)
    (k0 : jCall E mX8_takes n [.ref 52, .int 0, .int ((h.1 52 26) - 1)] h (fun v h2 => jG E mX8_spot (n + 1) X Post 11 [some (.ref 52), none] (v.toList ++ []) h2))
    : jG E mX8_spot (n + 1) X Post 0 [some (.ref 52), none] [] h := by
  refine jr_aload_n (pc' := 1) (i := 0) dX8_spot_0 rfl rfl rfl ?_
  refine jr_iconst (pc' := 2) (v := 0) dX8_spot_1 rfl (by decide) ?_
  refine jr_aload_n (pc' := 3) (i := 0) dX8_spot_2 rfl rfl rfl ?_
  refine jr_get (pc' := 6) jK8 (k := 52) (j := 26) (v := .int (h.1 52 26)) wfX8_155 dX8_spot_3 rfl (by decide) rfl (by decide) rfl ?_
  refine jr_iconst (pc' := 7) (v := 1) dX8_spot_6 rfl (by decide) ?_
  refine jr_isub (pc' := 8)  dX8_spot_7 rfl  ?_
  obtain ⟨P1, hC1, hK1⟩ := k0
  exact jr_callV (pc' := 11) (k := 52) (av := [.int 0, .int ((h.1 52 26) - 1)]) (st := []) sX8_takes wmX8_152 dX8_spot_8 rfl (by decide) rfl (by decide) rfl rfl rfl (Nat.le_of_ble_eq_true rfl) rfl hC1 (fun v h2 hp => jG.weak (lv' := [some (.ref 52), none]) ⟨rfl, trivial⟩ (hK1 v h2 hp))

theorem q_Mospot_11 {E : jEnv} {n : Nat} {X : State → Prop} {Post : Option Value → HP → Prop} (s0 : Int32) (h : HP)
    (k0 : (s0 = 0) → Post (some (.int 0)) h)
    (k1 : (¬ s0 = 0) → jCall E mX8_takes n [.ref 52, .int 0, .int ((h.1 52 27) - 1)] h (fun v h2 => jG E mX8_spot (n + 1) X Post 32 [some (.ref 52), some (.int (h.1 52 25))] (v.toList ++ []) h2))
    : jG E mX8_spot (n + 1) X Post 11 [some (.ref 52), none] [.int s0] h := by
  by_cases c1 : s0 = 0
  · refine jr_if_neF (pc' := 14) (tgt := 16) dX8_spot_11 rfl rfl c1 ?_
    refine jr_iconst (pc' := 15) (v := 0) dX8_spot_14 rfl (by decide) ?_
    exact jr_iret dX8_spot_15 rfl rfl (k0 c1)
  · refine jr_if_neT (pc' := 16) dX8_spot_11 rfl c1 ?_
    refine jr_aload_n (pc' := 17) (i := 0) dX8_spot_16 rfl rfl rfl ?_
    refine jr_get (pc' := 20) jK8 (k := 52) (j := 25) (v := .int (h.1 52 25)) wfX8_146 dX8_spot_17 rfl (by decide) rfl (by decide) rfl ?_
    refine jr_istore_n (pc' := 21) (i := 1) (lv' := [some (.ref 52), some (.int (h.1 52 25))]) dX8_spot_20 rfl rfl (by decide) rfl ?_
    refine jr_aload_n (pc' := 22) (i := 0) dX8_spot_21 rfl rfl rfl ?_
    refine jr_iconst (pc' := 23) (v := 0) dX8_spot_22 rfl (by decide) ?_
    refine jr_aload_n (pc' := 24) (i := 0) dX8_spot_23 rfl rfl rfl ?_
    refine jr_get (pc' := 27) jK8 (k := 52) (j := 27) (v := .int (h.1 52 27)) wfX8_160 dX8_spot_24 rfl (by decide) rfl (by decide) rfl ?_
    refine jr_iconst (pc' := 28) (v := 1) dX8_spot_27 rfl (by decide) ?_
    refine jr_isub (pc' := 29)  dX8_spot_28 rfl  ?_
    obtain ⟨P1, hC1, hK1⟩ := k1 c1
    exact jr_callV (pc' := 32) (k := 52) (av := [.int 0, .int ((h.1 52 27) - 1)]) (st := []) sX8_takes wmX8_152 dX8_spot_29 rfl (by decide) rfl (by decide) rfl rfl rfl (Nat.le_of_ble_eq_true rfl) rfl hC1 (fun v h2 hp => jG.weak (lv' := [some (.ref 52), some (.int (h.1 52 25))]) ⟨rfl, rfl, trivial⟩ (hK1 v h2 hp))

theorem q_Mospot_32 {E : jEnv} {n : Nat} {X : State → Prop} {Post : Option Value → HP → Prop} (a1 : Int32) (s0 : Int32) (h : HP)
    (k0 : (s0 = 0) → Post (some (.int 0)) h)
    (k1 : (¬ s0 = 0) → Post (some (.int 1)) (jPI h 52 25 (((h.1 52 26) * (h.1 52 25)) + a1)))
    : jG E mX8_spot (n + 1) X Post 32 [some (.ref 52), some (.int a1)] [.int s0] h := by
  by_cases c1 : s0 = 0
  · refine jr_if_neF (pc' := 35) (tgt := 37) dX8_spot_32 rfl rfl c1 ?_
    refine jr_iconst (pc' := 36) (v := 0) dX8_spot_35 rfl (by decide) ?_
    exact jr_iret dX8_spot_36 rfl rfl (k0 c1)
  · refine jr_if_neT (pc' := 37) dX8_spot_32 rfl c1 ?_
    refine jr_aload_n (pc' := 38) (i := 0) dX8_spot_37 rfl rfl rfl ?_
    refine jr_aload_n (pc' := 39) (i := 0) dX8_spot_38 rfl rfl rfl ?_
    refine jr_get (pc' := 42) jK8 (k := 52) (j := 26) (v := .int (h.1 52 26)) wfX8_155 dX8_spot_39 rfl (by decide) rfl (by decide) rfl ?_
    refine jr_aload_n (pc' := 43) (i := 0) dX8_spot_42 rfl rfl rfl ?_
    refine jr_get (pc' := 46) jK8 (k := 52) (j := 25) (v := .int (h.1 52 25)) wfX8_146 dX8_spot_43 rfl (by decide) rfl (by decide) rfl ?_
    refine jr_imul (pc' := 47)  dX8_spot_46 rfl  ?_
    refine jr_iload_n (pc' := 48) (i := 1) dX8_spot_47 rfl rfl rfl ?_
    refine jr_iadd (pc' := 49)  dX8_spot_48 rfl  ?_
    refine jr_putI (pc' := 52) jK8 (k := 52) (j := 25) wfX8_146 dX8_spot_49 rfl (by decide) rfl (by decide) (by decide) rfl rfl rfl ?_
    refine jr_iconst (pc' := 53) (v := 1) dX8_spot_52 rfl (by decide) ?_
    exact jr_iret dX8_spot_53 rfl rfl (k1 c1)

theorem q_Moplace_0 {E : jEnv} {n : Nat} {X : State → Prop} {Post : Option Value → HP → Prop} (x : Int32) (h : HP)
    (k0 : (x = 0) → ((h.1 52 37) = 0) → jCall E mX8_scans n [.ref 52] h (fun v h2 => jG E mX8_place (n + 1) X Post 32 [some (.ref 52), some (.int x)] (v.toList ++ []) h2))
    (k1 : (x = 0) → (¬ (h.1 52 37) = 0) → Post (some (.int (f_Mofaults 3))) (jPI h 52 23 3))
    (b0 : (x = 0) → (¬ (h.1 52 37) = 0) → narrow .boolean (.int (f_Mofaults 3)) = .int (f_Mofaults 3))
    (k2 : (¬ x = 0) → ((h.1 52 33) = 4) → Post (some (.int (f_Mofaults 3))) (jPI h 52 23 3))
    (b1 : (¬ x = 0) → ((h.1 52 33) = 4) → narrow .boolean (.int (f_Mofaults 3)) = .int (f_Mofaults 3))
    (k3 : (¬ x = 0) → (¬ (h.1 52 33) = 4) → jCall E mX8_scans n [.ref 52] h (fun v h2 => jG E mX8_place (n + 1) X Post 32 [some (.ref 52), some (.int x)] (v.toList ++ []) h2))
    : jG E mX8_place (n + 1) X Post 0 [some (.ref 52), some (.int x)] [] h := by
  refine jr_iload_n (pc' := 1) (i := 1) dX8_place_0 rfl rfl rfl ?_
  by_cases c1 : x = 0
  · refine jr_if_eqT (pc' := 15) dX8_place_1 rfl c1 ?_
    refine jr_aload_n (pc' := 16) (i := 0) dX8_place_15 rfl rfl rfl ?_
    refine jr_get (pc' := 19) jK8 (k := 52) (j := 37) (v := .int (h.1 52 37)) wfX8_182 dX8_place_16 rfl (by decide) rfl (by decide) rfl ?_
    by_cases c2 : (h.1 52 37) = 0
    · refine jr_if_eqT (pc' := 28) dX8_place_19 rfl c2 ?_
      refine jr_aload_n (pc' := 29) (i := 0) dX8_place_28 rfl rfl rfl ?_
      obtain ⟨P1, hC1, hK1⟩ := k0 c1 c2
      exact jr_callV (pc' := 32) (k := 52) (av := []) (st := []) sX8_scans wmX8_149 dX8_place_29 rfl (by decide) rfl (by decide) rfl rfl rfl (Nat.le_of_ble_eq_true rfl) rfl hC1 (fun v h2 hp => jG.weak (lv' := [some (.ref 52), some (.int x)]) ⟨rfl, rfl, trivial⟩ (hK1 v h2 hp))
    · refine jr_if_eqF (pc' := 22) (tgt := 28) dX8_place_19 rfl rfl c2 ?_
      refine jr_aload_n (pc' := 23) (i := 0) dX8_place_22 rfl rfl rfl ?_
      refine jr_iconst (pc' := 24) (v := 3) dX8_place_23 rfl (by decide) ?_
      refine jr_callV (pc' := 27) (k := 52) (av := [.int 3]) (st := []) sX8_faults wmX8_142 dX8_place_24 rfl (by decide) rfl (by decide) rfl rfl rfl (Nat.le_of_ble_eq_true rfl) rfl (c_Mofaults (n := n) 3 h ) (fun v h2 hp => ?_)
      rw [hp.1, hp.2]
      show jG E mX8_place (n + 1) X Post 27 [some (.ref 52), some (.int x)] [.int (f_Mofaults 3)] (jPI h 52 23 3)
      exact jr_iret dX8_place_27 rfl (b0 c1 c2) (k1 c1 c2)
  · refine jr_if_eqF (pc' := 4) (tgt := 15) dX8_place_1 rfl rfl c1 ?_
    refine jr_aload_n (pc' := 5) (i := 0) dX8_place_4 rfl rfl rfl ?_
    refine jr_get (pc' := 8) jK8 (k := 52) (j := 33) (v := .int (h.1 52 33)) wfX8_179 dX8_place_5 rfl (by decide) rfl (by decide) rfl ?_
    refine jr_iconst (pc' := 9) (v := 4) dX8_place_8 rfl (by decide) ?_
    by_cases c3 : (h.1 52 33) = 4
    · refine jr_icmp_neF (pc' := 12) (tgt := 28) dX8_place_9 rfl rfl c3 ?_
      refine jr_goto (pc' := 22) dX8_place_12 rfl ?_
      refine jr_aload_n (pc' := 23) (i := 0) dX8_place_22 rfl rfl rfl ?_
      refine jr_iconst (pc' := 24) (v := 3) dX8_place_23 rfl (by decide) ?_
      refine jr_callV (pc' := 27) (k := 52) (av := [.int 3]) (st := []) sX8_faults wmX8_142 dX8_place_24 rfl (by decide) rfl (by decide) rfl rfl rfl (Nat.le_of_ble_eq_true rfl) rfl (c_Mofaults (n := n) 3 h ) (fun v h2 hp => ?_)
      rw [hp.1, hp.2]
      show jG E mX8_place (n + 1) X Post 27 [some (.ref 52), some (.int x)] [.int (f_Mofaults 3)] (jPI h 52 23 3)
      exact jr_iret dX8_place_27 rfl (b1 c1 c3) (k2 c1 c3)
    · refine jr_icmp_neT (pc' := 28) dX8_place_9 rfl c3 ?_
      refine jr_aload_n (pc' := 29) (i := 0) dX8_place_28 rfl rfl rfl ?_
      obtain ⟨P1, hC1, hK1⟩ := k3 c1 c3
      exact jr_callV (pc' := 32) (k := 52) (av := []) (st := []) sX8_scans wmX8_149 dX8_place_29 rfl (by decide) rfl (by decide) rfl rfl rfl (Nat.le_of_ble_eq_true rfl) rfl hC1 (fun v h2 hp => jG.weak (lv' := [some (.ref 52), some (.int x)]) ⟨rfl, rfl, trivial⟩ (hK1 v h2 hp))

theorem q_Moplace_32 {E : jEnv} {n : Nat} {X : State → Prop} {Post : Option Value → HP → Prop} (a1 : Int32) (h : HP)
    (k0 : jCall E mX8_spot n [.ref 52] h (fun v h2 => jG E mX8_place (n + 1) X Post 36 [some (.ref 52), some (.int a1)] (v.toList ++ []) h2))
    : jG E mX8_place (n + 1) X Post 32 [some (.ref 52), some (.int a1)] [] h := by
  refine jr_aload_n (pc' := 33) (i := 0) dX8_place_32 rfl rfl rfl ?_
  obtain ⟨P1, hC1, hK1⟩ := k0
  exact jr_callV (pc' := 36) (k := 52) (av := []) (st := []) sX8_spot wmX8_175 dX8_place_33 rfl (by decide) rfl (by decide) rfl rfl rfl (Nat.le_of_ble_eq_true rfl) rfl hC1 (fun v h2 hp => jG.weak (lv' := [some (.ref 52), some (.int a1)]) ⟨rfl, rfl, trivial⟩ (hK1 v h2 hp))

theorem q_Moplace_36 {E : jEnv} {n : Nat} {X : State → Prop} {Post : Option Value → HP → Prop} (a1 : Int32) (s0 : Int32) (h : HP)
    (k0 : (s0 = 0) → Post (some (.int 0)) h)
    (k1 : (¬ s0 = 0) → (a1 = 0) → jCall E mX8_signs n [.ref 52, .int 3] (jPI (jPI h 52 35 (h.1 52 25)) 52 37 1) (fun v h2 => jG E mX8_place (n + 1) X Post 89 [none, none] (v.toList ++ []) h2))
    (b0 : (¬ s0 = 0) → (¬ a1 = 0) → vp_in (h.1 52 33) 4)
    (k2 : (¬ s0 = 0) → (¬ a1 = 0) → jCall E mX8_signs n [.ref 52, .int 3] (jPI (jPI h 65 ((h.1 52 33).toNatClampNeg) (h.1 52 25)) 52 33 ((h.1 52 33) + 1)) (fun v h2 => jG E mX8_place (n + 1) X Post 89 [none, none] (v.toList ++ []) h2))
    : jG E mX8_place (n + 1) X Post 36 [some (.ref 52), some (.int a1)] [.int s0] h := by
  by_cases c1 : s0 = 0
  · refine jr_if_neF (pc' := 39) (tgt := 41) dX8_place_36 rfl rfl c1 ?_
    refine jr_iconst (pc' := 40) (v := 0) dX8_place_39 rfl (by decide) ?_
    exact jr_iret dX8_place_40 rfl rfl (k0 c1)
  · refine jr_if_neT (pc' := 41) dX8_place_36 rfl c1 ?_
    refine jr_iload_n (pc' := 42) (i := 1) dX8_place_41 rfl rfl rfl ?_
    by_cases c2 : a1 = 0
    · refine jr_if_eqT (pc' := 71) dX8_place_42 rfl c2 ?_
      refine jr_aload_n (pc' := 72) (i := 0) dX8_place_71 rfl rfl rfl ?_
      refine jr_aload_n (pc' := 73) (i := 0) dX8_place_72 rfl rfl rfl ?_
      refine jr_get (pc' := 76) jK8 (k := 52) (j := 25) (v := .int (h.1 52 25)) wfX8_146 dX8_place_73 rfl (by decide) rfl (by decide) rfl ?_
      refine jr_putI (pc' := 79) jK8 (k := 52) (j := 35) wfX8_186 dX8_place_76 rfl (by decide) rfl (by decide) (by decide) rfl rfl rfl ?_
      refine jr_aload_n (pc' := 80) (i := 0) dX8_place_79 rfl rfl rfl ?_
      refine jr_iconst (pc' := 81) (v := 1) dX8_place_80 rfl (by decide) ?_
      refine jr_putI (pc' := 84) jK8 (k := 52) (j := 37) wfX8_182 dX8_place_81 rfl (by decide) rfl (by decide) (by decide) rfl rfl rfl ?_
      refine jr_aload_n (pc' := 85) (i := 0) dX8_place_84 rfl rfl rfl ?_
      refine jr_iconst (pc' := 86) (v := 3) dX8_place_85 rfl (by decide) ?_
      obtain ⟨P1, hC1, hK1⟩ := k1 c1 c2
      exact jr_callV (pc' := 89) (k := 52) (av := [.int 3]) (st := []) sX8_signs wmX8_163 dX8_place_86 rfl (by decide) rfl (by decide) rfl rfl rfl (Nat.le_of_ble_eq_true rfl) rfl hC1 (fun v h2 hp => jG.weak (lv' := [none, none]) trivial (hK1 v h2 hp))
    · refine jr_if_eqF (pc' := 45) (tgt := 71) dX8_place_42 rfl rfl c2 ?_
      refine jr_aload_n (pc' := 46) (i := 0) dX8_place_45 rfl rfl rfl ?_
      refine jr_get (pc' := 49) jK8 (k := 52) (j := 34) (v := .ref 65) wfX8_47 dX8_place_46 rfl (by decide) rfl (by decide) rfl ?_
      refine jr_aload_n (pc' := 50) (i := 0) dX8_place_49 rfl rfl rfl ?_
      refine jr_get (pc' := 53) jK8 (k := 52) (j := 33) (v := .int (h.1 52 33)) wfX8_179 dX8_place_50 rfl (by decide) rfl (by decide) rfl ?_
      refine jr_aload_n (pc' := 54) (i := 0) dX8_place_53 rfl rfl rfl ?_
      refine jr_get (pc' := 57) jK8 (k := 52) (j := 25) (v := .int (h.1 52 25)) wfX8_146 dX8_place_54 rfl (by decide) rfl (by decide) rfl ?_
      refine jr_iast (pc' := 58) (j := (h.1 52 33).toNatClampNeg) dX8_place_57 rfl (by decide) rfl (b0 c1 c2) rfl ?_
      refine jr_aload_n (pc' := 59) (i := 0) dX8_place_58 rfl rfl rfl ?_
      refine jr_dup (pc' := 60)  dX8_place_59 rfl rfl ?_
      refine jr_get (pc' := 63) jK8 (k := 52) (j := 33) (v := .int (h.1 52 33)) wfX8_179 dX8_place_60 rfl (by decide) rfl (by decide) rfl ?_
      refine jr_iconst (pc' := 64) (v := 1) dX8_place_63 rfl (by decide) ?_
      refine jr_iadd (pc' := 65)  dX8_place_64 rfl  ?_
      refine jr_putI (pc' := 68) jK8 (k := 52) (j := 33) wfX8_179 dX8_place_65 rfl (by decide) rfl (by decide) (by decide) rfl rfl rfl ?_
      refine jr_goto (pc' := 84) dX8_place_68 rfl ?_
      refine jr_aload_n (pc' := 85) (i := 0) dX8_place_84 rfl rfl rfl ?_
      refine jr_iconst (pc' := 86) (v := 3) dX8_place_85 rfl (by decide) ?_
      obtain ⟨P1, hC1, hK1⟩ := k2 c1 c2
      exact jr_callV (pc' := 89) (k := 52) (av := [.int 3]) (st := []) sX8_signs wmX8_163 dX8_place_86 rfl (by decide) rfl (by decide) rfl rfl rfl (Nat.le_of_ble_eq_true rfl) rfl hC1 (fun v h2 hp => jG.weak (lv' := [none, none]) trivial (hK1 v h2 hp))

theorem q_Moplace_89 {E : jEnv} {n : Nat} {X : State → Prop} {Post : Option Value → HP → Prop} (s0 : Int32) (h : HP)
    (k0 : Post (some (.int s0)) h)
    (b0 : narrow .boolean (.int s0) = .int s0)
    : jG E mX8_place (n + 1) X Post 89 [none, none] [.int s0] h := by
  exact jr_iret dX8_place_89 rfl (b0) (k0)

