theorem q_Shfeed_0 {E : jEnv} {n : Nat} {X : State → Prop} {Post : Option Value → HP → Prop} (x : Int32) (y : Int64) (h : HP)
    (k0 : (x < 1) → Post (some (.int (-1000000002))) h)
    (k1 : (¬ x < 1) → (x ≤ 8) → (((h.1 1 1) + x) ≤ 500) → jCall E mX6_append n [.ref 1, .int x, .long y] h (fun v h2 => jG E mX7_feed (n + 1) X Post 41 [some (.ref 0), none, none, none] (v.toList ++ []) h2))
    (k2 : (¬ x < 1) → (x ≤ 8) → (¬ ((h.1 1 1) + x) ≤ 500) → Post (some (.int (-1000000004))) h)
    (k3 : (¬ x < 1) → (¬ x ≤ 8) → Post (some (.int (-1000000002))) h)
    : jG E mX7_feed (n + 1) X Post 0 [some (.ref 0), some (.int x), some (.long y), none] [] h := by
  refine jr_iload_n (pc' := 1) (i := 1) dX7_feed_0 rfl rfl rfl ?_
  refine jr_iconst (pc' := 2) (v := 1) dX7_feed_1 rfl (by decide) ?_
  by_cases c1 : x < 1
  · refine jr_icmp_ltT (pc' := 11) dX7_feed_2 rfl c1 ?_
    refine jr_ldc (pc' := 13) (v := (-1000000002)) dX7_feed_11 rfl wcX7_74 ?_
    exact jr_iret dX7_feed_13 rfl rfl (k0 c1)
  · refine jr_icmp_ltF (pc' := 5) (tgt := 11) dX7_feed_2 rfl rfl c1 ?_
    refine jr_iload_n (pc' := 6) (i := 1) dX7_feed_5 rfl rfl rfl ?_
    refine jr_bipush (pc' := 8) (v := 8) dX7_feed_6 rfl (by decide) ?_
    by_cases c2 : x ≤ 8
    · refine jr_icmp_leT (pc' := 14) dX7_feed_8 rfl c2 ?_
      refine jr_aload_n (pc' := 15) (i := 0) dX7_feed_14 rfl rfl rfl ?_
      refine jr_get (pc' := 18) jK7 (k := 0) (j := 0) (v := .ref 1) wfX7_12 dX7_feed_15 rfl (by decide) rfl (by decide) rfl ?_
      refine jr_get (pc' := 21) jK6 (k := 1) (j := 1) (v := .int (h.1 1 1)) wfX7_75 dX7_feed_18 rfl (by decide) rfl (by decide) rfl ?_
      refine jr_iload_n (pc' := 22) (i := 1) dX7_feed_21 rfl rfl rfl ?_
      refine jr_iadd (pc' := 23)  dX7_feed_22 rfl  ?_
      refine jr_sipush (pc' := 26) (v := 500) dX7_feed_23 rfl (by decide) ?_
      by_cases c3 : ((h.1 1 1) + x) ≤ 500
      · refine jr_icmp_leT (pc' := 32) dX7_feed_26 rfl c3 ?_
        refine jr_aload_n (pc' := 33) (i := 0) dX7_feed_32 rfl rfl rfl ?_
        refine jr_get (pc' := 36) jK7 (k := 0) (j := 0) (v := .ref 1) wfX7_12 dX7_feed_33 rfl (by decide) rfl (by decide) rfl ?_
        refine jr_iload_n (pc' := 37) (i := 1) dX7_feed_36 rfl rfl rfl ?_
        refine jr_lload_n (pc' := 38) (i := 2) dX7_feed_37 rfl rfl rfl ?_
        obtain ⟨P1, hC1, hK1⟩ := k1 c1 c2 c3
        exact jr_callV (pc' := 41) (k := 1) (av := [.int x, .long y]) (st := []) sX6_append wmX7_80 dX7_feed_38 rfl (by decide) rfl (by decide) rfl rfl rfl (Nat.le_of_ble_eq_true rfl) rfl hC1 (fun v h2 hp => jG.weak (lv' := [some (.ref 0), none, none, none]) ⟨rfl, trivial⟩ (hK1 v h2 hp))
      · refine jr_icmp_leF (pc' := 29) (tgt := 32) dX7_feed_26 rfl rfl c3 ?_
        refine jr_ldc (pc' := 31) (v := (-1000000004)) dX7_feed_29 rfl wcX7_79 ?_
        exact jr_iret dX7_feed_31 rfl rfl (k2 c1 c2 c3)
    · refine jr_icmp_leF (pc' := 11) (tgt := 14) dX7_feed_8 rfl rfl c2 ?_
      refine jr_ldc (pc' := 13) (v := (-1000000002)) dX7_feed_11 rfl wcX7_74 ?_
      exact jr_iret dX7_feed_13 rfl rfl (k3 c1 c2)

theorem q_Shfeed_41 {E : jEnv} {n : Nat} {X : State → Prop} {Post : Option Value → HP → Prop}  (h : HP)
    (k0 : Post (some (.int (h.1 1 1))) h)
    : jG E mX7_feed (n + 1) X Post 41 [some (.ref 0), none, none, none] [] h := by
  refine jr_aload_n (pc' := 42) (i := 0) dX7_feed_41 rfl rfl rfl ?_
  refine jr_get (pc' := 45) jK7 (k := 0) (j := 0) (v := .ref 1) wfX7_12 dX7_feed_42 rfl (by decide) rfl (by decide) rfl ?_
  refine jr_get (pc' := 48) jK6 (k := 1) (j := 1) (v := .int (h.1 1 1)) wfX7_75 dX7_feed_45 rfl (by decide) rfl (by decide) rfl ?_
  exact jr_iret dX7_feed_48 rfl rfl (k0)

theorem q_Shprovince_0 {E : jEnv} {n : Nat} {X : State → Prop} {Post : Option Value → HP → Prop}  (h : HP)
    (k0 : jCall E mX3_read n [.ref 10] h (fun v h2 => jG E mX7_province (n + 1) X Post 7 [some (.ref 0), none, none] (v.toList ++ []) h2))
    : jG E mX7_province (n + 1) X Post 0 [some (.ref 0), none, none] [] h := by
  refine jr_aload_n (pc' := 1) (i := 0) dX7_province_0 rfl rfl rfl ?_
  refine jr_get (pc' := 4) jK7 (k := 0) (j := 2) (v := .ref 10) wfX7_28 dX7_province_1 rfl (by decide) rfl (by decide) rfl ?_
  obtain ⟨P1, hC1, hK1⟩ := k0
  exact jr_callV (pc' := 7) (k := 10) (av := []) (st := []) sX3_read wmX7_84 dX7_province_4 rfl (by decide) rfl (by decide) rfl rfl rfl (Nat.le_of_ble_eq_true rfl) rfl hC1 (fun v h2 hp => jG.weak (lv' := [some (.ref 0), none, none]) ⟨rfl, trivial⟩ (hK1 v h2 hp))

theorem q_Shprovince_7 {E : jEnv} {n : Nat} {X : State → Prop} {Post : Option Value → HP → Prop} (s0 : Int32) (h : HP)
    (k0 : (s0 = 0) → Post (some (.int ((-10) - (h.1 10 2)))) (jPI h 1 1 0))
    (k1 : (¬ s0 = 0) → jCall E mX2_become n [.ref 3, .ref 11] (jPI h 1 1 0) (fun v h2 => jG E mX7_province (n + 1) X Post 45 [some (.ref 0), none, none] (v.toList ++ []) h2))
    : jG E mX7_province (n + 1) X Post 7 [some (.ref 0), none, none] [.int s0] h := by
  refine jr_istore_n (pc' := 8) (i := 1) (lv' := [some (.ref 0), some (.int s0), none]) dX7_province_7 rfl rfl (by decide) rfl ?_
  refine jr_aload_n (pc' := 9) (i := 0) dX7_province_8 rfl rfl rfl ?_
  refine jr_get (pc' := 12) jK7 (k := 0) (j := 0) (v := .ref 1) wfX7_12 dX7_province_9 rfl (by decide) rfl (by decide) rfl ?_
  refine jr_iconst (pc' := 13) (v := 0) dX7_province_12 rfl (by decide) ?_
  refine jr_putI (pc' := 16) jK6 (k := 1) (j := 1) wfX7_75 dX7_province_13 rfl (by decide) rfl (by decide) (by decide) rfl rfl rfl ?_
  refine jr_iload_n (pc' := 17) (i := 1) dX7_province_16 rfl rfl rfl ?_
  by_cases c1 : s0 = 0
  · refine jr_if_neF (pc' := 20) (tgt := 31) dX7_province_17 rfl rfl c1 ?_
    refine jr_bipush (pc' := 22) (v := (-10)) dX7_province_20 rfl (by decide) ?_
    refine jr_aload_n (pc' := 23) (i := 0) dX7_province_22 rfl rfl rfl ?_
    refine jr_get (pc' := 26) jK7 (k := 0) (j := 2) (v := .ref 10) wfX7_28 dX7_province_23 rfl (by decide) rfl (by decide) rfl ?_
    refine jr_get (pc' := 29) jK3 (k := 10) (j := 2) (v := .int (h.1 10 2)) wfX7_88 dX7_province_26 rfl (by decide) rfl (by decide) rfl ?_
    refine jr_isub (pc' := 30)  dX7_province_29 rfl  ?_
    exact jr_iret dX7_province_30 rfl rfl (k0 c1)
  · refine jr_if_neT (pc' := 31) dX7_province_17 rfl c1 ?_
    refine jr_aload_n (pc' := 32) (i := 0) dX7_province_31 rfl rfl rfl ?_
    refine jr_get (pc' := 35) jK7 (k := 0) (j := 1) (v := .ref 3) wfX7_19 dX7_province_32 rfl (by decide) rfl (by decide) rfl ?_
    refine jr_aload_n (pc' := 36) (i := 0) dX7_province_35 rfl rfl rfl ?_
    refine jr_get (pc' := 39) jK7 (k := 0) (j := 2) (v := .ref 10) wfX7_28 dX7_province_36 rfl (by decide) rfl (by decide) rfl ?_
    refine jr_get (pc' := 42) jK3 (k := 10) (j := 1) (v := .ref 11) wfX7_91 dX7_province_39 rfl (by decide) rfl (by decide) rfl ?_
    obtain ⟨P1, hC1, hK1⟩ := k1 c1
    exact jr_callV (pc' := 45) (k := 3) (av := [.ref 11]) (st := []) sX2_become wmX7_94 dX7_province_42 rfl (by decide) rfl (by decide) rfl rfl rfl (Nat.le_of_ble_eq_true rfl) rfl hC1 (fun v h2 hp => jG.weak (lv' := [some (.ref 0), none, none]) ⟨rfl, trivial⟩ (hK1 v h2 hp))

theorem q_Shprovince_45 {E : jEnv} {n : Nat} {X : State → Prop} {Post : Option Value → HP → Prop}  (h : HP)
    (k0 : jCall E mX5_begin n [.ref 18] h (fun v h2 => jG E mX7_province (n + 1) X Post 52 [some (.ref 0), none, none] (v.toList ++ []) h2))
    : jG E mX7_province (n + 1) X Post 45 [some (.ref 0), none, none] [] h := by
  refine jr_aload_n (pc' := 46) (i := 0) dX7_province_45 rfl rfl rfl ?_
  refine jr_get (pc' := 49) jK7 (k := 0) (j := 3) (v := .ref 18) wfX7_37 dX7_province_46 rfl (by decide) rfl (by decide) rfl ?_
  obtain ⟨P1, hC1, hK1⟩ := k0
  exact jr_callV (pc' := 52) (k := 18) (av := []) (st := []) sX5_begin wmX7_97 dX7_province_49 rfl (by decide) rfl (by decide) rfl rfl rfl (Nat.le_of_ble_eq_true rfl) rfl hC1 (fun v h2 hp => jG.weak (lv' := [some (.ref 0), none, none]) ⟨rfl, trivial⟩ (hK1 v h2 hp))

theorem q_Shprovince_52 {E : jEnv} {n : Nat} {X : State → Prop} {Post : Option Value → HP → Prop}  (h : HP)
    (k0 : jG E mX7_province (n + 1) X Post 69 [some (.ref 0), none, some (.int 0)] [] (jPI (jPI (jPI h 30 2 (-1)) 30 3 0) 33 1 0))
    : jG E mX7_province (n + 1) X Post 52 [some (.ref 0), none, none] [] h := by
  refine jr_aload_n (pc' := 53) (i := 0) dX7_province_52 rfl rfl rfl ?_
  refine jr_get (pc' := 56) jK7 (k := 0) (j := 5) (v := .ref 30) wfX7_53 dX7_province_53 rfl (by decide) rfl (by decide) rfl ?_
  refine jr_callV (pc' := 59) (k := 30) (av := []) (st := []) sX1_forget wmX7_100 dX7_province_56 rfl (by decide) rfl (by decide) rfl rfl rfl (Nat.le_of_ble_eq_true rfl) rfl (c_Fsforget (n := n)  h ) (fun v h2 hp => ?_)
  rw [hp.1, hp.2]
  show jG E mX7_province (n + 1) X Post 59 [some (.ref 0), none, none] [] (jPI (jPI h 30 2 (-1)) 30 3 0)
  refine jr_aload_n (pc' := 60) (i := 0) dX7_province_59 rfl rfl rfl ?_
  refine jr_get (pc' := 63) jK7 (k := 0) (j := 6) (v := .ref 33) wfX7_62 dX7_province_60 rfl (by decide) rfl (by decide) rfl ?_
  refine jr_iconst (pc' := 64) (v := 0) dX7_province_63 rfl (by decide) ?_
  refine jr_putI (pc' := 67) jK0 (k := 33) (j := 1) wfX7_103 dX7_province_64 rfl (by decide) rfl (by decide) (by decide) rfl rfl rfl ?_
  refine jr_iconst (pc' := 68) (v := 0) dX7_province_67 rfl (by decide) ?_
  refine jr_istore_n (pc' := 69) (i := 2) (lv' := [some (.ref 0), none, some (.int 0)]) dX7_province_68 rfl rfl (by decide) rfl ?_
  exact jG.weak (lv' := [some (.ref 0), none, some (.int 0)]) ⟨rfl, rfl, trivial⟩ (k0)

theorem q_Shprovince_69 {E : jEnv} {n : Nat} {X : State → Prop} {Post : Option Value → HP → Prop} (a2 : Int32) (h : HP)
    (k0 : ((2 : Int32) ≤ a2) → Post (some (.int (f_Ldcells (h.1 3 0) (h.1 3 1)))) h)
    (b0 : (¬ (2 : Int32) ≤ a2) → vp_in a2 2)
    (k1 : (¬ (2 : Int32) ≤ a2) → jG E mX7_province (n + 1) X Post 69 [some (.ref 0), none, some (.int (a2 + 1))] [] (jPI h 39 a2.toNatClampNeg (vp_nar .boolean 0)))
    : jG E mX7_province (n + 1) X Post 69 [some (.ref 0), none, some (.int a2)] [] h := by
  refine jr_iload_n (pc' := 70) (i := 2) dX7_province_69 rfl rfl rfl ?_
  refine jr_aload_n (pc' := 71) (i := 0) dX7_province_70 rfl rfl rfl ?_
  refine jr_get (pc' := 74) jK7 (k := 0) (j := 8) (v := .ref 39) wfX7_70 dX7_province_71 rfl (by decide) rfl (by decide) rfl ?_
  refine jr_alen (pc' := 75) (v := 2) dX7_province_74 rfl (by decide) (by decide) (by decide) ?_
  by_cases c1 : (2 : Int32) ≤ a2
  · refine jr_icmp_geT (pc' := 91) dX7_province_75 rfl c1 ?_
    refine jr_aload_n (pc' := 92) (i := 0) dX7_province_91 rfl rfl rfl ?_
    refine jr_get (pc' := 95) jK7 (k := 0) (j := 1) (v := .ref 3) wfX7_19 dX7_province_92 rfl (by decide) rfl (by decide) rfl ?_
    refine jr_callV (pc' := 98) (k := 3) (av := []) (st := []) sX2_cells wmX7_106 dX7_province_95 rfl (by decide) rfl (by decide) rfl rfl rfl (Nat.le_of_ble_eq_true rfl) rfl (c_Ldcells (n := n)  h ) (fun v h2 hp => ?_)
    rw [hp.1, hp.2]
    show jG E mX7_province (n + 1) X Post 98 [some (.ref 0), none, some (.int a2)] [.int (f_Ldcells (h.1 3 0) (h.1 3 1))] h
    exact jr_iret dX7_province_98 rfl rfl (k0 c1)
  · refine jr_icmp_geF (pc' := 78) (tgt := 91) dX7_province_75 rfl rfl c1 ?_
    refine jr_aload_n (pc' := 79) (i := 0) dX7_province_78 rfl rfl rfl ?_
    refine jr_get (pc' := 82) jK7 (k := 0) (j := 8) (v := .ref 39) wfX7_70 dX7_province_79 rfl (by decide) rfl (by decide) rfl ?_
    refine jr_iload_n (pc' := 83) (i := 2) dX7_province_82 rfl rfl rfl ?_
    refine jr_iconst (pc' := 84) (v := 0) dX7_province_83 rfl (by decide) ?_
    refine jr_zast (pc' := 85) (j := a2.toNatClampNeg) dX7_province_84 rfl (by decide) rfl (b0 c1) rfl ?_
    refine jr_iinc (pc' := 88) (i := 2) (v := (a2 + 1)) (lv' := [some (.ref 0), none, some (.int (a2 + 1))]) dX7_province_85 rfl rfl (congrArg (a2 + ·) (by decide)) (by decide) rfl ?_
    refine jr_goto (pc' := 69) dX7_province_88 rfl ?_
    exact jG.weak (lv' := [some (.ref 0), none, some (.int (a2 + 1))]) ⟨rfl, rfl, trivial⟩ (k1 c1)

set_option maxRecDepth 4000 in
theorem q_Shtold_0 {E : jEnv} {n : Nat} {X : State → Prop} {Post : Option Value → HP → Prop} (x : Int32) (h : HP)
    (k0 : (x.toInt < 0 ∨ 10 < x.toInt) → Post (some (.int (-1000000002))) h)
    (k1 : (x.toInt = 0) → Post (some (.int (h.1 3 0))) h)
    (k2 : (x.toInt = 1) → Post (some (.int (h.1 3 1))) h)
    (k3 : (x.toInt = 2) → Post (some (.int (h.1 3 2))) h)
    (k4 : (x.toInt = 3) → Post (some (.int (h.1 3 3))) h)
    (k5 : (x.toInt = 4) → Post (some (.int (h.1 3 4))) h)
    (k6 : (x.toInt = 5) → Post (some (.int (h.1 1 1))) h)
    (k7 : (x.toInt = 6) → Post (some (.int (h.1 18 1))) h)
    (k8 : (x.toInt = 7) → Post (some (.int (f_LdnameOf (h.1 3 0) (h.1 3 5)))) h)
    (k9 : (x.toInt = 8) → Post (some (.int (h.1 30 3))) h)
    (k10 : (x.toInt = 9) → Post (some (.int (h.1 33 1))) h)
    (k11 : (x.toInt = 10) → jCall E mX5_knownAt (n + 1) [.ref 18, .int (h.1 3 5)] h (fun v h2 => jG E mX7_told (n + 2) X Post 161 [none, none] (v.toList ++ []) h2))
    : jG E mX7_told (n + 2) X Post 0 [some (.ref 0), some (.int x)] [] h := by
  refine jr_iload_n (pc' := 1) (i := 1) dX7_told_0 rfl rfl rfl ?_
  by_cases c1 : x.toInt < 0 ∨ 10 < x.toInt
  · refine jr_tabOut (pc' := 162) dX7_told_1 c1 rfl ?_
    refine jr_ldc (pc' := 164) (v := (-1000000002)) dX7_told_162 rfl wcX7_74 ?_
    exact jr_iret dX7_told_164 rfl rfl (k0 c1)
  · have c1x : x.toInt = 0 ∨ x.toInt = 1 ∨ x.toInt = 2 ∨ x.toInt = 3 ∨ x.toInt = 4 ∨ x.toInt = 5 ∨ x.toInt = 6 ∨ x.toInt = 7 ∨ x.toInt = 8 ∨ x.toInt = 9 ∨ x.toInt = 10 := by omega
    rcases c1x with c1x | c1x | c1x | c1x | c1x | c1x | c1x | c1x | c1x | c1x | c1x
    · refine jr_tabIn (pc' := 60) (off := 59) dX7_told_1 (by omega) (by omega) (by rw [c1x]; rfl) rfl ?_
      refine jr_aload_n (pc' := 61) (i := 0) dX7_told_60 rfl rfl rfl ?_
      refine jr_get (pc' := 64) jK7 (k := 0) (j := 1) (v := .ref 3) wfX7_19 dX7_told_61 rfl (by decide) rfl (by decide) rfl ?_
      refine jr_get (pc' := 67) jK2 (k := 3) (j := 0) (v := .int (h.1 3 0)) wfX7_113 dX7_told_64 rfl (by decide) rfl (by decide) rfl ?_
      exact jr_iret dX7_told_67 rfl rfl (k1 c1x)
    · refine jr_tabIn (pc' := 68) (off := 67) dX7_told_1 (by omega) (by omega) (by rw [c1x]; rfl) rfl ?_
      refine jr_aload_n (pc' := 69) (i := 0) dX7_told_68 rfl rfl rfl ?_
      refine jr_get (pc' := 72) jK7 (k := 0) (j := 1) (v := .ref 3) wfX7_19 dX7_told_69 rfl (by decide) rfl (by decide) rfl ?_
      refine jr_get (pc' := 75) jK2 (k := 3) (j := 1) (v := .int (h.1 3 1)) wfX7_116 dX7_told_72 rfl (by decide) rfl (by decide) rfl ?_
      exact jr_iret dX7_told_75 rfl rfl (k2 c1x)
    · refine jr_tabIn (pc' := 76) (off := 75) dX7_told_1 (by omega) (by omega) (by rw [c1x]; rfl) rfl ?_
      refine jr_aload_n (pc' := 77) (i := 0) dX7_told_76 rfl rfl rfl ?_
      refine jr_get (pc' := 80) jK7 (k := 0) (j := 1) (v := .ref 3) wfX7_19 dX7_told_77 rfl (by decide) rfl (by decide) rfl ?_
      refine jr_get (pc' := 83) jK2 (k := 3) (j := 2) (v := .int (h.1 3 2)) wfX7_119 dX7_told_80 rfl (by decide) rfl (by decide) rfl ?_
      exact jr_iret dX7_told_83 rfl rfl (k3 c1x)
    · refine jr_tabIn (pc' := 84) (off := 83) dX7_told_1 (by omega) (by omega) (by rw [c1x]; rfl) rfl ?_
      refine jr_aload_n (pc' := 85) (i := 0) dX7_told_84 rfl rfl rfl ?_
      refine jr_get (pc' := 88) jK7 (k := 0) (j := 1) (v := .ref 3) wfX7_19 dX7_told_85 rfl (by decide) rfl (by decide) rfl ?_
      refine jr_get (pc' := 91) jK2 (k := 3) (j := 3) (v := .int (h.1 3 3)) wfX7_122 dX7_told_88 rfl (by decide) rfl (by decide) rfl ?_
      exact jr_iret dX7_told_91 rfl rfl (k4 c1x)
    · refine jr_tabIn (pc' := 92) (off := 91) dX7_told_1 (by omega) (by omega) (by rw [c1x]; rfl) rfl ?_
      refine jr_aload_n (pc' := 93) (i := 0) dX7_told_92 rfl rfl rfl ?_
      refine jr_get (pc' := 96) jK7 (k := 0) (j := 1) (v := .ref 3) wfX7_19 dX7_told_93 rfl (by decide) rfl (by decide) rfl ?_
      refine jr_get (pc' := 99) jK2 (k := 3) (j := 4) (v := .int (h.1 3 4)) wfX7_125 dX7_told_96 rfl (by decide) rfl (by decide) rfl ?_
      exact jr_iret dX7_told_99 rfl rfl (k5 c1x)
    · refine jr_tabIn (pc' := 100) (off := 99) dX7_told_1 (by omega) (by omega) (by rw [c1x]; rfl) rfl ?_
      refine jr_aload_n (pc' := 101) (i := 0) dX7_told_100 rfl rfl rfl ?_
      refine jr_get (pc' := 104) jK7 (k := 0) (j := 0) (v := .ref 1) wfX7_12 dX7_told_101 rfl (by decide) rfl (by decide) rfl ?_
      refine jr_get (pc' := 107) jK6 (k := 1) (j := 1) (v := .int (h.1 1 1)) wfX7_75 dX7_told_104 rfl (by decide) rfl (by decide) rfl ?_
      exact jr_iret dX7_told_107 rfl rfl (k6 c1x)
    · refine jr_tabIn (pc' := 108) (off := 107) dX7_told_1 (by omega) (by omega) (by rw [c1x]; rfl) rfl ?_
      refine jr_aload_n (pc' := 109) (i := 0) dX7_told_108 rfl rfl rfl ?_
      refine jr_get (pc' := 112) jK7 (k := 0) (j := 3) (v := .ref 18) wfX7_37 dX7_told_109 rfl (by decide) rfl (by decide) rfl ?_
      refine jr_get (pc' := 115) jK5 (k := 18) (j := 1) (v := .int (h.1 18 1)) wfX7_128 dX7_told_112 rfl (by decide) rfl (by decide) rfl ?_
      exact jr_iret dX7_told_115 rfl rfl (k7 c1x)
    · refine jr_tabIn (pc' := 116) (off := 115) dX7_told_1 (by omega) (by omega) (by rw [c1x]; rfl) rfl ?_
      refine jr_aload_n (pc' := 117) (i := 0) dX7_told_116 rfl rfl rfl ?_
      refine jr_get (pc' := 120) jK7 (k := 0) (j := 1) (v := .ref 3) wfX7_19 dX7_told_117 rfl (by decide) rfl (by decide) rfl ?_
      refine jr_aload_n (pc' := 121) (i := 0) dX7_told_120 rfl rfl rfl ?_
      refine jr_get (pc' := 124) jK7 (k := 0) (j := 1) (v := .ref 3) wfX7_19 dX7_told_121 rfl (by decide) rfl (by decide) rfl ?_
      refine jr_get (pc' := 127) jK2 (k := 3) (j := 5) (v := .int (h.1 3 5)) wfX7_131 dX7_told_124 rfl (by decide) rfl (by decide) rfl ?_
      refine jr_callV (pc' := 130) (k := 3) (av := [.int (h.1 3 5)]) (st := []) sX2_nameOf wmX7_134 dX7_told_127 rfl (by decide) rfl (by decide) rfl rfl rfl (Nat.le_of_ble_eq_true rfl) rfl (c_LdnameOf (n := n) (h.1 3 5) h ) (fun v h2 hp => ?_)
      rw [hp.1, hp.2]
      show jG E mX7_told (n + 2) X Post 130 [some (.ref 0), some (.int x)] [.int (f_LdnameOf (h.1 3 0) (h.1 3 5))] h
      exact jr_iret dX7_told_130 rfl rfl (k8 c1x)
    · refine jr_tabIn (pc' := 131) (off := 130) dX7_told_1 (by omega) (by omega) (by rw [c1x]; rfl) rfl ?_
      refine jr_aload_n (pc' := 132) (i := 0) dX7_told_131 rfl rfl rfl ?_
      refine jr_get (pc' := 135) jK7 (k := 0) (j := 5) (v := .ref 30) wfX7_53 dX7_told_132 rfl (by decide) rfl (by decide) rfl ?_
      refine jr_get (pc' := 138) jK1 (k := 30) (j := 3) (v := .int (h.1 30 3)) wfX7_138 dX7_told_135 rfl (by decide) rfl (by decide) rfl ?_
      exact jr_iret dX7_told_138 rfl rfl (k9 c1x)
    · refine jr_tabIn (pc' := 139) (off := 138) dX7_told_1 (by omega) (by omega) (by rw [c1x]; rfl) rfl ?_
      refine jr_aload_n (pc' := 140) (i := 0) dX7_told_139 rfl rfl rfl ?_
      refine jr_get (pc' := 143) jK7 (k := 0) (j := 6) (v := .ref 33) wfX7_62 dX7_told_140 rfl (by decide) rfl (by decide) rfl ?_
      refine jr_get (pc' := 146) jK0 (k := 33) (j := 1) (v := .int (h.1 33 1)) wfX7_103 dX7_told_143 rfl (by decide) rfl (by decide) rfl ?_
      exact jr_iret dX7_told_146 rfl rfl (k10 c1x)
    · refine jr_tabIn (pc' := 147) (off := 146) dX7_told_1 (by omega) (by omega) (by rw [c1x]; rfl) rfl ?_
      refine jr_aload_n (pc' := 148) (i := 0) dX7_told_147 rfl rfl rfl ?_
      refine jr_get (pc' := 151) jK7 (k := 0) (j := 3) (v := .ref 18) wfX7_37 dX7_told_148 rfl (by decide) rfl (by decide) rfl ?_
      refine jr_aload_n (pc' := 152) (i := 0) dX7_told_151 rfl rfl rfl ?_
      refine jr_get (pc' := 155) jK7 (k := 0) (j := 1) (v := .ref 3) wfX7_19 dX7_told_152 rfl (by decide) rfl (by decide) rfl ?_
      refine jr_get (pc' := 158) jK2 (k := 3) (j := 5) (v := .int (h.1 3 5)) wfX7_131 dX7_told_155 rfl (by decide) rfl (by decide) rfl ?_
      obtain ⟨P1, hC1, hK1⟩ := k11 c1x
      exact jr_callV (pc' := 161) (k := 18) (av := [.int (h.1 3 5)]) (st := []) sX5_knownAt wmX7_139 dX7_told_158 rfl (by decide) rfl (by decide) rfl rfl rfl (Nat.le_of_ble_eq_true rfl) rfl hC1 (fun v h2 hp => jG.weak (lv' := [none, none]) trivial (hK1 v h2 hp))

theorem q_Shtold_161 {E : jEnv} {n : Nat} {X : State → Prop} {Post : Option Value → HP → Prop} (s0 : Int32) (h : HP)
    (k0 : Post (some (.int s0)) h)
    : jG E mX7_told (n + 2) X Post 161 [none, none] [.int s0] h := by
  exact jr_iret dX7_told_161 rfl rfl (k0)

theorem q_Shhour_0 {E : jEnv} {n : Nat} {X : State → Prop} {Post : Option Value → HP → Prop} (x : Int32) (h : HP)
    (k0 : jCall E mX7_letPass n [.ref 0, .int x, .int 0] h (fun v h2 => jG E mX7_hour (n + 1) X Post 6 [none, none] (v.toList ++ []) h2))
    : jG E mX7_hour (n + 1) X Post 0 [some (.ref 0), some (.int x)] [] h := by
  refine jr_aload_n (pc' := 1) (i := 0) dX7_hour_0 rfl rfl rfl ?_
  refine jr_iload_n (pc' := 2) (i := 1) dX7_hour_1 rfl rfl rfl ?_
  refine jr_iconst (pc' := 3) (v := 0) dX7_hour_2 rfl (by decide) ?_
  obtain ⟨P1, hC1, hK1⟩ := k0
  exact jr_callV (pc' := 6) (k := 0) (av := [.int x, .int 0]) (st := []) sX7_letPass wmX7_186 dX7_hour_3 rfl (by decide) rfl (by decide) rfl rfl rfl (Nat.le_of_ble_eq_true rfl) rfl hC1 (fun v h2 hp => jG.weak (lv' := [none, none]) trivial (hK1 v h2 hp))

theorem q_Shhour_6 {E : jEnv} {n : Nat} {X : State → Prop} {Post : Option Value → HP → Prop} (s0 : Int32) (h : HP)
    (k0 : Post (some (.int s0)) h)
    : jG E mX7_hour (n + 1) X Post 6 [none, none] [.int s0] h := by
  exact jr_iret dX7_hour_6 rfl rfl (k0)

theorem q_ShletPass_0 {E : jEnv} {n : Nat} {X : State → Prop} {Post : Option Value → HP → Prop} (x : Int32) (y : Int32) (h : HP)
    (k0 : (x < 1) → Post (some (.int (-1000000002))) h)
    (k1 : (¬ x < 1) → (x ≤ 99) → ((f_Ldcells (h.1 3 0) (h.1 3 1)) = 0) → Post (some (.int (-1000000003))) h)
    (k2 : (¬ x < 1) → (x ≤ 99) → (¬ (f_Ldcells (h.1 3 0) (h.1 3 1)) = 0) → jG E mX7_letPass (n + 1) X Post 29 [some (.ref 0), some (.int x), some (.int y), some (.int 0)] [] h)
    (k3 : (¬ x < 1) → (¬ x ≤ 99) → Post (some (.int (-1000000002))) h)
    : jG E mX7_letPass (n + 1) X Post 0 [some (.ref 0), some (.int x), some (.int y), none] [] h := by
  refine jr_iload_n (pc' := 1) (i := 1) dX7_letPass_0 rfl rfl rfl ?_
  refine jr_iconst (pc' := 2) (v := 1) dX7_letPass_1 rfl (by decide) ?_
  by_cases c1 : x < 1
  · refine jr_icmp_ltT (pc' := 11) dX7_letPass_2 rfl c1 ?_
    refine jr_ldc (pc' := 13) (v := (-1000000002)) dX7_letPass_11 rfl wcX7_74 ?_
    exact jr_iret dX7_letPass_13 rfl rfl (k0 c1)
  · refine jr_icmp_ltF (pc' := 5) (tgt := 11) dX7_letPass_2 rfl rfl c1 ?_
    refine jr_iload_n (pc' := 6) (i := 1) dX7_letPass_5 rfl rfl rfl ?_
    refine jr_bipush (pc' := 8) (v := 99) dX7_letPass_6 rfl (by decide) ?_
    by_cases c2 : x ≤ 99
    · refine jr_icmp_leT (pc' := 14) dX7_letPass_8 rfl c2 ?_
      refine jr_aload_n (pc' := 15) (i := 0) dX7_letPass_14 rfl rfl rfl ?_
      refine jr_get (pc' := 18) jK7 (k := 0) (j := 1) (v := .ref 3) wfX7_19 dX7_letPass_15 rfl (by decide) rfl (by decide) rfl ?_
      refine jr_callV (pc' := 21) (k := 3) (av := []) (st := []) sX2_cells wmX7_106 dX7_letPass_18 rfl (by decide) rfl (by decide) rfl rfl rfl (Nat.le_of_ble_eq_true rfl) rfl (c_Ldcells (n := n)  h ) (fun v h2 hp => ?_)
      rw [hp.1, hp.2]
      show jG E mX7_letPass (n + 1) X Post 21 [some (.ref 0), some (.int x), some (.int y), none] [.int (f_Ldcells (h.1 3 0) (h.1 3 1))] h
      by_cases c3 : (f_Ldcells (h.1 3 0) (h.1 3 1)) = 0
      · refine jr_if_neF (pc' := 24) (tgt := 27) dX7_letPass_21 rfl rfl c3 ?_
        refine jr_ldc (pc' := 26) (v := (-1000000003)) dX7_letPass_24 rfl wcX7_224 ?_
        exact jr_iret dX7_letPass_26 rfl rfl (k1 c1 c2 c3)
      · refine jr_if_neT (pc' := 27) dX7_letPass_21 rfl c3 ?_
        refine jr_iconst (pc' := 28) (v := 0) dX7_letPass_27 rfl (by decide) ?_
        refine jr_istore_n (pc' := 29) (i := 3) (lv' := [some (.ref 0), some (.int x), some (.int y), some (.int 0)]) dX7_letPass_28 rfl rfl (by decide) rfl ?_
        exact jG.weak (lv' := [some (.ref 0), some (.int x), some (.int y), some (.int 0)]) ⟨rfl, rfl, rfl, rfl, trivial⟩ (k2 c1 c2 c3)
    · refine jr_icmp_leF (pc' := 11) (tgt := 14) dX7_letPass_8 rfl rfl c2 ?_
      refine jr_ldc (pc' := 13) (v := (-1000000002)) dX7_letPass_11 rfl wcX7_74 ?_
      exact jr_iret dX7_letPass_13 rfl rfl (k3 c1 c2)

theorem q_ShletPass_29 {E : jEnv} {n : Nat} {X : State → Prop} {Post : Option Value → HP → Prop} (a1 : Int32) (a2 : Int32) (a3 : Int32) (h : HP)
    (k0 : (a1 ≤ a3) → Post (some (.int (h.1 18 1))) h)
    (k1 : (¬ a1 ≤ a3) → (a2 = 0) → jCall E mX5_passAnHour n [.ref 18] h (fun v h2 => jG E mX7_letPass (n + 1) X Post 52 [some (.ref 0), some (.int a1), some (.int a2), some (.int a3)] (v.toList ++ []) h2))
    (k2 : (¬ a1 ≤ a3) → (¬ a2 = 0) → jCall E mX5_orderByDraws n [.ref 18] h (fun v h2 => jG E mX7_letPass (n + 1) X Post 45 [some (.ref 0), some (.int a1), some (.int a2), some (.int a3)] (v.toList ++ []) h2))
    : jG E mX7_letPass (n + 1) X Post 29 [some (.ref 0), some (.int a1), some (.int a2), some (.int a3)] [] h := by
  refine jr_iload_n (pc' := 30) (i := 3) dX7_letPass_29 rfl rfl rfl ?_
  refine jr_iload_n (pc' := 31) (i := 1) dX7_letPass_30 rfl rfl rfl ?_
  by_cases c1 : a1 ≤ a3
  · refine jr_icmp_geT (pc' := 58) dX7_letPass_31 rfl c1 ?_
    refine jr_aload_n (pc' := 59) (i := 0) dX7_letPass_58 rfl rfl rfl ?_
    refine jr_get (pc' := 62) jK7 (k := 0) (j := 3) (v := .ref 18) wfX7_37 dX7_letPass_59 rfl (by decide) rfl (by decide) rfl ?_
    refine jr_get (pc' := 65) jK5 (k := 18) (j := 1) (v := .int (h.1 18 1)) wfX7_128 dX7_letPass_62 rfl (by decide) rfl (by decide) rfl ?_
    exact jr_iret dX7_letPass_65 rfl rfl (k0 c1)
  · refine jr_icmp_geF (pc' := 34) (tgt := 58) dX7_letPass_31 rfl rfl c1 ?_
    refine jr_iload_n (pc' := 35) (i := 2) dX7_letPass_34 rfl rfl rfl ?_
    by_cases c2 : a2 = 0
    · refine jr_if_eqT (pc' := 45) dX7_letPass_35 rfl c2 ?_
      refine jr_aload_n (pc' := 46) (i := 0) dX7_letPass_45 rfl rfl rfl ?_
      refine jr_get (pc' := 49) jK7 (k := 0) (j := 3) (v := .ref 18) wfX7_37 dX7_letPass_46 rfl (by decide) rfl (by decide) rfl ?_
      obtain ⟨P1, hC1, hK1⟩ := k1 c1 c2
      exact jr_callV (pc' := 52) (k := 18) (av := []) (st := []) sX5_passAnHour wmX7_284 dX7_letPass_49 rfl (by decide) rfl (by decide) rfl rfl rfl (Nat.le_of_ble_eq_true rfl) rfl hC1 (fun v h2 hp => jG.weak (lv' := [some (.ref 0), some (.int a1), some (.int a2), some (.int a3)]) ⟨rfl, rfl, rfl, rfl, trivial⟩ (hK1 v h2 hp))
    · refine jr_if_eqF (pc' := 38) (tgt := 45) dX7_letPass_35 rfl rfl c2 ?_
      refine jr_aload_n (pc' := 39) (i := 0) dX7_letPass_38 rfl rfl rfl ?_
      refine jr_get (pc' := 42) jK7 (k := 0) (j := 3) (v := .ref 18) wfX7_37 dX7_letPass_39 rfl (by decide) rfl (by decide) rfl ?_
      obtain ⟨P1, hC1, hK1⟩ := k2 c1 c2
      exact jr_callV (pc' := 45) (k := 18) (av := []) (st := []) sX5_orderByDraws wmX7_281 dX7_letPass_42 rfl (by decide) rfl (by decide) rfl rfl rfl (Nat.le_of_ble_eq_true rfl) rfl hC1 (fun v h2 hp => jG.weak (lv' := [some (.ref 0), some (.int a1), some (.int a2), some (.int a3)]) ⟨rfl, rfl, rfl, rfl, trivial⟩ (hK1 v h2 hp))

theorem q_ShletPass_52 {E : jEnv} {n : Nat} {X : State → Prop} {Post : Option Value → HP → Prop} (a1 : Int32) (a2 : Int32) (a3 : Int32) (h : HP)
    (k0 : jG E mX7_letPass (n + 1) X Post 29 [some (.ref 0), some (.int a1), some (.int a2), some (.int (a3 + 1))] [] h)
    : jG E mX7_letPass (n + 1) X Post 52 [some (.ref 0), some (.int a1), some (.int a2), some (.int a3)] [] h := by
  refine jr_iinc (pc' := 55) (i := 3) (v := (a3 + 1)) (lv' := [some (.ref 0), some (.int a1), some (.int a2), some (.int (a3 + 1))]) dX7_letPass_52 rfl rfl (congrArg (a3 + ·) (by decide)) (by decide) rfl ?_
  refine jr_goto (pc' := 29) dX7_letPass_55 rfl ?_
  exact jG.weak (lv' := [some (.ref 0), some (.int a1), some (.int a2), some (.int (a3 + 1))]) ⟨rfl, rfl, rfl, rfl, trivial⟩ (k0)

theorem q_ShletPass_45 {E : jEnv} {n : Nat} {X : State → Prop} {Post : Option Value → HP → Prop} (a1 : Int32) (a2 : Int32) (a3 : Int32) (h : HP)
    (k0 : jCall E mX5_passAnHour n [.ref 18] h (fun v h2 => jG E mX7_letPass (n + 1) X Post 52 [some (.ref 0), some (.int a1), some (.int a2), some (.int a3)] (v.toList ++ []) h2))
    : jG E mX7_letPass (n + 1) X Post 45 [some (.ref 0), some (.int a1), some (.int a2), some (.int a3)] [] h := by
  refine jr_aload_n (pc' := 46) (i := 0) dX7_letPass_45 rfl rfl rfl ?_
  refine jr_get (pc' := 49) jK7 (k := 0) (j := 3) (v := .ref 18) wfX7_37 dX7_letPass_46 rfl (by decide) rfl (by decide) rfl ?_
  obtain ⟨P1, hC1, hK1⟩ := k0
  exact jr_callV (pc' := 52) (k := 18) (av := []) (st := []) sX5_passAnHour wmX7_284 dX7_letPass_49 rfl (by decide) rfl (by decide) rfl rfl rfl (Nat.le_of_ble_eq_true rfl) rfl hC1 (fun v h2 hp => jG.weak (lv' := [some (.ref 0), some (.int a1), some (.int a2), some (.int a3)]) ⟨rfl, rfl, rfl, rfl, trivial⟩ (hK1 v h2 hp))

theorem q_Shdrift_0 {E : jEnv} {n : Nat} {X : State → Prop} {Post : Option Value → HP → Prop} (x : Int32) (h : HP)
    (k0 : jCall E mX7_letPass n [.ref 0, .int x, .int 1] h (fun v h2 => jG E mX7_drift (n + 1) X Post 6 [none, none] (v.toList ++ []) h2))
    : jG E mX7_drift (n + 1) X Post 0 [some (.ref 0), some (.int x)] [] h := by
  refine jr_aload_n (pc' := 1) (i := 0) dX7_drift_0 rfl rfl rfl ?_
  refine jr_iload_n (pc' := 2) (i := 1) dX7_drift_1 rfl rfl rfl ?_
  refine jr_iconst (pc' := 3) (v := 1) dX7_drift_2 rfl (by decide) ?_
  obtain ⟨P1, hC1, hK1⟩ := k0
  exact jr_callV (pc' := 6) (k := 0) (av := [.int x, .int 1]) (st := []) sX7_letPass wmX7_186 dX7_drift_3 rfl (by decide) rfl (by decide) rfl rfl rfl (Nat.le_of_ble_eq_true rfl) rfl hC1 (fun v h2 hp => jG.weak (lv' := [none, none]) trivial (hK1 v h2 hp))

theorem q_Shdrift_6 {E : jEnv} {n : Nat} {X : State → Prop} {Post : Option Value → HP → Prop} (s0 : Int32) (h : HP)
    (k0 : Post (some (.int s0)) h)
    : jG E mX7_drift (n + 1) X Post 6 [none, none] [.int s0] h := by
  exact jr_iret dX7_drift_6 rfl rfl (k0)

theorem q_ShcanBe_0 {E : jEnv} {n : Nat} {X : State → Prop} {Post : Option Value → HP → Prop} (x : Int32) (y : Int32) (z : Int32) (h : HP)
    (k0 : ((f_LdisMan (h.1 3 3) x) = 0) → Post (some (.int (-1000000001))) h)
    (k1 : (¬ (f_LdisMan (h.1 3 3) x) = 0) → ((f_LdisCell (h.1 3 0) (h.1 3 1) y z) = 0) → Post (some (.int (-1000000001))) h)
    (k2 : (¬ (f_LdisMan (h.1 3 3) x) = 0) → (¬ (f_LdisCell (h.1 3 0) (h.1 3 1) y z) = 0) → jCall E mX4_hoursToBe (n + 1) [.ref 24, .int x, .int (f_LdcellOf3 (h.1 3 0) y z)] (jPL (jPA h 25 (va_cpy ((h.1 20)) ((h.1 25)) (0 : Int32).toNatClampNeg (0 : Int32).toNatClampNeg (4 : Int32).toNatClampNeg)) 24 3 (h.2 18 3)) (fun v h2 => jG E mX7_canBe (n + 2) X Post 50 [none, none, none, none] (v.toList ++ []) h2))
    : jG E mX7_canBe (n + 2) X Post 0 [some (.ref 0), some (.int x), some (.int y), some (.int z)] [] h := by
  refine jr_aload_n (pc' := 1) (i := 0) dX7_canBe_0 rfl rfl rfl ?_
  refine jr_get (pc' := 4) jK7 (k := 0) (j := 1) (v := .ref 3) wfX7_19 dX7_canBe_1 rfl (by decide) rfl (by decide) rfl ?_
  refine jr_iload_n (pc' := 5) (i := 1) dX7_canBe_4 rfl rfl rfl ?_
  refine jr_callV (pc' := 8) (k := 3) (av := [.int x]) (st := []) sX2_isMan wmX7_154 dX7_canBe_5 rfl (by decide) rfl (by decide) rfl rfl rfl (Nat.le_of_ble_eq_true rfl) rfl (c_LdisMan (n := n + 1) x h ) (fun v h2 hp => ?_)
  rw [hp.1, hp.2]
  show jG E mX7_canBe (n + 2) X Post 8 [some (.ref 0), some (.int x), some (.int y), some (.int z)] [.int (f_LdisMan (h.1 3 3) x)] h
  by_cases c1 : (f_LdisMan (h.1 3 3) x) = 0
  · refine jr_if_eqT (pc' := 23) dX7_canBe_8 rfl c1 ?_
    refine jr_ldc (pc' := 25) (v := (-1000000001)) dX7_canBe_23 rfl wcX7_146 ?_
    exact jr_iret dX7_canBe_25 rfl rfl (k0 c1)
  · refine jr_if_eqF (pc' := 11) (tgt := 23) dX7_canBe_8 rfl rfl c1 ?_
    refine jr_aload_n (pc' := 12) (i := 0) dX7_canBe_11 rfl rfl rfl ?_
    refine jr_get (pc' := 15) jK7 (k := 0) (j := 1) (v := .ref 3) wfX7_19 dX7_canBe_12 rfl (by decide) rfl (by decide) rfl ?_
    refine jr_iload_n (pc' := 16) (i := 2) dX7_canBe_15 rfl rfl rfl ?_
    refine jr_iload_n (pc' := 17) (i := 3) dX7_canBe_16 rfl rfl rfl ?_
    refine jr_callV (pc' := 20) (k := 3) (av := [.int y, .int z]) (st := []) sX2_isCell wmX7_142 dX7_canBe_17 rfl (by decide) rfl (by decide) rfl rfl rfl (Nat.le_of_ble_eq_true rfl) rfl (c_LdisCell (n := n + 1) y z h ) (fun v h2 hp => ?_)
    rw [hp.1, hp.2]
    show jG E mX7_canBe (n + 2) X Post 20 [some (.ref 0), some (.int x), some (.int y), some (.int z)] [.int (f_LdisCell (h.1 3 0) (h.1 3 1) y z)] h
    by_cases c2 : (f_LdisCell (h.1 3 0) (h.1 3 1) y z) = 0
    · refine jr_if_neF (pc' := 23) (tgt := 26) dX7_canBe_20 rfl rfl c2 ?_
      refine jr_ldc (pc' := 25) (v := (-1000000001)) dX7_canBe_23 rfl wcX7_146 ?_
      exact jr_iret dX7_canBe_25 rfl rfl (k1 c1 c2)
    · refine jr_if_neT (pc' := 26) dX7_canBe_20 rfl c2 ?_
      refine jr_aload_n (pc' := 27) (i := 0) dX7_canBe_26 rfl rfl rfl ?_
      refine jr_get (pc' := 30) jK7 (k := 0) (j := 4) (v := .ref 24) wfX7_46 dX7_canBe_27 rfl (by decide) rfl (by decide) rfl ?_
      refine jr_callV (pc' := 33) (k := 24) (av := []) (st := []) sX4_takeAsItIs wmX7_200 dX7_canBe_30 rfl (by decide) rfl (by decide) rfl rfl rfl (Nat.le_of_ble_eq_true rfl) rfl (c_OltakeAsItIs (n := n)  h ) (fun v h2 hp => ?_)
      rw [hp.1, hp.2]
      show jG E mX7_canBe (n + 2) X Post 33 [some (.ref 0), some (.int x), some (.int y), some (.int z)] [] (jPL (jPA h 25 (va_cpy ((h.1 20)) ((h.1 25)) (0 : Int32).toNatClampNeg (0 : Int32).toNatClampNeg (4 : Int32).toNatClampNeg)) 24 3 (h.2 18 3))
      refine jr_aload_n (pc' := 34) (i := 0) dX7_canBe_33 rfl rfl rfl ?_
      refine jr_get (pc' := 37) jK7 (k := 0) (j := 4) (v := .ref 24) wfX7_46 dX7_canBe_34 rfl (by decide) rfl (by decide) rfl ?_
      refine jr_iload_n (pc' := 38) (i := 1) dX7_canBe_37 rfl rfl rfl ?_
      refine jr_aload_n (pc' := 39) (i := 0) dX7_canBe_38 rfl rfl rfl ?_
      refine jr_get (pc' := 42) jK7 (k := 0) (j := 1) (v := .ref 3) wfX7_19 dX7_canBe_39 rfl (by decide) rfl (by decide) rfl ?_
      refine jr_iload_n (pc' := 43) (i := 2) dX7_canBe_42 rfl rfl rfl ?_
      refine jr_iload_n (pc' := 44) (i := 3) dX7_canBe_43 rfl rfl rfl ?_
      refine jr_callV (pc' := 47) (k := 3) (av := [.int y, .int z]) (st := [.int x, .ref 24]) sX2_cellOf wmX7_147 dX7_canBe_44 rfl (by decide) rfl (by decide) rfl rfl rfl (Nat.le_of_ble_eq_true rfl) rfl (c_LdcellOf3 (n := n + 1) y z (jPL (jPA h 25 (va_cpy ((h.1 20)) ((h.1 25)) (0 : Int32).toNatClampNeg (0 : Int32).toNatClampNeg (4 : Int32).toNatClampNeg)) 24 3 (h.2 18 3)) ) (fun v h2 hp => ?_)
      rw [hp.1, hp.2]
      show jG E mX7_canBe (n + 2) X Post 47 [some (.ref 0), some (.int x), some (.int y), some (.int z)] [.int (f_LdcellOf3 (h.1 3 0) y z), .int x, .ref 24] (jPL (jPA h 25 (va_cpy ((h.1 20)) ((h.1 25)) (0 : Int32).toNatClampNeg (0 : Int32).toNatClampNeg (4 : Int32).toNatClampNeg)) 24 3 (h.2 18 3))
      obtain ⟨P1, hC1, hK1⟩ := k2 c1 c2
      exact jr_callV (pc' := 50) (k := 24) (av := [.int x, .int (f_LdcellOf3 (h.1 3 0) y z)]) (st := []) sX4_hoursToBe wmX7_203 dX7_canBe_47 rfl (by decide) rfl (by decide) rfl rfl rfl (Nat.le_of_ble_eq_true rfl) rfl hC1 (fun v h2 hp => jG.weak (lv' := [none, none, none, none]) trivial (hK1 v h2 hp))

theorem q_ShcanBe_50 {E : jEnv} {n : Nat} {X : State → Prop} {Post : Option Value → HP → Prop} (s0 : Int32) (h : HP)
    (k0 : Post (some (.int s0)) h)
    : jG E mX7_canBe (n + 2) X Post 50 [none, none, none, none] [.int s0] h := by
  exact jr_iret dX7_canBe_50 rfl rfl (k0)

theorem q_ShcanHear_0 {E : jEnv} {n : Nat} {X : State → Prop} {Post : Option Value → HP → Prop} (x : Int32) (y : Int32) (h : HP)
    (k0 : ((f_LdisMan (h.1 3 3) x) = 0) → Post (some (.int (-1000000001))) h)
    (k1 : (¬ (f_LdisMan (h.1 3 3) x) = 0) → ((f_LdisNews (h.1 3 4) y) = 0) → Post (some (.int (-1000000001))) h)
    (k2 : (¬ (f_LdisMan (h.1 3 3) x) = 0) → (¬ (f_LdisNews (h.1 3 4) y) = 0) → jCall E mX4_hoursToHear (n + 1) [.ref 24, .int x, .int y] (jPL (jPA h 25 (va_cpy ((h.1 20)) ((h.1 25)) (0 : Int32).toNatClampNeg (0 : Int32).toNatClampNeg (4 : Int32).toNatClampNeg)) 24 3 (h.2 18 3)) (fun v h2 => jG E mX7_canHear (n + 2) X Post 41 [none, none, none] (v.toList ++ []) h2))
    : jG E mX7_canHear (n + 2) X Post 0 [some (.ref 0), some (.int x), some (.int y)] [] h := by
  refine jr_aload_n (pc' := 1) (i := 0) dX7_canHear_0 rfl rfl rfl ?_
  refine jr_get (pc' := 4) jK7 (k := 0) (j := 1) (v := .ref 3) wfX7_19 dX7_canHear_1 rfl (by decide) rfl (by decide) rfl ?_
  refine jr_iload_n (pc' := 5) (i := 1) dX7_canHear_4 rfl rfl rfl ?_
  refine jr_callV (pc' := 8) (k := 3) (av := [.int x]) (st := []) sX2_isMan wmX7_154 dX7_canHear_5 rfl (by decide) rfl (by decide) rfl rfl rfl (Nat.le_of_ble_eq_true rfl) rfl (c_LdisMan (n := n + 1) x h ) (fun v h2 hp => ?_)
  rw [hp.1, hp.2]
  show jG E mX7_canHear (n + 2) X Post 8 [some (.ref 0), some (.int x), some (.int y)] [.int (f_LdisMan (h.1 3 3) x)] h
  by_cases c1 : (f_LdisMan (h.1 3 3) x) = 0
  · refine jr_if_eqT (pc' := 22) dX7_canHear_8 rfl c1 ?_
    refine jr_ldc (pc' := 24) (v := (-1000000001)) dX7_canHear_22 rfl wcX7_146 ?_
    exact jr_iret dX7_canHear_24 rfl rfl (k0 c1)
  · refine jr_if_eqF (pc' := 11) (tgt := 22) dX7_canHear_8 rfl rfl c1 ?_
    refine jr_aload_n (pc' := 12) (i := 0) dX7_canHear_11 rfl rfl rfl ?_
    refine jr_get (pc' := 15) jK7 (k := 0) (j := 1) (v := .ref 3) wfX7_19 dX7_canHear_12 rfl (by decide) rfl (by decide) rfl ?_
    refine jr_iload_n (pc' := 16) (i := 2) dX7_canHear_15 rfl rfl rfl ?_
    refine jr_callV (pc' := 19) (k := 3) (av := [.int y]) (st := []) sX2_isNews wmX7_206 dX7_canHear_16 rfl (by decide) rfl (by decide) rfl rfl rfl (Nat.le_of_ble_eq_true rfl) rfl (c_LdisNews (n := n + 1) y h ) (fun v h2 hp => ?_)
    rw [hp.1, hp.2]
    show jG E mX7_canHear (n + 2) X Post 19 [some (.ref 0), some (.int x), some (.int y)] [.int (f_LdisNews (h.1 3 4) y)] h
    by_cases c2 : (f_LdisNews (h.1 3 4) y) = 0
    · refine jr_if_neF (pc' := 22) (tgt := 25) dX7_canHear_19 rfl rfl c2 ?_
      refine jr_ldc (pc' := 24) (v := (-1000000001)) dX7_canHear_22 rfl wcX7_146 ?_
      exact jr_iret dX7_canHear_24 rfl rfl (k1 c1 c2)
    · refine jr_if_neT (pc' := 25) dX7_canHear_19 rfl c2 ?_
      refine jr_aload_n (pc' := 26) (i := 0) dX7_canHear_25 rfl rfl rfl ?_
      refine jr_get (pc' := 29) jK7 (k := 0) (j := 4) (v := .ref 24) wfX7_46 dX7_canHear_26 rfl (by decide) rfl (by decide) rfl ?_
      refine jr_callV (pc' := 32) (k := 24) (av := []) (st := []) sX4_takeAsItIs wmX7_200 dX7_canHear_29 rfl (by decide) rfl (by decide) rfl rfl rfl (Nat.le_of_ble_eq_true rfl) rfl (c_OltakeAsItIs (n := n)  h ) (fun v h2 hp => ?_)
      rw [hp.1, hp.2]
      show jG E mX7_canHear (n + 2) X Post 32 [some (.ref 0), some (.int x), some (.int y)] [] (jPL (jPA h 25 (va_cpy ((h.1 20)) ((h.1 25)) (0 : Int32).toNatClampNeg (0 : Int32).toNatClampNeg (4 : Int32).toNatClampNeg)) 24 3 (h.2 18 3))
      refine jr_aload_n (pc' := 33) (i := 0) dX7_canHear_32 rfl rfl rfl ?_
      refine jr_get (pc' := 36) jK7 (k := 0) (j := 4) (v := .ref 24) wfX7_46 dX7_canHear_33 rfl (by decide) rfl (by decide) rfl ?_
      refine jr_iload_n (pc' := 37) (i := 1) dX7_canHear_36 rfl rfl rfl ?_
      refine jr_iload_n (pc' := 38) (i := 2) dX7_canHear_37 rfl rfl rfl ?_
      obtain ⟨P1, hC1, hK1⟩ := k2 c1 c2
      exact jr_callV (pc' := 41) (k := 24) (av := [.int x, .int y]) (st := []) sX4_hoursToHear wmX7_209 dX7_canHear_38 rfl (by decide) rfl (by decide) rfl rfl rfl (Nat.le_of_ble_eq_true rfl) rfl hC1 (fun v h2 hp => jG.weak (lv' := [none, none, none]) trivial (hK1 v h2 hp))

theorem q_ShcanHear_41 {E : jEnv} {n : Nat} {X : State → Prop} {Post : Option Value → HP → Prop} (s0 : Int32) (h : HP)
    (k0 : Post (some (.int s0)) h)
    : jG E mX7_canHear (n + 2) X Post 41 [none, none, none] [.int s0] h := by
  exact jr_iret dX7_canHear_41 rfl rfl (k0)

theorem q_Shfirst_0 {E : jEnv} {n : Nat} {X : State → Prop} {Post : Option Value → HP → Prop} (x : Int32) (y : Int32) (h : HP)
    (k0 : ((f_LdisNews (h.1 3 4) x) = 0) → Post (some (.int (-1000000001))) h)
    (k1 : (¬ (f_LdisNews (h.1 3 4) x) = 0) → (y < 0) → Post (some (.int (-1000000002))) h)
    (k2 : (¬ (f_LdisNews (h.1 3 4) x) = 0) → (¬ y < 0) → (y ≤ 1) → jCall E mX4_hoursToCastle (n + 1) [.ref 24, .int x, .int 40] (jPL (jPA h 25 (va_cpy ((h.1 20)) ((h.1 25)) (0 : Int32).toNatClampNeg (0 : Int32).toNatClampNeg (4 : Int32).toNatClampNeg)) 24 3 (h.2 18 3)) (fun v h2 => jG E mX7_first (n + 2) X Post 43 [some (.ref 0), none, some (.int y), none] (v.toList ++ []) h2))
    (k3 : (¬ (f_LdisNews (h.1 3 4) x) = 0) → (¬ y < 0) → (¬ y ≤ 1) → Post (some (.int (-1000000002))) h)
    : jG E mX7_first (n + 2) X Post 0 [some (.ref 0), some (.int x), some (.int y), none] [] h := by
  refine jr_aload_n (pc' := 1) (i := 0) dX7_first_0 rfl rfl rfl ?_
  refine jr_get (pc' := 4) jK7 (k := 0) (j := 1) (v := .ref 3) wfX7_19 dX7_first_1 rfl (by decide) rfl (by decide) rfl ?_
  refine jr_iload_n (pc' := 5) (i := 1) dX7_first_4 rfl rfl rfl ?_
  refine jr_callV (pc' := 8) (k := 3) (av := [.int x]) (st := []) sX2_isNews wmX7_206 dX7_first_5 rfl (by decide) rfl (by decide) rfl rfl rfl (Nat.le_of_ble_eq_true rfl) rfl (c_LdisNews (n := n + 1) x h ) (fun v h2 hp => ?_)
  rw [hp.1, hp.2]
  show jG E mX7_first (n + 2) X Post 8 [some (.ref 0), some (.int x), some (.int y), none] [.int (f_LdisNews (h.1 3 4) x)] h
  by_cases c1 : (f_LdisNews (h.1 3 4) x) = 0
  · refine jr_if_neF (pc' := 11) (tgt := 14) dX7_first_8 rfl rfl c1 ?_
    refine jr_ldc (pc' := 13) (v := (-1000000001)) dX7_first_11 rfl wcX7_146 ?_
    exact jr_iret dX7_first_13 rfl rfl (k0 c1)
  · refine jr_if_neT (pc' := 14) dX7_first_8 rfl c1 ?_
    refine jr_iload_n (pc' := 15) (i := 2) dX7_first_14 rfl rfl rfl ?_
    by_cases c2 : y < 0
    · refine jr_if_ltT (pc' := 23) dX7_first_15 rfl c2 ?_
      refine jr_ldc (pc' := 25) (v := (-1000000002)) dX7_first_23 rfl wcX7_74 ?_
      exact jr_iret dX7_first_25 rfl rfl (k1 c1 c2)
    · refine jr_if_ltF (pc' := 18) (tgt := 23) dX7_first_15 rfl rfl c2 ?_
      refine jr_iload_n (pc' := 19) (i := 2) dX7_first_18 rfl rfl rfl ?_
      refine jr_iconst (pc' := 20) (v := 1) dX7_first_19 rfl (by decide) ?_
      by_cases c3 : y ≤ 1
      · refine jr_icmp_leT (pc' := 26) dX7_first_20 rfl c3 ?_
        refine jr_aload_n (pc' := 27) (i := 0) dX7_first_26 rfl rfl rfl ?_
        refine jr_get (pc' := 30) jK7 (k := 0) (j := 4) (v := .ref 24) wfX7_46 dX7_first_27 rfl (by decide) rfl (by decide) rfl ?_
        refine jr_callV (pc' := 33) (k := 24) (av := []) (st := []) sX4_takeAsItIs wmX7_200 dX7_first_30 rfl (by decide) rfl (by decide) rfl rfl rfl (Nat.le_of_ble_eq_true rfl) rfl (c_OltakeAsItIs (n := n)  h ) (fun v h2 hp => ?_)
        rw [hp.1, hp.2]
        show jG E mX7_first (n + 2) X Post 33 [some (.ref 0), some (.int x), some (.int y), none] [] (jPL (jPA h 25 (va_cpy ((h.1 20)) ((h.1 25)) (0 : Int32).toNatClampNeg (0 : Int32).toNatClampNeg (4 : Int32).toNatClampNeg)) 24 3 (h.2 18 3))
        refine jr_aload_n (pc' := 34) (i := 0) dX7_first_33 rfl rfl rfl ?_
        refine jr_get (pc' := 37) jK7 (k := 0) (j := 4) (v := .ref 24) wfX7_46 dX7_first_34 rfl (by decide) rfl (by decide) rfl ?_
        refine jr_iload_n (pc' := 38) (i := 1) dX7_first_37 rfl rfl rfl ?_
        refine jr_bipush (pc' := 40) (v := 40) dX7_first_38 rfl (by decide) ?_
        obtain ⟨P1, hC1, hK1⟩ := k2 c1 c2 c3
        exact jr_callV (pc' := 43) (k := 24) (av := [.int x, .int 40]) (st := []) sX4_hoursToCastle wmX7_212 dX7_first_40 rfl (by decide) rfl (by decide) rfl rfl rfl (Nat.le_of_ble_eq_true rfl) rfl hC1 (fun v h2 hp => jG.weak (lv' := [some (.ref 0), none, some (.int y), none]) ⟨rfl, rfl, trivial⟩ (hK1 v h2 hp))
      · refine jr_icmp_leF (pc' := 23) (tgt := 26) dX7_first_20 rfl rfl c3 ?_
        refine jr_ldc (pc' := 25) (v := (-1000000002)) dX7_first_23 rfl wcX7_74 ?_
        exact jr_iret dX7_first_25 rfl rfl (k3 c1 c2 c3)

theorem q_Shfirst_43 {E : jEnv} {n : Nat} {X : State → Prop} {Post : Option Value → HP → Prop} (a2 : Int32) (s0 : Int32) (h : HP)
    (k0 : (a2 = 0) → Post (some (.int s0)) h)
    (k1 : (¬ a2 = 0) → jCall E mX4_bearer (n + 1) [.ref 24] h (fun v h2 => jG E mX7_first (n + 2) X Post 59 [none, none, none, none] (v.toList ++ []) h2))
    : jG E mX7_first (n + 2) X Post 43 [some (.ref 0), none, some (.int a2), none] [.int s0] h := by
  refine jr_istore_n (pc' := 44) (i := 3) (lv' := [some (.ref 0), none, some (.int a2), some (.int s0)]) dX7_first_43 rfl rfl (by decide) rfl ?_
  refine jr_iload_n (pc' := 45) (i := 2) dX7_first_44 rfl rfl rfl ?_
  by_cases c1 : a2 = 0
  · refine jr_if_neF (pc' := 48) (tgt := 52) dX7_first_45 rfl rfl c1 ?_
    refine jr_iload_n (pc' := 49) (i := 3) dX7_first_48 rfl rfl rfl ?_
    refine jr_goto (pc' := 59) dX7_first_49 rfl ?_
    exact jr_iret dX7_first_59 rfl rfl (k0 c1)
  · refine jr_if_neT (pc' := 52) dX7_first_45 rfl c1 ?_
    refine jr_aload_n (pc' := 53) (i := 0) dX7_first_52 rfl rfl rfl ?_
    refine jr_get (pc' := 56) jK7 (k := 0) (j := 4) (v := .ref 24) wfX7_46 dX7_first_53 rfl (by decide) rfl (by decide) rfl ?_
    obtain ⟨P1, hC1, hK1⟩ := k1 c1
    exact jr_callV (pc' := 59) (k := 24) (av := []) (st := []) sX4_bearer wmX7_215 dX7_first_56 rfl (by decide) rfl (by decide) rfl rfl rfl (Nat.le_of_ble_eq_true rfl) rfl hC1 (fun v h2 hp => jG.weak (lv' := [none, none, none, none]) trivial (hK1 v h2 hp))

theorem q_Shfirst_59 {E : jEnv} {n : Nat} {X : State → Prop} {Post : Option Value → HP → Prop} (s0 : Int32) (h : HP)
    (k0 : Post (some (.int s0)) h)
    : jG E mX7_first (n + 2) X Post 59 [none, none, none, none] [.int s0] h := by
  exact jr_iret dX7_first_59 rfl rfl (k0)

set_option maxRecDepth 4000 in
theorem q_Shsawed_0 {E : jEnv} {n : Nat} {X : State → Prop} {Post : Option Value → HP → Prop} (x : Int32) (y : Int32) (z : Int32) (h : HP)
    (k0 : ((f_LdisNews (h.1 3 4) x) = 0) → Post (some (.int (-1000000001))) h)
    (k1 : (¬ (f_LdisNews (h.1 3 4) x) = 0) → (z = (-1)) → (y < 0) → Post (some (.int (-1000000002))) h)
    (k2 : (¬ (f_LdisNews (h.1 3 4) x) = 0) → (z = (-1)) → (¬ y < 0) → (y ≤ 20) → jCall E mX4_leastCuts n [.ref 24, .int x, .int y] h (fun v h2 => jG E mX7_sawed (n + 1) X Post 52 [some (.ref 0), none, none, some (.int z), none] (v.toList ++ []) h2))
    (k3 : (¬ (f_LdisNews (h.1 3 4) x) = 0) → (z = (-1)) → (¬ y < 0) → (¬ y ≤ 20) → Post (some (.int (-1000000002))) h)
    (k4 : (¬ (f_LdisNews (h.1 3 4) x) = 0) → (¬ z = (-1)) → ((f_LdisMan (h.1 3 3) z) = 0) → Post (some (.int (-1000000001))) h)
    (k5 : (¬ (f_LdisNews (h.1 3 4) x) = 0) → (¬ z = (-1)) → (¬ (f_LdisMan (h.1 3 3) z) = 0) → (y < 0) → Post (some (.int (-1000000002))) h)
    (k6 : (¬ (f_LdisNews (h.1 3 4) x) = 0) → (¬ z = (-1)) → (¬ (f_LdisMan (h.1 3 3) z) = 0) → (¬ y < 0) → (y ≤ 20) → jCall E mX4_leastCuts n [.ref 24, .int x, .int y] h (fun v h2 => jG E mX7_sawed (n + 1) X Post 52 [some (.ref 0), none, none, some (.int z), none] (v.toList ++ []) h2))
    (k7 : (¬ (f_LdisNews (h.1 3 4) x) = 0) → (¬ z = (-1)) → (¬ (f_LdisMan (h.1 3 3) z) = 0) → (¬ y < 0) → (¬ y ≤ 20) → Post (some (.int (-1000000002))) h)
    : jG E mX7_sawed (n + 1) X Post 0 [some (.ref 0), some (.int x), some (.int y), some (.int z), none] [] h := by
  refine jr_aload_n (pc' := 1) (i := 0) dX7_sawed_0 rfl rfl rfl ?_
  refine jr_get (pc' := 4) jK7 (k := 0) (j := 1) (v := .ref 3) wfX7_19 dX7_sawed_1 rfl (by decide) rfl (by decide) rfl ?_
  refine jr_iload_n (pc' := 5) (i := 1) dX7_sawed_4 rfl rfl rfl ?_
  refine jr_callV (pc' := 8) (k := 3) (av := [.int x]) (st := []) sX2_isNews wmX7_206 dX7_sawed_5 rfl (by decide) rfl (by decide) rfl rfl rfl (Nat.le_of_ble_eq_true rfl) rfl (c_LdisNews (n := n) x h ) (fun v h2 hp => ?_)
  rw [hp.1, hp.2]
  show jG E mX7_sawed (n + 1) X Post 8 [some (.ref 0), some (.int x), some (.int y), some (.int z), none] [.int (f_LdisNews (h.1 3 4) x)] h
  by_cases c1 : (f_LdisNews (h.1 3 4) x) = 0
  · refine jr_if_eqT (pc' := 27) dX7_sawed_8 rfl c1 ?_
    refine jr_ldc (pc' := 29) (v := (-1000000001)) dX7_sawed_27 rfl wcX7_146 ?_
    exact jr_iret dX7_sawed_29 rfl rfl (k0 c1)
  · refine jr_if_eqF (pc' := 11) (tgt := 27) dX7_sawed_8 rfl rfl c1 ?_
    refine jr_iload_n (pc' := 12) (i := 3) dX7_sawed_11 rfl rfl rfl ?_
    refine jr_iconst (pc' := 13) (v := (-1)) dX7_sawed_12 rfl (by decide) ?_
    by_cases c2 : z = (-1)
    · refine jr_icmp_eqT (pc' := 30) dX7_sawed_13 rfl c2 ?_
      refine jr_iload_n (pc' := 31) (i := 2) dX7_sawed_30 rfl rfl rfl ?_
      by_cases c3 : y < 0
      · refine jr_if_ltT (pc' := 40) dX7_sawed_31 rfl c3 ?_
        refine jr_ldc (pc' := 42) (v := (-1000000002)) dX7_sawed_40 rfl wcX7_74 ?_
        exact jr_iret dX7_sawed_42 rfl rfl (k1 c1 c2 c3)
      · refine jr_if_ltF (pc' := 34) (tgt := 40) dX7_sawed_31 rfl rfl c3 ?_
        refine jr_iload_n (pc' := 35) (i := 2) dX7_sawed_34 rfl rfl rfl ?_
        refine jr_bipush (pc' := 37) (v := 20) dX7_sawed_35 rfl (by decide) ?_
        by_cases c4 : y ≤ 20
        · refine jr_icmp_leT (pc' := 43) dX7_sawed_37 rfl c4 ?_
          refine jr_aload_n (pc' := 44) (i := 0) dX7_sawed_43 rfl rfl rfl ?_
          refine jr_get (pc' := 47) jK7 (k := 0) (j := 4) (v := .ref 24) wfX7_46 dX7_sawed_44 rfl (by decide) rfl (by decide) rfl ?_
          refine jr_iload_n (pc' := 48) (i := 1) dX7_sawed_47 rfl rfl rfl ?_
          refine jr_iload_n (pc' := 49) (i := 2) dX7_sawed_48 rfl rfl rfl ?_
          obtain ⟨P1, hC1, hK1⟩ := k2 c1 c2 c3 c4
          exact jr_callV (pc' := 52) (k := 24) (av := [.int x, .int y]) (st := []) sX4_leastCuts wmX7_218 dX7_sawed_49 rfl (by decide) rfl (by decide) rfl rfl rfl (Nat.le_of_ble_eq_true rfl) rfl hC1 (fun v h2 hp => jG.weak (lv' := [some (.ref 0), none, none, some (.int z), none]) ⟨rfl, rfl, trivial⟩ (hK1 v h2 hp))
        · refine jr_icmp_leF (pc' := 40) (tgt := 43) dX7_sawed_37 rfl rfl c4 ?_
          refine jr_ldc (pc' := 42) (v := (-1000000002)) dX7_sawed_40 rfl wcX7_74 ?_
          exact jr_iret dX7_sawed_42 rfl rfl (k3 c1 c2 c3 c4)
    · refine jr_icmp_eqF (pc' := 16) (tgt := 30) dX7_sawed_13 rfl rfl c2 ?_
      refine jr_aload_n (pc' := 17) (i := 0) dX7_sawed_16 rfl rfl rfl ?_
      refine jr_get (pc' := 20) jK7 (k := 0) (j := 1) (v := .ref 3) wfX7_19 dX7_sawed_17 rfl (by decide) rfl (by decide) rfl ?_
      refine jr_iload_n (pc' := 21) (i := 3) dX7_sawed_20 rfl rfl rfl ?_
      refine jr_callV (pc' := 24) (k := 3) (av := [.int z]) (st := []) sX2_isMan wmX7_154 dX7_sawed_21 rfl (by decide) rfl (by decide) rfl rfl rfl (Nat.le_of_ble_eq_true rfl) rfl (c_LdisMan (n := n) z h ) (fun v h2 hp => ?_)
      rw [hp.1, hp.2]
      show jG E mX7_sawed (n + 1) X Post 24 [some (.ref 0), some (.int x), some (.int y), some (.int z), none] [.int (f_LdisMan (h.1 3 3) z)] h
      by_cases c5 : (f_LdisMan (h.1 3 3) z) = 0
      · refine jr_if_neF (pc' := 27) (tgt := 30) dX7_sawed_24 rfl rfl c5 ?_
        refine jr_ldc (pc' := 29) (v := (-1000000001)) dX7_sawed_27 rfl wcX7_146 ?_
        exact jr_iret dX7_sawed_29 rfl rfl (k4 c1 c2 c5)
      · refine jr_if_neT (pc' := 30) dX7_sawed_24 rfl c5 ?_
        refine jr_iload_n (pc' := 31) (i := 2) dX7_sawed_30 rfl rfl rfl ?_
        by_cases c6 : y < 0
        · refine jr_if_ltT (pc' := 40) dX7_sawed_31 rfl c6 ?_
          refine jr_ldc (pc' := 42) (v := (-1000000002)) dX7_sawed_40 rfl wcX7_74 ?_
          exact jr_iret dX7_sawed_42 rfl rfl (k5 c1 c2 c5 c6)
        · refine jr_if_ltF (pc' := 34) (tgt := 40) dX7_sawed_31 rfl rfl c6 ?_
          refine jr_iload_n (pc' := 35) (i := 2) dX7_sawed_34 rfl rfl rfl ?_
          refine jr_bipush (pc' := 37) (v := 20) dX7_sawed_35 rfl (by decide) ?_
          by_cases c7 : y ≤ 20
          · refine jr_icmp_leT (pc' := 43) dX7_sawed_37 rfl c7 ?_
            refine jr_aload_n (pc' := 44) (i := 0) dX7_sawed_43 rfl rfl rfl ?_
            refine jr_get (pc' := 47) jK7 (k := 0) (j := 4) (v := .ref 24) wfX7_46 dX7_sawed_44 rfl (by decide) rfl (by decide) rfl ?_
            refine jr_iload_n (pc' := 48) (i := 1) dX7_sawed_47 rfl rfl rfl ?_
            refine jr_iload_n (pc' := 49) (i := 2) dX7_sawed_48 rfl rfl rfl ?_
            obtain ⟨P1, hC1, hK1⟩ := k6 c1 c2 c5 c6 c7
            exact jr_callV (pc' := 52) (k := 24) (av := [.int x, .int y]) (st := []) sX4_leastCuts wmX7_218 dX7_sawed_49 rfl (by decide) rfl (by decide) rfl rfl rfl (Nat.le_of_ble_eq_true rfl) rfl hC1 (fun v h2 hp => jG.weak (lv' := [some (.ref 0), none, none, some (.int z), none]) ⟨rfl, rfl, trivial⟩ (hK1 v h2 hp))
          · refine jr_icmp_leF (pc' := 40) (tgt := 43) dX7_sawed_37 rfl rfl c7 ?_
            refine jr_ldc (pc' := 42) (v := (-1000000002)) dX7_sawed_40 rfl wcX7_74 ?_
            exact jr_iret dX7_sawed_42 rfl rfl (k7 c1 c2 c5 c6 c7)

theorem q_Shsawed_52 {E : jEnv} {n : Nat} {X : State → Prop} {Post : Option Value → HP → Prop} (a3 : Int32) (s0 : Int32) (h : HP)
    (k0 : (s0 = (-1)) → Post (some (.int s0)) h)
    (k1 : (¬ s0 = (-1)) → (a3 = (-1)) → Post (some (.int s0)) h)
    (b0 : (¬ s0 = (-1)) → (¬ a3 = (-1)) → vp_in a3 4)
    (k2 : (¬ s0 = (-1)) → (¬ a3 = (-1)) → Post (some (.int (h.1 29 a3.toNatClampNeg))) h)
    : jG E mX7_sawed (n + 1) X Post 52 [some (.ref 0), none, none, some (.int a3), none] [.int s0] h := by
  refine jr_istore (pc' := 54) (i := 4) (lv' := [some (.ref 0), none, none, some (.int a3), some (.int s0)]) dX7_sawed_52 rfl (by decide) rfl ?_
  refine jr_iload (pc' := 56) (i := 4) dX7_sawed_54 rfl rfl ?_
  refine jr_iconst (pc' := 57) (v := (-1)) dX7_sawed_56 rfl (by decide) ?_
  by_cases c1 : s0 = (-1)
  · refine jr_icmp_eqT (pc' := 65) dX7_sawed_57 rfl c1 ?_
    refine jr_iload (pc' := 67) (i := 4) dX7_sawed_65 rfl rfl ?_
    exact jr_iret dX7_sawed_67 rfl rfl (k0 c1)
  · refine jr_icmp_eqF (pc' := 60) (tgt := 65) dX7_sawed_57 rfl rfl c1 ?_
    refine jr_iload_n (pc' := 61) (i := 3) dX7_sawed_60 rfl rfl rfl ?_
    refine jr_iconst (pc' := 62) (v := (-1)) dX7_sawed_61 rfl (by decide) ?_
    by_cases c2 : a3 = (-1)
    · refine jr_icmp_neF (pc' := 65) (tgt := 68) dX7_sawed_62 rfl rfl c2 ?_
      refine jr_iload (pc' := 67) (i := 4) dX7_sawed_65 rfl rfl ?_
      exact jr_iret dX7_sawed_67 rfl rfl (k1 c1 c2)
    · refine jr_icmp_neT (pc' := 68) dX7_sawed_62 rfl c2 ?_
      refine jr_aload_n (pc' := 69) (i := 0) dX7_sawed_68 rfl rfl rfl ?_
      refine jr_get (pc' := 72) jK7 (k := 0) (j := 4) (v := .ref 24) wfX7_46 dX7_sawed_69 rfl (by decide) rfl (by decide) rfl ?_
      refine jr_get (pc' := 75) jK4 (k := 24) (j := 7) (v := .ref 29) wfX7_221 dX7_sawed_72 rfl (by decide) rfl (by decide) rfl ?_
      refine jr_iload_n (pc' := 76) (i := 3) dX7_sawed_75 rfl rfl rfl ?_
      refine jr_iald (pc' := 77) (v := h.1 29 a3.toNatClampNeg) dX7_sawed_76 rfl (by decide) rfl (b0 c1 c2) rfl ?_
      exact jr_iret dX7_sawed_77 rfl rfl (k2 c1 c2)

theorem q_ShbestStake_0 {E : jEnv} {n : Nat} {X : State → Prop} {Post : Option Value → HP → Prop} (x : Int32) (y : Int32) (h : HP)
    (k0 : ((f_LdisNews (h.1 3 4) x) = 0) → Post (some (.int (-1000000001))) h)
    (k1 : (¬ (f_LdisNews (h.1 3 4) x) = 0) → (y < 0) → Post (some (.int (-1000000002))) h)
    (k2 : (¬ (f_LdisNews (h.1 3 4) x) = 0) → (¬ y < 0) → (y ≤ 1) → ((f_Ldcells (h.1 3 0) (h.1 3 1)) = 0) → Post (some (.int (-1000000003))) h)
    (k3 : (¬ (f_LdisNews (h.1 3 4) x) = 0) → (¬ y < 0) → (y ≤ 1) → (¬ (f_Ldcells (h.1 3 0) (h.1 3 1)) = 0) → jCall E mX4_findBestStake (n + 1) [.ref 24, .int x] h (fun v h2 => jG E mX7_bestStake (n + 2) X Post 47 [some (.ref 0), none, some (.int y)] (v.toList ++ []) h2))
    (k4 : (¬ (f_LdisNews (h.1 3 4) x) = 0) → (¬ y < 0) → (¬ y ≤ 1) → Post (some (.int (-1000000002))) h)
    : jG E mX7_bestStake (n + 2) X Post 0 [some (.ref 0), some (.int x), some (.int y)] [] h := by
  refine jr_aload_n (pc' := 1) (i := 0) dX7_bestStake_0 rfl rfl rfl ?_
  refine jr_get (pc' := 4) jK7 (k := 0) (j := 1) (v := .ref 3) wfX7_19 dX7_bestStake_1 rfl (by decide) rfl (by decide) rfl ?_
  refine jr_iload_n (pc' := 5) (i := 1) dX7_bestStake_4 rfl rfl rfl ?_
  refine jr_callV (pc' := 8) (k := 3) (av := [.int x]) (st := []) sX2_isNews wmX7_206 dX7_bestStake_5 rfl (by decide) rfl (by decide) rfl rfl rfl (Nat.le_of_ble_eq_true rfl) rfl (c_LdisNews (n := n + 1) x h ) (fun v h2 hp => ?_)
  rw [hp.1, hp.2]
  show jG E mX7_bestStake (n + 2) X Post 8 [some (.ref 0), some (.int x), some (.int y)] [.int (f_LdisNews (h.1 3 4) x)] h
  by_cases c1 : (f_LdisNews (h.1 3 4) x) = 0
  · refine jr_if_neF (pc' := 11) (tgt := 14) dX7_bestStake_8 rfl rfl c1 ?_
    refine jr_ldc (pc' := 13) (v := (-1000000001)) dX7_bestStake_11 rfl wcX7_146 ?_
    exact jr_iret dX7_bestStake_13 rfl rfl (k0 c1)
  · refine jr_if_neT (pc' := 14) dX7_bestStake_8 rfl c1 ?_
    refine jr_iload_n (pc' := 15) (i := 2) dX7_bestStake_14 rfl rfl rfl ?_
    by_cases c2 : y < 0
    · refine jr_if_ltT (pc' := 23) dX7_bestStake_15 rfl c2 ?_
      refine jr_ldc (pc' := 25) (v := (-1000000002)) dX7_bestStake_23 rfl wcX7_74 ?_
      exact jr_iret dX7_bestStake_25 rfl rfl (k1 c1 c2)
    · refine jr_if_ltF (pc' := 18) (tgt := 23) dX7_bestStake_15 rfl rfl c2 ?_
      refine jr_iload_n (pc' := 19) (i := 2) dX7_bestStake_18 rfl rfl rfl ?_
      refine jr_iconst (pc' := 20) (v := 1) dX7_bestStake_19 rfl (by decide) ?_
      by_cases c3 : y ≤ 1
      · refine jr_icmp_leT (pc' := 26) dX7_bestStake_20 rfl c3 ?_
        refine jr_aload_n (pc' := 27) (i := 0) dX7_bestStake_26 rfl rfl rfl ?_
        refine jr_get (pc' := 30) jK7 (k := 0) (j := 1) (v := .ref 3) wfX7_19 dX7_bestStake_27 rfl (by decide) rfl (by decide) rfl ?_
        refine jr_callV (pc' := 33) (k := 3) (av := []) (st := []) sX2_cells wmX7_106 dX7_bestStake_30 rfl (by decide) rfl (by decide) rfl rfl rfl (Nat.le_of_ble_eq_true rfl) rfl (c_Ldcells (n := n + 1)  h ) (fun v h2 hp => ?_)
        rw [hp.1, hp.2]
        show jG E mX7_bestStake (n + 2) X Post 33 [some (.ref 0), some (.int x), some (.int y)] [.int (f_Ldcells (h.1 3 0) (h.1 3 1))] h
        by_cases c4 : (f_Ldcells (h.1 3 0) (h.1 3 1)) = 0
        · refine jr_if_neF (pc' := 36) (tgt := 39) dX7_bestStake_33 rfl rfl c4 ?_
          refine jr_ldc (pc' := 38) (v := (-1000000003)) dX7_bestStake_36 rfl wcX7_224 ?_
          exact jr_iret dX7_bestStake_38 rfl rfl (k2 c1 c2 c3 c4)
        · refine jr_if_neT (pc' := 39) dX7_bestStake_33 rfl c4 ?_
          refine jr_aload_n (pc' := 40) (i := 0) dX7_bestStake_39 rfl rfl rfl ?_
          refine jr_get (pc' := 43) jK7 (k := 0) (j := 4) (v := .ref 24) wfX7_46 dX7_bestStake_40 rfl (by decide) rfl (by decide) rfl ?_
          refine jr_iload_n (pc' := 44) (i := 1) dX7_bestStake_43 rfl rfl rfl ?_
          obtain ⟨P1, hC1, hK1⟩ := k3 c1 c2 c3 c4
          exact jr_callV (pc' := 47) (k := 24) (av := [.int x]) (st := []) sX4_findBestStake wmX7_225 dX7_bestStake_44 rfl (by decide) rfl (by decide) rfl rfl rfl (Nat.le_of_ble_eq_true rfl) rfl hC1 (fun v h2 hp => jG.weak (lv' := [some (.ref 0), none, some (.int y)]) ⟨rfl, rfl, trivial⟩ (hK1 v h2 hp))
      · refine jr_icmp_leF (pc' := 23) (tgt := 26) dX7_bestStake_20 rfl rfl c3 ?_
        refine jr_ldc (pc' := 25) (v := (-1000000002)) dX7_bestStake_23 rfl wcX7_74 ?_
        exact jr_iret dX7_bestStake_25 rfl rfl (k4 c1 c2 c3)

theorem q_ShbestStake_47 {E : jEnv} {n : Nat} {X : State → Prop} {Post : Option Value → HP → Prop} (a2 : Int32) (h : HP)
    (k0 : ((h.1 24 9) = (-1)) → Post (some (.int (-1))) h)
    (k1 : (¬ (h.1 24 9) = (-1)) → (a2 = 0) → Post (some (.int (f_LdnameOf (h.1 3 0) (h.1 24 9)))) h)
    (k2 : (¬ (h.1 24 9) = (-1)) → (¬ a2 = 0) → Post (some (.int (h.1 24 10))) h)
    : jG E mX7_bestStake (n + 2) X Post 47 [some (.ref 0), none, some (.int a2)] [] h := by
  refine jr_aload_n (pc' := 48) (i := 0) dX7_bestStake_47 rfl rfl rfl ?_
  refine jr_get (pc' := 51) jK7 (k := 0) (j := 4) (v := .ref 24) wfX7_46 dX7_bestStake_48 rfl (by decide) rfl (by decide) rfl ?_
  refine jr_get (pc' := 54) jK4 (k := 24) (j := 9) (v := .int (h.1 24 9)) wfX7_229 dX7_bestStake_51 rfl (by decide) rfl (by decide) rfl ?_
  refine jr_iconst (pc' := 55) (v := (-1)) dX7_bestStake_54 rfl (by decide) ?_
  by_cases c1 : (h.1 24 9) = (-1)
  · refine jr_icmp_neF (pc' := 58) (tgt := 60) dX7_bestStake_55 rfl rfl c1 ?_
    refine jr_iconst (pc' := 59) (v := (-1)) dX7_bestStake_58 rfl (by decide) ?_
    exact jr_iret dX7_bestStake_59 rfl rfl (k0 c1)
  · refine jr_icmp_neT (pc' := 60) dX7_bestStake_55 rfl c1 ?_
    refine jr_iload_n (pc' := 61) (i := 2) dX7_bestStake_60 rfl rfl rfl ?_
    by_cases c2 : a2 = 0
    · refine jr_if_neF (pc' := 64) (tgt := 81) dX7_bestStake_61 rfl rfl c2 ?_
      refine jr_aload_n (pc' := 65) (i := 0) dX7_bestStake_64 rfl rfl rfl ?_
      refine jr_get (pc' := 68) jK7 (k := 0) (j := 1) (v := .ref 3) wfX7_19 dX7_bestStake_65 rfl (by decide) rfl (by decide) rfl ?_
      refine jr_aload_n (pc' := 69) (i := 0) dX7_bestStake_68 rfl rfl rfl ?_
      refine jr_get (pc' := 72) jK7 (k := 0) (j := 4) (v := .ref 24) wfX7_46 dX7_bestStake_69 rfl (by decide) rfl (by decide) rfl ?_
      refine jr_get (pc' := 75) jK4 (k := 24) (j := 9) (v := .int (h.1 24 9)) wfX7_229 dX7_bestStake_72 rfl (by decide) rfl (by decide) rfl ?_
      refine jr_callV (pc' := 78) (k := 3) (av := [.int (h.1 24 9)]) (st := []) sX2_nameOf wmX7_134 dX7_bestStake_75 rfl (by decide) rfl (by decide) rfl rfl rfl (Nat.le_of_ble_eq_true rfl) rfl (c_LdnameOf (n := n) (h.1 24 9) h ) (fun v h2 hp => ?_)
      rw [hp.1, hp.2]
      show jG E mX7_bestStake (n + 2) X Post 78 [some (.ref 0), none, some (.int a2)] [.int (f_LdnameOf (h.1 3 0) (h.1 24 9))] h
      refine jr_goto (pc' := 88) dX7_bestStake_78 rfl ?_
      exact jr_iret dX7_bestStake_88 rfl rfl (k1 c1 c2)
    · refine jr_if_neT (pc' := 81) dX7_bestStake_61 rfl c2 ?_
      refine jr_aload_n (pc' := 82) (i := 0) dX7_bestStake_81 rfl rfl rfl ?_
      refine jr_get (pc' := 85) jK7 (k := 0) (j := 4) (v := .ref 24) wfX7_46 dX7_bestStake_82 rfl (by decide) rfl (by decide) rfl ?_
      refine jr_get (pc' := 88) jK4 (k := 24) (j := 10) (v := .int (h.1 24 10)) wfX7_232 dX7_bestStake_85 rfl (by decide) rfl (by decide) rfl ?_
      exact jr_iret dX7_bestStake_88 rfl rfl (k2 c1 c2)

theorem q_Shinch_0 {E : jEnv} {n : Nat} {X : State → Prop} {Post : Option Value → HP → Prop} (x : Int32) (y : Int32) (h : HP)
    (k0 : ((f_LdisNews (h.1 3 4) x) = 0) → Post (some (.int (-1000000001))) h)
    (k1 : (¬ (f_LdisNews (h.1 3 4) x) = 0) → ((f_LdisMan (h.1 3 3) y) = 0) → Post (some (.int (-1000000001))) h)
    (k2 : (¬ (f_LdisNews (h.1 3 4) x) = 0) → (¬ (f_LdisMan (h.1 3 3) y) = 0) → jCall E mX4_worthOfInch n [.ref 24, .int x, .int y] h (fun v h2 => jG E mX7_inch (n + 1) X Post 34 [none, none, none] (v.toList ++ []) h2))
    : jG E mX7_inch (n + 1) X Post 0 [some (.ref 0), some (.int x), some (.int y)] [] h := by
  refine jr_aload_n (pc' := 1) (i := 0) dX7_inch_0 rfl rfl rfl ?_
  refine jr_get (pc' := 4) jK7 (k := 0) (j := 1) (v := .ref 3) wfX7_19 dX7_inch_1 rfl (by decide) rfl (by decide) rfl ?_
  refine jr_iload_n (pc' := 5) (i := 1) dX7_inch_4 rfl rfl rfl ?_
  refine jr_callV (pc' := 8) (k := 3) (av := [.int x]) (st := []) sX2_isNews wmX7_206 dX7_inch_5 rfl (by decide) rfl (by decide) rfl rfl rfl (Nat.le_of_ble_eq_true rfl) rfl (c_LdisNews (n := n) x h ) (fun v h2 hp => ?_)
  rw [hp.1, hp.2]
  show jG E mX7_inch (n + 1) X Post 8 [some (.ref 0), some (.int x), some (.int y)] [.int (f_LdisNews (h.1 3 4) x)] h
  by_cases c1 : (f_LdisNews (h.1 3 4) x) = 0
  · refine jr_if_eqT (pc' := 22) dX7_inch_8 rfl c1 ?_
    refine jr_ldc (pc' := 24) (v := (-1000000001)) dX7_inch_22 rfl wcX7_146 ?_
    exact jr_iret dX7_inch_24 rfl rfl (k0 c1)
  · refine jr_if_eqF (pc' := 11) (tgt := 22) dX7_inch_8 rfl rfl c1 ?_
    refine jr_aload_n (pc' := 12) (i := 0) dX7_inch_11 rfl rfl rfl ?_
    refine jr_get (pc' := 15) jK7 (k := 0) (j := 1) (v := .ref 3) wfX7_19 dX7_inch_12 rfl (by decide) rfl (by decide) rfl ?_
    refine jr_iload_n (pc' := 16) (i := 2) dX7_inch_15 rfl rfl rfl ?_
    refine jr_callV (pc' := 19) (k := 3) (av := [.int y]) (st := []) sX2_isMan wmX7_154 dX7_inch_16 rfl (by decide) rfl (by decide) rfl rfl rfl (Nat.le_of_ble_eq_true rfl) rfl (c_LdisMan (n := n) y h ) (fun v h2 hp => ?_)
    rw [hp.1, hp.2]
    show jG E mX7_inch (n + 1) X Post 19 [some (.ref 0), some (.int x), some (.int y)] [.int (f_LdisMan (h.1 3 3) y)] h
    by_cases c2 : (f_LdisMan (h.1 3 3) y) = 0
    · refine jr_if_neF (pc' := 22) (tgt := 25) dX7_inch_19 rfl rfl c2 ?_
      refine jr_ldc (pc' := 24) (v := (-1000000001)) dX7_inch_22 rfl wcX7_146 ?_
      exact jr_iret dX7_inch_24 rfl rfl (k1 c1 c2)
    · refine jr_if_neT (pc' := 25) dX7_inch_19 rfl c2 ?_
      refine jr_aload_n (pc' := 26) (i := 0) dX7_inch_25 rfl rfl rfl ?_
      refine jr_get (pc' := 29) jK7 (k := 0) (j := 4) (v := .ref 24) wfX7_46 dX7_inch_26 rfl (by decide) rfl (by decide) rfl ?_
      refine jr_iload_n (pc' := 30) (i := 1) dX7_inch_29 rfl rfl rfl ?_
      refine jr_iload_n (pc' := 31) (i := 2) dX7_inch_30 rfl rfl rfl ?_
      obtain ⟨P1, hC1, hK1⟩ := k2 c1 c2
      exact jr_callV (pc' := 34) (k := 24) (av := [.int x, .int y]) (st := []) sX4_worthOfInch wmX7_235 dX7_inch_31 rfl (by decide) rfl (by decide) rfl rfl rfl (Nat.le_of_ble_eq_true rfl) rfl hC1 (fun v h2 hp => jG.weak (lv' := [none, none, none]) trivial (hK1 v h2 hp))

theorem q_Shinch_34 {E : jEnv} {n : Nat} {X : State → Prop} {Post : Option Value → HP → Prop} (s0 : Int32) (h : HP)
    (k0 : Post (some (.int s0)) h)
    : jG E mX7_inch (n + 1) X Post 34 [none, none, none] [.int s0] h := by
  exact jr_iret dX7_inch_34 rfl rfl (k0)

theorem q_Shnobody_0 {E : jEnv} {n : Nat} {X : State → Prop} {Post : Option Value → HP → Prop} (x : Int32) (h : HP)
    (k0 : jCall E mX4_cellsOfOthers (n + 1) [.ref 24, .int (-1)] (jPL (jPA h 25 (va_cpy ((h.1 20)) ((h.1 25)) (0 : Int32).toNatClampNeg (0 : Int32).toNatClampNeg (4 : Int32).toNatClampNeg)) 24 3 (h.2 18 3)) (fun v h2 => jG E mX7_nobody (n + 2) X Post 22 [some (.ref 0), some (.int x), none, none] (v.toList ++ [.long (h.2 3 6)]) h2))
    : jG E mX7_nobody (n + 2) X Post 0 [some (.ref 0), some (.int x), none, none] [] h := by
  refine jr_aload_n (pc' := 1) (i := 0) dX7_nobody_0 rfl rfl rfl ?_
  refine jr_get (pc' := 4) jK7 (k := 0) (j := 4) (v := .ref 24) wfX7_46 dX7_nobody_1 rfl (by decide) rfl (by decide) rfl ?_
  refine jr_callV (pc' := 7) (k := 24) (av := []) (st := []) sX4_takeAsItIs wmX7_200 dX7_nobody_4 rfl (by decide) rfl (by decide) rfl rfl rfl (Nat.le_of_ble_eq_true rfl) rfl (c_OltakeAsItIs (n := n)  h ) (fun v h2 hp => ?_)
  rw [hp.1, hp.2]
  show jG E mX7_nobody (n + 2) X Post 7 [some (.ref 0), some (.int x), none, none] [] (jPL (jPA h 25 (va_cpy ((h.1 20)) ((h.1 25)) (0 : Int32).toNatClampNeg (0 : Int32).toNatClampNeg (4 : Int32).toNatClampNeg)) 24 3 (h.2 18 3))
  refine jr_aload_n (pc' := 8) (i := 0) dX7_nobody_7 rfl rfl rfl ?_
  refine jr_get (pc' := 11) jK7 (k := 0) (j := 1) (v := .ref 3) wfX7_19 dX7_nobody_8 rfl (by decide) rfl (by decide) rfl ?_
  refine jr_get (pc' := 14) jK2 (k := 3) (j := 6) (v := .long (h.2 3 6)) wfX7_238 dX7_nobody_11 rfl (by decide) rfl (by decide) rfl ?_
  refine jr_aload_n (pc' := 15) (i := 0) dX7_nobody_14 rfl rfl rfl ?_
  refine jr_get (pc' := 18) jK7 (k := 0) (j := 4) (v := .ref 24) wfX7_46 dX7_nobody_15 rfl (by decide) rfl (by decide) rfl ?_
  refine jr_iconst (pc' := 19) (v := (-1)) dX7_nobody_18 rfl (by decide) ?_
  obtain ⟨P1, hC1, hK1⟩ := k0
  exact jr_callV (pc' := 22) (k := 24) (av := [.int (-1)]) (st := [.long (h.2 3 6)]) sX4_cellsOfOthers wmX7_241 dX7_nobody_19 rfl (by decide) rfl (by decide) rfl rfl rfl (Nat.le_of_ble_eq_true rfl) rfl hC1 (fun v h2 hp => jG.weak (lv' := [some (.ref 0), some (.int x), none, none]) ⟨rfl, rfl, trivial⟩ (hK1 v h2 hp))

theorem q_Shnobody_22 {E : jEnv} {n : Nat} {X : State → Prop} {Post : Option Value → HP → Prop} (a1 : Int32) (t0 : Int64) (t1 : Int64) (h : HP)
    (k0 : (a1 = (-1)) → Post (some (.int (f_bitCount (t1 &&& (t0 ^^^ (-1)))))) h)
    (k1 : (¬ a1 = (-1)) → ((0 : Int32) ≤ a1) → jCall E mX2_nameOfNth (n + 1) [.ref 3, .long (t1 &&& (t0 ^^^ (-1))), .int a1] h (fun v h2 => jG E mX7_nobody (n + 2) X Post 55 [none, none, none, none] (v.toList ++ []) h2))
    (k2 : (¬ a1 = (-1)) → (¬ (0 : Int32) ≤ a1) → Post (some (.int (-1))) h)
    : jG E mX7_nobody (n + 2) X Post 22 [some (.ref 0), some (.int a1), none, none] [.long t0, .long t1] h := by
  refine jr_ldc2 (pc' := 25) (v := (-1)) dX7_nobody_22 rfl wcX7_198 ?_
  refine jr_lxor (pc' := 26)  dX7_nobody_25 rfl  ?_
  refine jr_land (pc' := 27)  dX7_nobody_26 rfl  ?_
  refine jr_lstore_n (pc' := 28) (i := 2) (lv' := [some (.ref 0), some (.int a1), some (.long (t1 &&& (t0 ^^^ (-1)))), none]) dX7_nobody_27 rfl rfl (by decide) rfl ?_
  refine jr_iload_n (pc' := 29) (i := 1) dX7_nobody_28 rfl rfl rfl ?_
  refine jr_iconst (pc' := 30) (v := (-1)) dX7_nobody_29 rfl (by decide) ?_
  by_cases c1 : a1 = (-1)
  · refine jr_icmp_neF (pc' := 33) (tgt := 38) dX7_nobody_30 rfl rfl c1 ?_
    refine jr_lload_n (pc' := 34) (i := 2) dX7_nobody_33 rfl rfl rfl ?_
    refine jr_callS (pc' := 37) (av := [.long (t1 &&& (t0 ^^^ (-1)))]) (st := []) sJ13_bitCount_95d88 wmX7_245 dX7_nobody_34 rfl rfl (Nat.le_of_ble_eq_true rfl) rfl (c_bitCount (n := n + 1) (t1 &&& (t0 ^^^ (-1))) h ) (fun v h2 hp => ?_)
    rw [hp.1, hp.2]
    show jG E mX7_nobody (n + 2) X Post 37 [some (.ref 0), some (.int a1), some (.long (t1 &&& (t0 ^^^ (-1)))), none] [.int (f_bitCount (t1 &&& (t0 ^^^ (-1))))] h
    exact jr_iret dX7_nobody_37 rfl rfl (k0 c1)
  · refine jr_icmp_neT (pc' := 38) dX7_nobody_30 rfl c1 ?_
    refine jr_iload_n (pc' := 39) (i := 1) dX7_nobody_38 rfl rfl rfl ?_
    by_cases c2 : (0 : Int32) ≤ a1
    · refine jr_if_geT (pc' := 46) dX7_nobody_39 rfl c2 ?_
      refine jr_aload_n (pc' := 47) (i := 0) dX7_nobody_46 rfl rfl rfl ?_
      refine jr_get (pc' := 50) jK7 (k := 0) (j := 1) (v := .ref 3) wfX7_19 dX7_nobody_47 rfl (by decide) rfl (by decide) rfl ?_
      refine jr_lload_n (pc' := 51) (i := 2) dX7_nobody_50 rfl rfl rfl ?_
      refine jr_iload_n (pc' := 52) (i := 1) dX7_nobody_51 rfl rfl rfl ?_
      obtain ⟨P1, hC1, hK1⟩ := k1 c1 c2
      exact jr_callV (pc' := 55) (k := 3) (av := [.long (t1 &&& (t0 ^^^ (-1))), .int a1]) (st := []) sX2_nameOfNth wmX7_251 dX7_nobody_52 rfl (by decide) rfl (by decide) rfl rfl rfl (Nat.le_of_ble_eq_true rfl) rfl hC1 (fun v h2 hp => jG.weak (lv' := [none, none, none, none]) trivial (hK1 v h2 hp))
    · refine jr_if_geF (pc' := 42) (tgt := 46) dX7_nobody_39 rfl rfl c2 ?_
      refine jr_iconst (pc' := 43) (v := (-1)) dX7_nobody_42 rfl (by decide) ?_
      refine jr_goto (pc' := 55) dX7_nobody_43 rfl ?_
      exact jr_iret dX7_nobody_55 rfl rfl (k2 c1 c2)

theorem q_Shnobody_55 {E : jEnv} {n : Nat} {X : State → Prop} {Post : Option Value → HP → Prop} (s0 : Int32) (h : HP)
    (k0 : Post (some (.int s0)) h)
    : jG E mX7_nobody (n + 2) X Post 55 [none, none, none, none] [.int s0] h := by
  exact jr_iret dX7_nobody_55 rfl rfl (k0)

theorem q_Shalone_0 {E : jEnv} {n : Nat} {X : State → Prop} {Post : Option Value → HP → Prop} (x : Int32) (h : HP)
    (k0 : ((f_LdisMan (h.1 3 3) x) = 0) → Post (some (.int (-1000000001))) h)
    (k1 : (¬ (f_LdisMan (h.1 3 3) x) = 0) → jCall E mX4_cellsOf (n + 1) [.ref 24, .int x] (jPL (jPA h 25 (va_cpy ((h.1 20)) ((h.1 25)) (0 : Int32).toNatClampNeg (0 : Int32).toNatClampNeg (4 : Int32).toNatClampNeg)) 24 3 (h.2 18 3)) (fun v h2 => jG E mX7_alone (n + 2) X Post 29 [some (.ref 0), some (.int x)] (v.toList ++ []) h2))
    : jG E mX7_alone (n + 2) X Post 0 [some (.ref 0), some (.int x)] [] h := by
  refine jr_aload_n (pc' := 1) (i := 0) dX7_alone_0 rfl rfl rfl ?_
  refine jr_get (pc' := 4) jK7 (k := 0) (j := 1) (v := .ref 3) wfX7_19 dX7_alone_1 rfl (by decide) rfl (by decide) rfl ?_
  refine jr_iload_n (pc' := 5) (i := 1) dX7_alone_4 rfl rfl rfl ?_
  refine jr_callV (pc' := 8) (k := 3) (av := [.int x]) (st := []) sX2_isMan wmX7_154 dX7_alone_5 rfl (by decide) rfl (by decide) rfl rfl rfl (Nat.le_of_ble_eq_true rfl) rfl (c_LdisMan (n := n + 1) x h ) (fun v h2 hp => ?_)
  rw [hp.1, hp.2]
  show jG E mX7_alone (n + 2) X Post 8 [some (.ref 0), some (.int x)] [.int (f_LdisMan (h.1 3 3) x)] h
  by_cases c1 : (f_LdisMan (h.1 3 3) x) = 0
  · refine jr_if_neF (pc' := 11) (tgt := 14) dX7_alone_8 rfl rfl c1 ?_
    refine jr_ldc (pc' := 13) (v := (-1000000001)) dX7_alone_11 rfl wcX7_146 ?_
    exact jr_iret dX7_alone_13 rfl rfl (k0 c1)
  · refine jr_if_neT (pc' := 14) dX7_alone_8 rfl c1 ?_
    refine jr_aload_n (pc' := 15) (i := 0) dX7_alone_14 rfl rfl rfl ?_
    refine jr_get (pc' := 18) jK7 (k := 0) (j := 4) (v := .ref 24) wfX7_46 dX7_alone_15 rfl (by decide) rfl (by decide) rfl ?_
    refine jr_callV (pc' := 21) (k := 24) (av := []) (st := []) sX4_takeAsItIs wmX7_200 dX7_alone_18 rfl (by decide) rfl (by decide) rfl rfl rfl (Nat.le_of_ble_eq_true rfl) rfl (c_OltakeAsItIs (n := n)  h ) (fun v h2 hp => ?_)
    rw [hp.1, hp.2]
    show jG E mX7_alone (n + 2) X Post 21 [some (.ref 0), some (.int x)] [] (jPL (jPA h 25 (va_cpy ((h.1 20)) ((h.1 25)) (0 : Int32).toNatClampNeg (0 : Int32).toNatClampNeg (4 : Int32).toNatClampNeg)) 24 3 (h.2 18 3))
    refine jr_aload_n (pc' := 22) (i := 0) dX7_alone_21 rfl rfl rfl ?_
    refine jr_get (pc' := 25) jK7 (k := 0) (j := 4) (v := .ref 24) wfX7_46 dX7_alone_22 rfl (by decide) rfl (by decide) rfl ?_
    refine jr_iload_n (pc' := 26) (i := 1) dX7_alone_25 rfl rfl rfl ?_
    obtain ⟨P1, hC1, hK1⟩ := k1 c1
    exact jr_callV (pc' := 29) (k := 24) (av := [.int x]) (st := []) sX4_cellsOf wmX7_255 dX7_alone_26 rfl (by decide) rfl (by decide) rfl rfl rfl (Nat.le_of_ble_eq_true rfl) rfl hC1 (fun v h2 hp => jG.weak (lv' := [some (.ref 0), some (.int x)]) ⟨rfl, rfl, trivial⟩ (hK1 v h2 hp))

theorem q_Shalone_29 {E : jEnv} {n : Nat} {X : State → Prop} {Post : Option Value → HP → Prop} (a1 : Int32) (t0 : Int64) (h : HP)
    (k0 : jCall E mX4_cellsOfOthers (n + 1) [.ref 24, .int a1] h (fun v h2 => jG E mX7_alone (n + 2) X Post 37 [none, none] (v.toList ++ [.long t0]) h2))
    : jG E mX7_alone (n + 2) X Post 29 [some (.ref 0), some (.int a1)] [.long t0] h := by
  refine jr_aload_n (pc' := 30) (i := 0) dX7_alone_29 rfl rfl rfl ?_
  refine jr_get (pc' := 33) jK7 (k := 0) (j := 4) (v := .ref 24) wfX7_46 dX7_alone_30 rfl (by decide) rfl (by decide) rfl ?_
  refine jr_iload_n (pc' := 34) (i := 1) dX7_alone_33 rfl rfl rfl ?_
  obtain ⟨P1, hC1, hK1⟩ := k0
  exact jr_callV (pc' := 37) (k := 24) (av := [.int a1]) (st := [.long t0]) sX4_cellsOfOthers wmX7_241 dX7_alone_34 rfl (by decide) rfl (by decide) rfl rfl rfl (Nat.le_of_ble_eq_true rfl) rfl hC1 (fun v h2 hp => jG.weak (lv' := [none, none]) trivial (hK1 v h2 hp))

theorem q_Shalone_37 {E : jEnv} {n : Nat} {X : State → Prop} {Post : Option Value → HP → Prop} (t0 : Int64) (t1 : Int64) (h : HP)
    (k0 : Post (some (.int (f_bitCount (t1 &&& (t0 ^^^ (-1)))))) h)
    : jG E mX7_alone (n + 2) X Post 37 [none, none] [.long t0, .long t1] h := by
  refine jr_ldc2 (pc' := 40) (v := (-1)) dX7_alone_37 rfl wcX7_198 ?_
  refine jr_lxor (pc' := 41)  dX7_alone_40 rfl  ?_
  refine jr_land (pc' := 42)  dX7_alone_41 rfl  ?_
  refine jr_callS (pc' := 45) (av := [.long (t1 &&& (t0 ^^^ (-1)))]) (st := []) sJ13_bitCount_95d88 wmX7_245 dX7_alone_42 rfl rfl (Nat.le_of_ble_eq_true rfl) rfl (c_bitCount (n := n + 1) (t1 &&& (t0 ^^^ (-1))) h ) (fun v h2 hp => ?_)
  rw [hp.1, hp.2]
  show jG E mX7_alone (n + 2) X Post 45 [none, none] [.int (f_bitCount (t1 &&& (t0 ^^^ (-1))))] h
  exact jr_iret dX7_alone_45 rfl rfl (k0)

theorem q_Shsee_0 {E : jEnv} {n : Nat} {X : State → Prop} {Post : Option Value → HP → Prop} (x : Int32) (y : Int32) (z : Int32) (h : HP)
    (k0 : ((f_LdisCell (h.1 3 0) (h.1 3 1) x y) = 0) → Post (some (.int (-1000000001))) h)
    (k1 : (¬ (f_LdisCell (h.1 3 0) (h.1 3 1) x y) = 0) → (z < 0) → Post (some (.int (-1000000002))) h)
    (k2 : (¬ (f_LdisCell (h.1 3 0) (h.1 3 1) x y) = 0) → (¬ z < 0) → (z ≤ 40) → ((h.1 30 3) < 20) → jCall E mX1_append n [.ref 30, .int (f_LdcellOf3 (h.1 3 0) x y), .int z] h (fun v h2 => jG E mX7_see (n + 1) X Post 60 [some (.ref 0), none, none, none] (v.toList ++ []) h2))
    (k3 : (¬ (f_LdisCell (h.1 3 0) (h.1 3 1) x y) = 0) → (¬ z < 0) → (z ≤ 40) → (¬ (h.1 30 3) < 20) → Post (some (.int (-1000000004))) h)
    (k4 : (¬ (f_LdisCell (h.1 3 0) (h.1 3 1) x y) = 0) → (¬ z < 0) → (¬ z ≤ 40) → Post (some (.int (-1000000002))) h)
    : jG E mX7_see (n + 1) X Post 0 [some (.ref 0), some (.int x), some (.int y), some (.int z)] [] h := by
  refine jr_aload_n (pc' := 1) (i := 0) dX7_see_0 rfl rfl rfl ?_
  refine jr_get (pc' := 4) jK7 (k := 0) (j := 1) (v := .ref 3) wfX7_19 dX7_see_1 rfl (by decide) rfl (by decide) rfl ?_
  refine jr_iload_n (pc' := 5) (i := 1) dX7_see_4 rfl rfl rfl ?_
  refine jr_iload_n (pc' := 6) (i := 2) dX7_see_5 rfl rfl rfl ?_
  refine jr_callV (pc' := 9) (k := 3) (av := [.int x, .int y]) (st := []) sX2_isCell wmX7_142 dX7_see_6 rfl (by decide) rfl (by decide) rfl rfl rfl (Nat.le_of_ble_eq_true rfl) rfl (c_LdisCell (n := n) x y h ) (fun v h2 hp => ?_)
  rw [hp.1, hp.2]
  show jG E mX7_see (n + 1) X Post 9 [some (.ref 0), some (.int x), some (.int y), some (.int z)] [.int (f_LdisCell (h.1 3 0) (h.1 3 1) x y)] h
  by_cases c1 : (f_LdisCell (h.1 3 0) (h.1 3 1) x y) = 0
  · refine jr_if_neF (pc' := 12) (tgt := 15) dX7_see_9 rfl rfl c1 ?_
    refine jr_ldc (pc' := 14) (v := (-1000000001)) dX7_see_12 rfl wcX7_146 ?_
    exact jr_iret dX7_see_14 rfl rfl (k0 c1)
  · refine jr_if_neT (pc' := 15) dX7_see_9 rfl c1 ?_
    refine jr_iload_n (pc' := 16) (i := 3) dX7_see_15 rfl rfl rfl ?_
    by_cases c2 : z < 0
    · refine jr_if_ltT (pc' := 25) dX7_see_16 rfl c2 ?_
      refine jr_ldc (pc' := 27) (v := (-1000000002)) dX7_see_25 rfl wcX7_74 ?_
      exact jr_iret dX7_see_27 rfl rfl (k1 c1 c2)
    · refine jr_if_ltF (pc' := 19) (tgt := 25) dX7_see_16 rfl rfl c2 ?_
      refine jr_iload_n (pc' := 20) (i := 3) dX7_see_19 rfl rfl rfl ?_
      refine jr_bipush (pc' := 22) (v := 40) dX7_see_20 rfl (by decide) ?_
      by_cases c3 : z ≤ 40
      · refine jr_icmp_leT (pc' := 28) dX7_see_22 rfl c3 ?_
        refine jr_aload_n (pc' := 29) (i := 0) dX7_see_28 rfl rfl rfl ?_
        refine jr_get (pc' := 32) jK7 (k := 0) (j := 5) (v := .ref 30) wfX7_53 dX7_see_29 rfl (by decide) rfl (by decide) rfl ?_
        refine jr_get (pc' := 35) jK1 (k := 30) (j := 3) (v := .int (h.1 30 3)) wfX7_138 dX7_see_32 rfl (by decide) rfl (by decide) rfl ?_
        refine jr_bipush (pc' := 37) (v := 20) dX7_see_35 rfl (by decide) ?_
        by_cases c4 : (h.1 30 3) < 20
        · refine jr_icmp_ltT (pc' := 43) dX7_see_37 rfl c4 ?_
          refine jr_aload_n (pc' := 44) (i := 0) dX7_see_43 rfl rfl rfl ?_
          refine jr_get (pc' := 47) jK7 (k := 0) (j := 5) (v := .ref 30) wfX7_53 dX7_see_44 rfl (by decide) rfl (by decide) rfl ?_
          refine jr_aload_n (pc' := 48) (i := 0) dX7_see_47 rfl rfl rfl ?_
          refine jr_get (pc' := 51) jK7 (k := 0) (j := 1) (v := .ref 3) wfX7_19 dX7_see_48 rfl (by decide) rfl (by decide) rfl ?_
          refine jr_iload_n (pc' := 52) (i := 1) dX7_see_51 rfl rfl rfl ?_
          refine jr_iload_n (pc' := 53) (i := 2) dX7_see_52 rfl rfl rfl ?_
          refine jr_callV (pc' := 56) (k := 3) (av := [.int x, .int y]) (st := [.ref 30]) sX2_cellOf wmX7_147 dX7_see_53 rfl (by decide) rfl (by decide) rfl rfl rfl (Nat.le_of_ble_eq_true rfl) rfl (c_LdcellOf3 (n := n) x y h ) (fun v h2 hp => ?_)
          rw [hp.1, hp.2]
          show jG E mX7_see (n + 1) X Post 56 [some (.ref 0), some (.int x), some (.int y), some (.int z)] [.int (f_LdcellOf3 (h.1 3 0) x y), .ref 30] h
          refine jr_iload_n (pc' := 57) (i := 3) dX7_see_56 rfl rfl rfl ?_
          obtain ⟨P1, hC1, hK1⟩ := k2 c1 c2 c3 c4
          exact jr_callV (pc' := 60) (k := 30) (av := [.int (f_LdcellOf3 (h.1 3 0) x y), .int z]) (st := []) sX1_append wmX7_261 dX7_see_57 rfl (by decide) rfl (by decide) rfl rfl rfl (Nat.le_of_ble_eq_true rfl) rfl hC1 (fun v h2 hp => jG.weak (lv' := [some (.ref 0), none, none, none]) ⟨rfl, trivial⟩ (hK1 v h2 hp))
        · refine jr_icmp_ltF (pc' := 40) (tgt := 43) dX7_see_37 rfl rfl c4 ?_
          refine jr_ldc (pc' := 42) (v := (-1000000004)) dX7_see_40 rfl wcX7_79 ?_
          exact jr_iret dX7_see_42 rfl rfl (k3 c1 c2 c3 c4)
      · refine jr_icmp_leF (pc' := 25) (tgt := 28) dX7_see_22 rfl rfl c3 ?_
        refine jr_ldc (pc' := 27) (v := (-1000000002)) dX7_see_25 rfl wcX7_74 ?_
        exact jr_iret dX7_see_27 rfl rfl (k4 c1 c2 c3)

theorem q_Shsee_60 {E : jEnv} {n : Nat} {X : State → Prop} {Post : Option Value → HP → Prop}  (h : HP)
    (k0 : Post (some (.int (h.1 30 3))) h)
    : jG E mX7_see (n + 1) X Post 60 [some (.ref 0), none, none, none] [] h := by
  refine jr_aload_n (pc' := 61) (i := 0) dX7_see_60 rfl rfl rfl ?_
  refine jr_get (pc' := 64) jK7 (k := 0) (j := 5) (v := .ref 30) wfX7_53 dX7_see_61 rfl (by decide) rfl (by decide) rfl ?_
  refine jr_get (pc' := 67) jK1 (k := 30) (j := 3) (v := .int (h.1 30 3)) wfX7_138 dX7_see_64 rfl (by decide) rfl (by decide) rfl ?_
  exact jr_iret dX7_see_67 rfl rfl (k0)

theorem q_Shfits_0 {E : jEnv} {n : Nat} {X : State → Prop} {Post : Option Value → HP → Prop}  (h : HP)
    (k0 : ((h.1 30 2) = (-1)) → Post (some (.int (-1000000003))) h)
    (k1 : (¬ (h.1 30 2) = (-1)) → jCall E mX1_lengthsThatFit n [.ref 30] h (fun v h2 => jG E mX7_fits (n + 1) X Post 23 [none] (v.toList ++ []) h2))
    : jG E mX7_fits (n + 1) X Post 0 [some (.ref 0)] [] h := by
  refine jr_aload_n (pc' := 1) (i := 0) dX7_fits_0 rfl rfl rfl ?_
  refine jr_get (pc' := 4) jK7 (k := 0) (j := 5) (v := .ref 30) wfX7_53 dX7_fits_1 rfl (by decide) rfl (by decide) rfl ?_
  refine jr_get (pc' := 7) jK1 (k := 30) (j := 2) (v := .int (h.1 30 2)) wfX7_264 dX7_fits_4 rfl (by decide) rfl (by decide) rfl ?_
  refine jr_iconst (pc' := 8) (v := (-1)) dX7_fits_7 rfl (by decide) ?_
  by_cases c1 : (h.1 30 2) = (-1)
  · refine jr_icmp_neF (pc' := 11) (tgt := 16) dX7_fits_8 rfl rfl c1 ?_
    refine jr_ldc (pc' := 13) (v := (-1000000003)) dX7_fits_11 rfl wcX7_224 ?_
    refine jr_goto (pc' := 23) dX7_fits_13 rfl ?_
    exact jr_iret dX7_fits_23 rfl rfl (k0 c1)
  · refine jr_icmp_neT (pc' := 16) dX7_fits_8 rfl c1 ?_
    refine jr_aload_n (pc' := 17) (i := 0) dX7_fits_16 rfl rfl rfl ?_
    refine jr_get (pc' := 20) jK7 (k := 0) (j := 5) (v := .ref 30) wfX7_53 dX7_fits_17 rfl (by decide) rfl (by decide) rfl ?_
    obtain ⟨P1, hC1, hK1⟩ := k1 c1
    exact jr_callV (pc' := 23) (k := 30) (av := []) (st := []) sX1_lengthsThatFit wmX7_266 dX7_fits_20 rfl (by decide) rfl (by decide) rfl rfl rfl (Nat.le_of_ble_eq_true rfl) rfl hC1 (fun v h2 hp => jG.weak (lv' := [none]) trivial (hK1 v h2 hp))

theorem q_Shfits_23 {E : jEnv} {n : Nat} {X : State → Prop} {Post : Option Value → HP → Prop} (s0 : Int32) (h : HP)
    (k0 : Post (some (.int s0)) h)
    : jG E mX7_fits (n + 1) X Post 23 [none] [.int s0] h := by
  exact jr_iret dX7_fits_23 rfl rfl (k0)

theorem q_Shwrite_0 {E : jEnv} {n : Nat} {X : State → Prop} {Post : Option Value → HP → Prop} (x : Int32) (y : Int32) (h : HP)
    (k0 : ((f_LdisMan (h.1 3 3) x) = 0) → Post (some (.int (-1000000001))) h)
    (k1 : (¬ (f_LdisMan (h.1 3 3) x) = 0) → ((f_ShisWay y) = 0) → Post (some (.int (-1000000002))) h)
    (k2 : (¬ (f_LdisMan (h.1 3 3) x) = 0) → (¬ (f_ShisWay y) = 0) → ((h.1 33 1) < 40) → jCall E mX0_append n [.ref 33, .int x, .int y] h (fun v h2 => jG E mX7_write (n + 1) X Post 48 [some (.ref 0), none, none] (v.toList ++ []) h2))
    (k3 : (¬ (f_LdisMan (h.1 3 3) x) = 0) → (¬ (f_ShisWay y) = 0) → (¬ (h.1 33 1) < 40) → Post (some (.int (-1000000004))) h)
    : jG E mX7_write (n + 1) X Post 0 [some (.ref 0), some (.int x), some (.int y)] [] h := by
  refine jr_aload_n (pc' := 1) (i := 0) dX7_write_0 rfl rfl rfl ?_
  refine jr_get (pc' := 4) jK7 (k := 0) (j := 1) (v := .ref 3) wfX7_19 dX7_write_1 rfl (by decide) rfl (by decide) rfl ?_
  refine jr_iload_n (pc' := 5) (i := 1) dX7_write_4 rfl rfl rfl ?_
  refine jr_callV (pc' := 8) (k := 3) (av := [.int x]) (st := []) sX2_isMan wmX7_154 dX7_write_5 rfl (by decide) rfl (by decide) rfl rfl rfl (Nat.le_of_ble_eq_true rfl) rfl (c_LdisMan (n := n) x h ) (fun v h2 hp => ?_)
  rw [hp.1, hp.2]
  show jG E mX7_write (n + 1) X Post 8 [some (.ref 0), some (.int x), some (.int y)] [.int (f_LdisMan (h.1 3 3) x)] h
  by_cases c1 : (f_LdisMan (h.1 3 3) x) = 0
  · refine jr_if_neF (pc' := 11) (tgt := 14) dX7_write_8 rfl rfl c1 ?_
    refine jr_ldc (pc' := 13) (v := (-1000000001)) dX7_write_11 rfl wcX7_146 ?_
    exact jr_iret dX7_write_13 rfl rfl (k0 c1)
  · refine jr_if_neT (pc' := 14) dX7_write_8 rfl c1 ?_
    refine jr_iload_n (pc' := 15) (i := 2) dX7_write_14 rfl rfl rfl ?_
    refine jr_callS (pc' := 18) (av := [.int y]) (st := []) sX7_isWay wmX7_183 dX7_write_15 rfl rfl (Nat.le_of_ble_eq_true rfl) rfl (c_ShisWay (n := n) y h ) (fun v h2 hp => ?_)
    rw [hp.1, hp.2]
    show jG E mX7_write (n + 1) X Post 18 [some (.ref 0), some (.int x), some (.int y)] [.int (f_ShisWay y)] h
    by_cases c2 : (f_ShisWay y) = 0
    · refine jr_if_neF (pc' := 21) (tgt := 24) dX7_write_18 rfl rfl c2 ?_
      refine jr_ldc (pc' := 23) (v := (-1000000002)) dX7_write_21 rfl wcX7_74 ?_
      exact jr_iret dX7_write_23 rfl rfl (k1 c1 c2)
    · refine jr_if_neT (pc' := 24) dX7_write_18 rfl c2 ?_
      refine jr_aload_n (pc' := 25) (i := 0) dX7_write_24 rfl rfl rfl ?_
      refine jr_get (pc' := 28) jK7 (k := 0) (j := 6) (v := .ref 33) wfX7_62 dX7_write_25 rfl (by decide) rfl (by decide) rfl ?_
      refine jr_get (pc' := 31) jK0 (k := 33) (j := 1) (v := .int (h.1 33 1)) wfX7_103 dX7_write_28 rfl (by decide) rfl (by decide) rfl ?_
      refine jr_bipush (pc' := 33) (v := 40) dX7_write_31 rfl (by decide) ?_
      by_cases c3 : (h.1 33 1) < 40
      · refine jr_icmp_ltT (pc' := 39) dX7_write_33 rfl c3 ?_
        refine jr_aload_n (pc' := 40) (i := 0) dX7_write_39 rfl rfl rfl ?_
        refine jr_get (pc' := 43) jK7 (k := 0) (j := 6) (v := .ref 33) wfX7_62 dX7_write_40 rfl (by decide) rfl (by decide) rfl ?_
        refine jr_iload_n (pc' := 44) (i := 1) dX7_write_43 rfl rfl rfl ?_
        refine jr_iload_n (pc' := 45) (i := 2) dX7_write_44 rfl rfl rfl ?_
        obtain ⟨P1, hC1, hK1⟩ := k2 c1 c2 c3
        exact jr_callV (pc' := 48) (k := 33) (av := [.int x, .int y]) (st := []) sX0_append wmX7_269 dX7_write_45 rfl (by decide) rfl (by decide) rfl rfl rfl (Nat.le_of_ble_eq_true rfl) rfl hC1 (fun v h2 hp => jG.weak (lv' := [some (.ref 0), none, none]) ⟨rfl, trivial⟩ (hK1 v h2 hp))
      · refine jr_icmp_ltF (pc' := 36) (tgt := 39) dX7_write_33 rfl rfl c3 ?_
        refine jr_ldc (pc' := 38) (v := (-1000000004)) dX7_write_36 rfl wcX7_79 ?_
        exact jr_iret dX7_write_38 rfl rfl (k3 c1 c2 c3)

theorem q_Shwrite_48 {E : jEnv} {n : Nat} {X : State → Prop} {Post : Option Value → HP → Prop}  (h : HP)
    (k0 : Post (some (.int (h.1 33 1))) h)
    : jG E mX7_write (n + 1) X Post 48 [some (.ref 0), none, none] [] h := by
  refine jr_aload_n (pc' := 49) (i := 0) dX7_write_48 rfl rfl rfl ?_
  refine jr_get (pc' := 52) jK7 (k := 0) (j := 6) (v := .ref 33) wfX7_62 dX7_write_49 rfl (by decide) rfl (by decide) rfl ?_
  refine jr_get (pc' := 55) jK0 (k := 33) (j := 1) (v := .int (h.1 33 1)) wfX7_103 dX7_write_52 rfl (by decide) rfl (by decide) rfl ?_
  exact jr_iret dX7_write_55 rfl rfl (k0)

theorem q_Shjudge_0 {E : jEnv} {n : Nat} {X : State → Prop} {Post : Option Value → HP → Prop}  (h : HP)
    (k0 : jCall E mX0_firstWrong n [.ref 33] h (fun v h2 => jG E mX7_judge (n + 1) X Post 7 [none] (v.toList ++ []) h2))
    : jG E mX7_judge (n + 1) X Post 0 [some (.ref 0)] [] h := by
  refine jr_aload_n (pc' := 1) (i := 0) dX7_judge_0 rfl rfl rfl ?_
  refine jr_get (pc' := 4) jK7 (k := 0) (j := 6) (v := .ref 33) wfX7_62 dX7_judge_1 rfl (by decide) rfl (by decide) rfl ?_
  obtain ⟨P1, hC1, hK1⟩ := k0
  exact jr_callV (pc' := 7) (k := 33) (av := []) (st := []) sX0_firstWrong wmX7_270 dX7_judge_4 rfl (by decide) rfl (by decide) rfl rfl rfl (Nat.le_of_ble_eq_true rfl) rfl hC1 (fun v h2 hp => jG.weak (lv' := [none]) trivial (hK1 v h2 hp))

theorem q_Shjudge_7 {E : jEnv} {n : Nat} {X : State → Prop} {Post : Option Value → HP → Prop} (s0 : Int32) (h : HP)
    (k0 : Post (some (.int s0)) h)
    : jG E mX7_judge (n + 1) X Post 7 [none] [.int s0] h := by
  exact jr_iret dX7_judge_7 rfl rfl (k0)

theorem q_Shkeep_o_0 {E : jEnv} {n : Nat} {X : State → Prop} {Post : Option Value → HP → Prop} (x : Int32) (h : HP)
    (k0 : ((f_ShisImage x) = 0) → Post (some (.int (-1000000001))) h)
    (k1 : (¬ (f_ShisImage x) = 0) → False)
    : jG E mX7_keep (n + 2) X Post 0 [some (.ref 0), some (.int x)] [] h := by
  refine jr_iload_n (pc' := 1) (i := 1) dX7_keep_0 rfl rfl rfl ?_
  refine jr_callS (pc' := 4) (av := [.int x]) (st := []) sX7_isImage wmX7_276 dX7_keep_1 rfl rfl (Nat.le_of_ble_eq_true rfl) rfl (c_ShisImage (n := n + 1) x h ) (fun v h2 hp => ?_)
  rw [hp.1, hp.2]
  show jG E mX7_keep (n + 2) X Post 4 [some (.ref 0), some (.int x)] [.int (f_ShisImage x)] h
  by_cases c1 : (f_ShisImage x) = 0
  · refine jr_if_neF (pc' := 7) (tgt := 10) dX7_keep_4 rfl rfl c1 ?_
    refine jr_ldc (pc' := 9) (v := (-1000000001)) dX7_keep_7 rfl wcX7_146 ?_
    exact jr_iret dX7_keep_9 rfl rfl (k0 c1)
  · refine jr_if_neT (pc' := 10) dX7_keep_4 rfl c1 ?_
    refine jr_aload_n (pc' := 11) (i := 0) dX7_keep_10 rfl rfl rfl ?_
    refine jr_get (pc' := 14) jK7 (k := 0) (j := 7) (v := .ref 38) wfX7_66 dX7_keep_11 rfl (by decide) rfl (by decide) rfl ?_
    refine jr_iload_n (pc' := 15) (i := 1) dX7_keep_14 rfl rfl rfl ?_
    exact (k1 c1).elim

theorem q_ShgoBack_o_0 {E : jEnv} {n : Nat} {X : State → Prop} {Post : Option Value → HP → Prop} (x : Int32) (h : HP)
    (k0 : ((f_ShisImage x) = 0) → Post (some (.int (-1000000001))) h)
    (b0 : (¬ (f_ShisImage x) = 0) → vp_in x 2)
    (k1 : (¬ (f_ShisImage x) = 0) → ((h.1 39 x.toNatClampNeg) = 0) → Post (some (.int (-1000000003))) h)
    (k2 : (¬ (f_ShisImage x) = 0) → (¬ (h.1 39 x.toNatClampNeg) = 0) → False)
    : jG E mX7_goBack (n + 2) X Post 0 [some (.ref 0), some (.int x)] [] h := by
  refine jr_iload_n (pc' := 1) (i := 1) dX7_goBack_0 rfl rfl rfl ?_
  refine jr_callS (pc' := 4) (av := [.int x]) (st := []) sX7_isImage wmX7_276 dX7_goBack_1 rfl rfl (Nat.le_of_ble_eq_true rfl) rfl (c_ShisImage (n := n + 1) x h ) (fun v h2 hp => ?_)
  rw [hp.1, hp.2]
  show jG E mX7_goBack (n + 2) X Post 4 [some (.ref 0), some (.int x)] [.int (f_ShisImage x)] h
  by_cases c1 : (f_ShisImage x) = 0
  · refine jr_if_neF (pc' := 7) (tgt := 10) dX7_goBack_4 rfl rfl c1 ?_
    refine jr_ldc (pc' := 9) (v := (-1000000001)) dX7_goBack_7 rfl wcX7_146 ?_
    exact jr_iret dX7_goBack_9 rfl rfl (k0 c1)
  · refine jr_if_neT (pc' := 10) dX7_goBack_4 rfl c1 ?_
    refine jr_aload_n (pc' := 11) (i := 0) dX7_goBack_10 rfl rfl rfl ?_
    refine jr_get (pc' := 14) jK7 (k := 0) (j := 8) (v := .ref 39) wfX7_70 dX7_goBack_11 rfl (by decide) rfl (by decide) rfl ?_
    refine jr_iload_n (pc' := 15) (i := 1) dX7_goBack_14 rfl rfl rfl ?_
    refine jr_zald (pc' := 16) (v := h.1 39 x.toNatClampNeg) dX7_goBack_15 rfl (by decide) rfl (b0 c1) rfl ?_
    by_cases c2 : (h.1 39 x.toNatClampNeg) = 0
    · refine jr_if_neF (pc' := 19) (tgt := 22) dX7_goBack_16 rfl rfl c2 ?_
      refine jr_ldc (pc' := 21) (v := (-1000000003)) dX7_goBack_19 rfl wcX7_224 ?_
      exact jr_iret dX7_goBack_21 rfl rfl (k1 c1 c2)
    · refine jr_if_neT (pc' := 22) dX7_goBack_16 rfl c2 ?_
      refine jr_aload_n (pc' := 23) (i := 0) dX7_goBack_22 rfl rfl rfl ?_
      refine jr_get (pc' := 26) jK7 (k := 0) (j := 3) (v := .ref 18) wfX7_37 dX7_goBack_23 rfl (by decide) rfl (by decide) rfl ?_
      refine jr_aload_n (pc' := 27) (i := 0) dX7_goBack_26 rfl rfl rfl ?_
      refine jr_get (pc' := 30) jK7 (k := 0) (j := 7) (v := .ref 38) wfX7_66 dX7_goBack_27 rfl (by decide) rfl (by decide) rfl ?_
      refine jr_iload_n (pc' := 31) (i := 1) dX7_goBack_30 rfl rfl rfl ?_
      exact (k2 c1 c2).elim

