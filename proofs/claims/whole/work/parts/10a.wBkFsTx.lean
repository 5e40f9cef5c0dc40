theorem q_Txappend_0 {E : jEnv} {n : Nat} {X : State → Prop} {Post : Option Value → HP → Prop} (x : Int32) (y : Int64) (h : HP)
    (k0 : jG E mX6_append n X Post 5 [some (.ref 1), none, some (.long y), none, some (.int (x - 1))] [] h)
    : jG E mX6_append n X Post 0 [some (.ref 1), some (.int x), some (.long y), none, none] [] h := by
  refine jr_iload_n (pc' := 1) (i := 1) dX6_append_0 rfl rfl rfl ?_
  refine jr_iconst (pc' := 2) (v := 1) dX6_append_1 rfl (by decide) ?_
  refine jr_isub (pc' := 3)  dX6_append_2 rfl  ?_
  refine jr_istore (pc' := 5) (i := 4) (lv' := [some (.ref 1), some (.int x), some (.long y), none, some (.int (x - 1))]) dX6_append_3 rfl (by decide) rfl ?_
  exact jG.weak (lv' := [some (.ref 1), none, some (.long y), none, some (.int (x - 1))]) ⟨rfl, rfl, rfl, trivial⟩ (k0)

theorem q_Txappend_5 {E : jEnv} {n : Nat} {X : State → Prop} {Post : Option Value → HP → Prop} (l2 : Int64) (a4 : Int32) (h : HP)
    (k0 : (a4 < 0) → Post none h)
    (k1 : (¬ a4 < 0) → ((500 : Int32) ≤ (h.1 1 1)) → Post none h)
    (b0 : (¬ a4 < 0) → (¬ (500 : Int32) ≤ (h.1 1 1)) → vp_in (h.1 1 1) 500)
    (k2 : (¬ a4 < 0) → (¬ (500 : Int32) ≤ (h.1 1 1)) → jG E mX6_append n X Post 5 [some (.ref 1), none, some (.long l2), none, some (.int (a4 + (-1)))] [] (jPI (jPI h 2 ((h.1 1 1).toNatClampNeg) (vp_nar .byte (((((Int64.toUInt64 l2) >>> (((8 * a4) : Int32).toInt64.toUInt64 &&& Int64.toUInt64 63)).toInt64).toInt32).toInt8.toInt32))) 1 1 ((h.1 1 1) + 1)))
    : jG E mX6_append n X Post 5 [some (.ref 1), none, some (.long l2), none, some (.int a4)] [] h := by
  refine jr_iload (pc' := 7) (i := 4) dX6_append_5 rfl rfl ?_
  by_cases c1 : a4 < 0
  · refine jr_if_ltT (pc' := 56) dX6_append_7 rfl c1 ?_
    exact jr_vret dX6_append_56 rfl (k0 c1)
  · refine jr_if_ltF (pc' := 10) (tgt := 56) dX6_append_7 rfl rfl c1 ?_
    refine jr_aload_n (pc' := 11) (i := 0) dX6_append_10 rfl rfl rfl ?_
    refine jr_get (pc' := 14) jK6 (k := 1) (j := 1) (v := .int (h.1 1 1)) wfX6_15 dX6_append_11 rfl (by decide) rfl (by decide) rfl ?_
    refine jr_aload_n (pc' := 15) (i := 0) dX6_append_14 rfl rfl rfl ?_
    refine jr_get (pc' := 18) jK6 (k := 1) (j := 0) (v := .ref 2) wfX6_9 dX6_append_15 rfl (by decide) rfl (by decide) rfl ?_
    refine jr_alen (pc' := 19) (v := 500) dX6_append_18 rfl (by decide) (by decide) (by decide) ?_
    by_cases c2 : (500 : Int32) ≤ (h.1 1 1)
    · refine jr_icmp_geT (pc' := 56) dX6_append_19 rfl c2 ?_
      exact jr_vret dX6_append_56 rfl (k1 c1 c2)
    · refine jr_icmp_geF (pc' := 22) (tgt := 56) dX6_append_19 rfl rfl c2 ?_
      refine jr_aload_n (pc' := 23) (i := 0) dX6_append_22 rfl rfl rfl ?_
      refine jr_get (pc' := 26) jK6 (k := 1) (j := 0) (v := .ref 2) wfX6_9 dX6_append_23 rfl (by decide) rfl (by decide) rfl ?_
      refine jr_aload_n (pc' := 27) (i := 0) dX6_append_26 rfl rfl rfl ?_
      refine jr_get (pc' := 30) jK6 (k := 1) (j := 1) (v := .int (h.1 1 1)) wfX6_15 dX6_append_27 rfl (by decide) rfl (by decide) rfl ?_
      refine jr_lload_n (pc' := 31) (i := 2) dX6_append_30 rfl rfl rfl ?_
      refine jr_bipush (pc' := 33) (v := 8) dX6_append_31 rfl (by decide) ?_
      refine jr_iload (pc' := 35) (i := 4) dX6_append_33 rfl rfl ?_
      refine jr_imul (pc' := 36)  dX6_append_35 rfl  ?_
      refine jr_lushr (pc' := 37)  dX6_append_36 rfl  ?_
      refine jr_l2i (pc' := 38)  dX6_append_37 rfl  ?_
      refine jr_i2b (pc' := 39)  dX6_append_38 rfl  ?_
      refine jr_bast (pc' := 40) (j := (h.1 1 1).toNatClampNeg) dX6_append_39 rfl (by decide) rfl (b0 c1 c2) rfl ?_
      refine jr_aload_n (pc' := 41) (i := 0) dX6_append_40 rfl rfl rfl ?_
      refine jr_dup (pc' := 42)  dX6_append_41 rfl rfl ?_
      refine jr_get (pc' := 45) jK6 (k := 1) (j := 1) (v := .int (h.1 1 1)) wfX6_15 dX6_append_42 rfl (by decide) rfl (by decide) rfl ?_
      refine jr_iconst (pc' := 46) (v := 1) dX6_append_45 rfl (by decide) ?_
      refine jr_iadd (pc' := 47)  dX6_append_46 rfl  ?_
      refine jr_putI (pc' := 50) jK6 (k := 1) (j := 1) wfX6_15 dX6_append_47 rfl (by decide) rfl (by decide) (by decide) rfl rfl rfl ?_
      refine jr_iinc (pc' := 53) (i := 4) (v := (a4 + (-1))) (lv' := [some (.ref 1), none, some (.long l2), none, some (.int (a4 + (-1)))]) dX6_append_50 rfl rfl (congrArg (a4 + ·) (by decide)) (by decide) rfl ?_
      refine jr_goto (pc' := 5) dX6_append_53 rfl ?_
      exact jG.weak (lv' := [some (.ref 1), none, some (.long l2), none, some (.int (a4 + (-1)))]) ⟨rfl, rfl, rfl, trivial⟩ (k2 c1 c2)

theorem q_FslengthsThatFit_0 {E : jEnv} {n : Nat} {X : State → Prop} {Post : Option Value → HP → Prop}  (h : HP)
    (k0 : jG E mX1_lengthsThatFit (n + 1) X Post 4 [some (.ref 30), some (.int 0), some (.int 0)] [] h)
    : jG E mX1_lengthsThatFit (n + 1) X Post 0 [some (.ref 30), none, none] [] h := by
  refine jr_iconst (pc' := 1) (v := 0) dX1_lengthsThatFit_0 rfl (by decide) ?_
  refine jr_istore_n (pc' := 2) (i := 1) (lv' := [some (.ref 30), some (.int 0), none]) dX1_lengthsThatFit_1 rfl rfl (by decide) rfl ?_
  refine jr_iconst (pc' := 3) (v := 0) dX1_lengthsThatFit_2 rfl (by decide) ?_
  refine jr_istore_n (pc' := 4) (i := 2) (lv' := [some (.ref 30), some (.int 0), some (.int 0)]) dX1_lengthsThatFit_3 rfl rfl (by decide) rfl ?_
  exact jG.weak (lv' := [some (.ref 30), some (.int 0), some (.int 0)]) ⟨rfl, rfl, rfl, trivial⟩ (k0)

theorem q_FslengthsThatFit_4 {E : jEnv} {n : Nat} {X : State → Prop} {Post : Option Value → HP → Prop} (a1 : Int32) (a2 : Int32) (h : HP)
    (k0 : ((6 : Int32) < a2) → Post (some (.int a1)) h)
    (k1 : (¬ (6 : Int32) < a2) → jCall E mX1_canBeAll n [.ref 30, .int a2] h (fun v h2 => jG E mX1_lengthsThatFit (n + 1) X Post 16 [some (.ref 30), none, some (.int a2)] (v.toList ++ [.int a1]) h2))
    : jG E mX1_lengthsThatFit (n + 1) X Post 4 [some (.ref 30), some (.int a1), some (.int a2)] [] h := by
  refine jr_iload_n (pc' := 5) (i := 2) dX1_lengthsThatFit_4 rfl rfl rfl ?_
  refine jr_bipush (pc' := 7) (v := 6) dX1_lengthsThatFit_5 rfl (by decide) ?_
  by_cases c1 : (6 : Int32) < a2
  · refine jr_icmp_gtT (pc' := 34) dX1_lengthsThatFit_7 rfl c1 ?_
    refine jr_iload_n (pc' := 35) (i := 1) dX1_lengthsThatFit_34 rfl rfl rfl ?_
    exact jr_iret dX1_lengthsThatFit_35 rfl rfl (k0 c1)
  · refine jr_icmp_gtF (pc' := 10) (tgt := 34) dX1_lengthsThatFit_7 rfl rfl c1 ?_
    refine jr_iload_n (pc' := 11) (i := 1) dX1_lengthsThatFit_10 rfl rfl rfl ?_
    refine jr_aload_n (pc' := 12) (i := 0) dX1_lengthsThatFit_11 rfl rfl rfl ?_
    refine jr_iload_n (pc' := 13) (i := 2) dX1_lengthsThatFit_12 rfl rfl rfl ?_
    obtain ⟨P1, hC1, hK1⟩ := k1 c1
    exact jr_callV (pc' := 16) (k := 30) (av := [.int a2]) (st := [.int a1]) sX1_canBeAll wmX1_33 dX1_lengthsThatFit_13 rfl (by decide) rfl (by decide) rfl rfl rfl (Nat.le_of_ble_eq_true rfl) rfl hC1 (fun v h2 hp => jG.weak (lv' := [some (.ref 30), none, some (.int a2)]) ⟨rfl, rfl, trivial⟩ (hK1 v h2 hp))

theorem q_FslengthsThatFit_16 {E : jEnv} {n : Nat} {X : State → Prop} {Post : Option Value → HP → Prop} (a2 : Int32) (s0 : Int32) (s1 : Int32) (h : HP)
    (k0 : (s0 = 0) → jG E mX1_lengthsThatFit (n + 1) X Post 4 [some (.ref 30), some (.int (s1 ||| 0)), some (.int (a2 + 1))] [] h)
    (k1 : (¬ s0 = 0) → jG E mX1_lengthsThatFit (n + 1) X Post 4 [some (.ref 30), some (.int (s1 ||| (1 <<< (a2 &&& 31)))), some (.int (a2 + 1))] [] h)
    : jG E mX1_lengthsThatFit (n + 1) X Post 16 [some (.ref 30), none, some (.int a2)] [.int s0, .int s1] h := by
  by_cases c1 : s0 = 0
  · refine jr_if_eqT (pc' := 25) dX1_lengthsThatFit_16 rfl c1 ?_
    refine jr_iconst (pc' := 26) (v := 0) dX1_lengthsThatFit_25 rfl (by decide) ?_
    refine jr_ior (pc' := 27)  dX1_lengthsThatFit_26 rfl  ?_
    refine jr_istore_n (pc' := 28) (i := 1) (lv' := [some (.ref 30), some (.int (s1 ||| 0)), some (.int a2)]) dX1_lengthsThatFit_27 rfl rfl (by decide) rfl ?_
    refine jr_iinc (pc' := 31) (i := 2) (v := (a2 + 1)) (lv' := [some (.ref 30), some (.int (s1 ||| 0)), some (.int (a2 + 1))]) dX1_lengthsThatFit_28 rfl rfl (congrArg (a2 + ·) (by decide)) (by decide) rfl ?_
    refine jr_goto (pc' := 4) dX1_lengthsThatFit_31 rfl ?_
    exact jG.weak (lv' := [some (.ref 30), some (.int (s1 ||| 0)), some (.int (a2 + 1))]) ⟨rfl, rfl, rfl, trivial⟩ (k0 c1)
  · refine jr_if_eqF (pc' := 19) (tgt := 25) dX1_lengthsThatFit_16 rfl rfl c1 ?_
    refine jr_iconst (pc' := 20) (v := 1) dX1_lengthsThatFit_19 rfl (by decide) ?_
    refine jr_iload_n (pc' := 21) (i := 2) dX1_lengthsThatFit_20 rfl rfl rfl ?_
    refine jr_ishl (pc' := 22)  dX1_lengthsThatFit_21 rfl  ?_
    refine jr_goto (pc' := 26) dX1_lengthsThatFit_22 rfl ?_
    refine jr_ior (pc' := 27)  dX1_lengthsThatFit_26 rfl  ?_
    refine jr_istore_n (pc' := 28) (i := 1) (lv' := [some (.ref 30), some (.int (s1 ||| (1 <<< (a2 &&& 31)))), some (.int a2)]) dX1_lengthsThatFit_27 rfl rfl (by decide) rfl ?_
    refine jr_iinc (pc' := 31) (i := 2) (v := (a2 + 1)) (lv' := [some (.ref 30), some (.int (s1 ||| (1 <<< (a2 &&& 31)))), some (.int (a2 + 1))]) dX1_lengthsThatFit_28 rfl rfl (congrArg (a2 + ·) (by decide)) (by decide) rfl ?_
    refine jr_goto (pc' := 4) dX1_lengthsThatFit_31 rfl ?_
    exact jG.weak (lv' := [some (.ref 30), some (.int (s1 ||| (1 <<< (a2 &&& 31)))), some (.int (a2 + 1))]) ⟨rfl, rfl, rfl, trivial⟩ (k1 c1)

theorem q_FscanBeAll_0 {E : jEnv} {n : Nat} {X : State → Prop} {Post : Option Value → HP → Prop} (x : Int32) (h : HP)
    (k0 : jCall E mX1_seenAt n [.ref 30, .int 0] h (fun v h2 => jG E mX1_canBeAll (n + 1) X Post 11 [some (.ref 30), some (.int x), none, none, none, none, none] (v.toList ++ [.long (1 <<< ((h.1 30 2).toInt64 &&& 63))]) h2))
    : jG E mX1_canBeAll (n + 1) X Post 0 [some (.ref 30), some (.int x), none, none, none, none, none] [] h := by
  refine jr_lconst (pc' := 1) (v := 1) dX1_canBeAll_0 rfl (by decide) ?_
  refine jr_aload_n (pc' := 2) (i := 0) dX1_canBeAll_1 rfl rfl rfl ?_
  refine jr_get (pc' := 5) jK1 (k := 30) (j := 2) (v := .int (h.1 30 2)) wfX1_9 dX1_canBeAll_2 rfl (by decide) rfl (by decide) rfl ?_
  refine jr_lshl (pc' := 6)  dX1_canBeAll_5 rfl  ?_
  refine jr_aload_n (pc' := 7) (i := 0) dX1_canBeAll_6 rfl rfl rfl ?_
  refine jr_iconst (pc' := 8) (v := 0) dX1_canBeAll_7 rfl (by decide) ?_
  obtain ⟨P1, hC1, hK1⟩ := k0
  exact jr_callV (pc' := 11) (k := 30) (av := [.int 0]) (st := [.long (1 <<< ((h.1 30 2).toInt64 &&& 63))]) sX1_seenAt wmX1_37 dX1_canBeAll_8 rfl (by decide) rfl (by decide) rfl rfl rfl (Nat.le_of_ble_eq_true rfl) rfl hC1 (fun v h2 hp => jG.weak (lv' := [some (.ref 30), some (.int x), none, none, none, none, none]) ⟨rfl, rfl, trivial⟩ (hK1 v h2 hp))

theorem q_FscanBeAll_11 {E : jEnv} {n : Nat} {X : State → Prop} {Post : Option Value → HP → Prop} (a1 : Int32) (t0 : Int64) (t1 : Int64) (h : HP)
    (k0 : jG E mX1_canBeAll (n + 1) X Post 16 [some (.ref 30), some (.int a1), some (.long (t1 &&& t0)), none, some (.int 1), none, none] [] h)
    : jG E mX1_canBeAll (n + 1) X Post 11 [some (.ref 30), some (.int a1), none, none, none, none, none] [.long t0, .long t1] h := by
  refine jr_land (pc' := 12)  dX1_canBeAll_11 rfl  ?_
  refine jr_lstore_n (pc' := 13) (i := 2) (lv' := [some (.ref 30), some (.int a1), some (.long (t1 &&& t0)), none, none, none, none]) dX1_canBeAll_12 rfl rfl (by decide) rfl ?_
  refine jr_iconst (pc' := 14) (v := 1) dX1_canBeAll_13 rfl (by decide) ?_
  refine jr_istore (pc' := 16) (i := 4) (lv' := [some (.ref 30), some (.int a1), some (.long (t1 &&& t0)), none, some (.int 1), none, none]) dX1_canBeAll_14 rfl (by decide) rfl ?_
  exact jG.weak (lv' := [some (.ref 30), some (.int a1), some (.long (t1 &&& t0)), none, some (.int 1), none, none]) ⟨rfl, rfl, rfl, rfl, trivial⟩ (k0)

set_option maxRecDepth 4000 in
theorem q_FscanBeAll_16 {E : jEnv} {n : Nat} {X : State → Prop} {Post : Option Value → HP → Prop} (a1 : Int32) (l2 : Int64) (a4 : Int32) (h : HP)
    (k0 : ((40 : Int32) < a4) → ((lg_cmp l2 0) = 0) → Post (some (.int 0)) h)
    (k1 : ((40 : Int32) < a4) → (¬ (lg_cmp l2 0) = 0) → Post (some (.int 1)) h)
    (k2 : (¬ (40 : Int32) < a4) → ((lg_cmp l2 0) = 0) → ((lg_cmp l2 0) = 0) → Post (some (.int 0)) h)
    (k3 : (¬ (40 : Int32) < a4) → ((lg_cmp l2 0) = 0) → (¬ (lg_cmp l2 0) = 0) → Post (some (.int 1)) h)
    (k4 : (¬ (40 : Int32) < a4) → (¬ (lg_cmp l2 0) = 0) → jCall E mX1_seenAt n [.ref 30, .int a4] h (fun v h2 => jG E mX1_canBeAll (n + 1) X Post 80 [some (.ref 30), some (.int a1), none, none, some (.int a4), none, none] (v.toList ++ [.long (f_Ldspread (h.1 3 0) (h.2 3 7) (h.2 3 8) l2 ((f_LdcellsFor (h.2 9) a1 (f_LdtideOf (h.1 3 2) ((h.1 18 1) + a4))) ||| (h.2 18 3)))]) h2))
    : jG E mX1_canBeAll (n + 1) X Post 16 [some (.ref 30), some (.int a1), some (.long l2), none, some (.int a4), none, none] [] h := by
  refine jr_iload (pc' := 18) (i := 4) dX1_canBeAll_16 rfl rfl ?_
  refine jr_bipush (pc' := 20) (v := 40) dX1_canBeAll_18 rfl (by decide) ?_
  by_cases c1 : (40 : Int32) < a4
  · refine jr_icmp_gtT (pc' := 88) dX1_canBeAll_20 rfl c1 ?_
    refine jr_lload_n (pc' := 89) (i := 2) dX1_canBeAll_88 rfl rfl rfl ?_
    refine jr_lconst (pc' := 90) (v := 0) dX1_canBeAll_89 rfl (by decide) ?_
    refine jr_lcmp (pc' := 91)  dX1_canBeAll_90 rfl  ?_
    by_cases c2 : (lg_cmp l2 0) = 0
    · refine jr_if_eqT (pc' := 98) dX1_canBeAll_91 rfl c2 ?_
      refine jr_iconst (pc' := 99) (v := 0) dX1_canBeAll_98 rfl (by decide) ?_
      exact jr_iret dX1_canBeAll_99 rfl rfl (k0 c1 c2)
    · refine jr_if_eqF (pc' := 94) (tgt := 98) dX1_canBeAll_91 rfl rfl c2 ?_
      refine jr_iconst (pc' := 95) (v := 1) dX1_canBeAll_94 rfl (by decide) ?_
      refine jr_goto (pc' := 99) dX1_canBeAll_95 rfl ?_
      exact jr_iret dX1_canBeAll_99 rfl rfl (k1 c1 c2)
  · refine jr_icmp_gtF (pc' := 23) (tgt := 88) dX1_canBeAll_20 rfl rfl c1 ?_
    refine jr_lload_n (pc' := 24) (i := 2) dX1_canBeAll_23 rfl rfl rfl ?_
    refine jr_lconst (pc' := 25) (v := 0) dX1_canBeAll_24 rfl (by decide) ?_
    refine jr_lcmp (pc' := 26)  dX1_canBeAll_25 rfl  ?_
    by_cases c3 : (lg_cmp l2 0) = 0
    · refine jr_if_eqT (pc' := 88) dX1_canBeAll_26 rfl c3 ?_
      refine jr_lload_n (pc' := 89) (i := 2) dX1_canBeAll_88 rfl rfl rfl ?_
      refine jr_lconst (pc' := 90) (v := 0) dX1_canBeAll_89 rfl (by decide) ?_
      refine jr_lcmp (pc' := 91)  dX1_canBeAll_90 rfl  ?_
      by_cases c4 : (lg_cmp l2 0) = 0
      · refine jr_if_eqT (pc' := 98) dX1_canBeAll_91 rfl c4 ?_
        refine jr_iconst (pc' := 99) (v := 0) dX1_canBeAll_98 rfl (by decide) ?_
        exact jr_iret dX1_canBeAll_99 rfl rfl (k2 c1 c3 c4)
      · refine jr_if_eqF (pc' := 94) (tgt := 98) dX1_canBeAll_91 rfl rfl c4 ?_
        refine jr_iconst (pc' := 95) (v := 1) dX1_canBeAll_94 rfl (by decide) ?_
        refine jr_goto (pc' := 99) dX1_canBeAll_95 rfl ?_
        exact jr_iret dX1_canBeAll_99 rfl rfl (k3 c1 c3 c4)
    · refine jr_if_eqF (pc' := 29) (tgt := 88) dX1_canBeAll_26 rfl rfl c3 ?_
      refine jr_aload_n (pc' := 30) (i := 0) dX1_canBeAll_29 rfl rfl rfl ?_
      refine jr_get (pc' := 33) jK1 (k := 30) (j := 0) (v := .ref 3) wfX1_25 dX1_canBeAll_30 rfl (by decide) rfl (by decide) rfl ?_
      refine jr_iload_n (pc' := 34) (i := 1) dX1_canBeAll_33 rfl rfl rfl ?_
      refine jr_aload_n (pc' := 35) (i := 0) dX1_canBeAll_34 rfl rfl rfl ?_
      refine jr_get (pc' := 38) jK1 (k := 30) (j := 0) (v := .ref 3) wfX1_25 dX1_canBeAll_35 rfl (by decide) rfl (by decide) rfl ?_
      refine jr_aload_n (pc' := 39) (i := 0) dX1_canBeAll_38 rfl rfl rfl ?_
      refine jr_get (pc' := 42) jK1 (k := 30) (j := 1) (v := .ref 18) wfX1_29 dX1_canBeAll_39 rfl (by decide) rfl (by decide) rfl ?_
      refine jr_get (pc' := 45) jK5 (k := 18) (j := 1) (v := .int (h.1 18 1)) wfX1_41 dX1_canBeAll_42 rfl (by decide) rfl (by decide) rfl ?_
      refine jr_iload (pc' := 47) (i := 4) dX1_canBeAll_45 rfl rfl ?_
      refine jr_iadd (pc' := 48)  dX1_canBeAll_47 rfl  ?_
      refine jr_callV (pc' := 51) (k := 3) (av := [.int ((h.1 18 1) + a4)]) (st := [.int a1, .ref 3]) sX2_tideOf wmX1_46 dX1_canBeAll_48 rfl (by decide) rfl (by decide) rfl rfl rfl (Nat.le_of_ble_eq_true rfl) rfl (c_LdtideOf (n := n) ((h.1 18 1) + a4) h ) (fun v h2 hp => ?_)
      rw [hp.1, hp.2]
      show jG E mX1_canBeAll (n + 1) X Post 51 [some (.ref 30), some (.int a1), some (.long l2), none, some (.int a4), none, none] [.int (f_LdtideOf (h.1 3 2) ((h.1 18 1) + a4)), .int a1, .ref 3] h
      refine jr_callV (pc' := 54) (k := 3) (av := [.int a1, .int (f_LdtideOf (h.1 3 2) ((h.1 18 1) + a4))]) (st := []) sX2_cellsFor wmX1_52 dX1_canBeAll_51 rfl (by decide) rfl (by decide) rfl rfl rfl (Nat.le_of_ble_eq_true rfl) rfl (c_LdcellsFor (n := n) a1 (f_LdtideOf (h.1 3 2) ((h.1 18 1) + a4)) h ) (fun v h2 hp => ?_)
      rw [hp.1, hp.2]
      show jG E mX1_canBeAll (n + 1) X Post 54 [some (.ref 30), some (.int a1), some (.long l2), none, some (.int a4), none, none] [.long (f_LdcellsFor (h.2 9) a1 (f_LdtideOf (h.1 3 2) ((h.1 18 1) + a4)))] h
      refine jr_aload_n (pc' := 55) (i := 0) dX1_canBeAll_54 rfl rfl rfl ?_
      refine jr_get (pc' := 58) jK1 (k := 30) (j := 1) (v := .ref 18) wfX1_29 dX1_canBeAll_55 rfl (by decide) rfl (by decide) rfl ?_
      refine jr_get (pc' := 61) jK5 (k := 18) (j := 3) (v := .long (h.2 18 3)) wfX1_56 dX1_canBeAll_58 rfl (by decide) rfl (by decide) rfl ?_
      refine jr_lor (pc' := 62)  dX1_canBeAll_61 rfl  ?_
      refine jr_lstore (pc' := 64) (i := 5) (lv' := [some (.ref 30), some (.int a1), some (.long l2), none, some (.int a4), some (.long ((f_LdcellsFor (h.2 9) a1 (f_LdtideOf (h.1 3 2) ((h.1 18 1) + a4))) ||| (h.2 18 3))), none]) dX1_canBeAll_62 rfl (by decide) rfl ?_
      refine jr_aload_n (pc' := 65) (i := 0) dX1_canBeAll_64 rfl rfl rfl ?_
      refine jr_get (pc' := 68) jK1 (k := 30) (j := 0) (v := .ref 3) wfX1_25 dX1_canBeAll_65 rfl (by decide) rfl (by decide) rfl ?_
      refine jr_lload_n (pc' := 69) (i := 2) dX1_canBeAll_68 rfl rfl rfl ?_
      refine jr_lload (pc' := 71) (i := 5) dX1_canBeAll_69 rfl rfl ?_
      refine jr_callV (pc' := 74) (k := 3) (av := [.long l2, .long ((f_LdcellsFor (h.2 9) a1 (f_LdtideOf (h.1 3 2) ((h.1 18 1) + a4))) ||| (h.2 18 3))]) (st := []) sX2_spread wmX1_60 dX1_canBeAll_71 rfl (by decide) rfl (by decide) rfl rfl rfl (Nat.le_of_ble_eq_true rfl) rfl (c_Ldspread (n := n) l2 ((f_LdcellsFor (h.2 9) a1 (f_LdtideOf (h.1 3 2) ((h.1 18 1) + a4))) ||| (h.2 18 3)) h ) (fun v h2 hp => ?_)
      rw [hp.1, hp.2]
      show jG E mX1_canBeAll (n + 1) X Post 74 [some (.ref 30), some (.int a1), some (.long l2), none, some (.int a4), some (.long ((f_LdcellsFor (h.2 9) a1 (f_LdtideOf (h.1 3 2) ((h.1 18 1) + a4))) ||| (h.2 18 3))), none] [.long (f_Ldspread (h.1 3 0) (h.2 3 7) (h.2 3 8) l2 ((f_LdcellsFor (h.2 9) a1 (f_LdtideOf (h.1 3 2) ((h.1 18 1) + a4))) ||| (h.2 18 3)))] h
      refine jr_aload_n (pc' := 75) (i := 0) dX1_canBeAll_74 rfl rfl rfl ?_
      refine jr_iload (pc' := 77) (i := 4) dX1_canBeAll_75 rfl rfl ?_
      obtain ⟨P1, hC1, hK1⟩ := k4 c1 c3
      exact jr_callV (pc' := 80) (k := 30) (av := [.int a4]) (st := [.long (f_Ldspread (h.1 3 0) (h.2 3 7) (h.2 3 8) l2 ((f_LdcellsFor (h.2 9) a1 (f_LdtideOf (h.1 3 2) ((h.1 18 1) + a4))) ||| (h.2 18 3)))]) sX1_seenAt wmX1_37 dX1_canBeAll_77 rfl (by decide) rfl (by decide) rfl rfl rfl (Nat.le_of_ble_eq_true rfl) rfl hC1 (fun v h2 hp => jG.weak (lv' := [some (.ref 30), some (.int a1), none, none, some (.int a4), none, none]) ⟨rfl, rfl, rfl, trivial⟩ (hK1 v h2 hp))

theorem q_FscanBeAll_80 {E : jEnv} {n : Nat} {X : State → Prop} {Post : Option Value → HP → Prop} (a1 : Int32) (a4 : Int32) (t0 : Int64) (t1 : Int64) (h : HP)
    (k0 : jG E mX1_canBeAll (n + 1) X Post 16 [some (.ref 30), some (.int a1), some (.long (t1 &&& t0)), none, some (.int (a4 + 1)), none, none] [] h)
    : jG E mX1_canBeAll (n + 1) X Post 80 [some (.ref 30), some (.int a1), none, none, some (.int a4), none, none] [.long t0, .long t1] h := by
  refine jr_land (pc' := 81)  dX1_canBeAll_80 rfl  ?_
  refine jr_lstore_n (pc' := 82) (i := 2) (lv' := [some (.ref 30), some (.int a1), some (.long (t1 &&& t0)), none, some (.int a4), none, none]) dX1_canBeAll_81 rfl rfl (by decide) rfl ?_
  refine jr_iinc (pc' := 85) (i := 4) (v := (a4 + 1)) (lv' := [some (.ref 30), some (.int a1), some (.long (t1 &&& t0)), none, some (.int (a4 + 1)), none, none]) dX1_canBeAll_82 rfl rfl (congrArg (a4 + ·) (by decide)) (by decide) rfl ?_
  refine jr_goto (pc' := 16) dX1_canBeAll_85 rfl ?_
  exact jG.weak (lv' := [some (.ref 30), some (.int a1), some (.long (t1 &&& t0)), none, some (.int (a4 + 1)), none, none]) ⟨rfl, rfl, rfl, rfl, trivial⟩ (k0)

theorem q_FsseenAt_0 {E : jEnv} {n : Nat} {X : State → Prop} {Post : Option Value → HP → Prop} (x : Int32) (h : HP)
    (k0 : jG E mX1_seenAt n X Post 11 [some (.ref 30), some (.int x), some (.long (h.2 3 6)), none, some (.int 0)] [] h)
    : jG E mX1_seenAt n X Post 0 [some (.ref 30), some (.int x), none, none, none] [] h := by
  refine jr_aload_n (pc' := 1) (i := 0) dX1_seenAt_0 rfl rfl rfl ?_
  refine jr_get (pc' := 4) jK1 (k := 30) (j := 0) (v := .ref 3) wfX1_25 dX1_seenAt_1 rfl (by decide) rfl (by decide) rfl ?_
  refine jr_get (pc' := 7) jK2 (k := 3) (j := 6) (v := .long (h.2 3 6)) wfX1_64 dX1_seenAt_4 rfl (by decide) rfl (by decide) rfl ?_
  refine jr_lstore_n (pc' := 8) (i := 2) (lv' := [some (.ref 30), some (.int x), some (.long (h.2 3 6)), none, none]) dX1_seenAt_7 rfl rfl (by decide) rfl ?_
  refine jr_iconst (pc' := 9) (v := 0) dX1_seenAt_8 rfl (by decide) ?_
  refine jr_istore (pc' := 11) (i := 4) (lv' := [some (.ref 30), some (.int x), some (.long (h.2 3 6)), none, some (.int 0)]) dX1_seenAt_9 rfl (by decide) rfl ?_
  exact jG.weak (lv' := [some (.ref 30), some (.int x), some (.long (h.2 3 6)), none, some (.int 0)]) ⟨rfl, rfl, rfl, rfl, trivial⟩ (k0)

theorem q_FsseenAt_11 {E : jEnv} {n : Nat} {X : State → Prop} {Post : Option Value → HP → Prop} (a1 : Int32) (l2 : Int64) (a4 : Int32) (h : HP)
    (k0 : ((h.1 30 3) ≤ a4) → Post (some (.long l2)) h)
    (b0 : (¬ (h.1 30 3) ≤ a4) → vp_in a4 20)
    (b1 : (¬ (h.1 30 3) ≤ a4) → ((h.1 32 a4.toNatClampNeg) = a1) → vp_in a4 20)
    (k1 : (¬ (h.1 30 3) ≤ a4) → ((h.1 32 a4.toNatClampNeg) = a1) → jG E mX1_seenAt n X Post 11 [some (.ref 30), some (.int a1), some (.long (l2 &&& (1 <<< ((h.1 31 a4.toNatClampNeg).toInt64 &&& 63)))), none, some (.int (a4 + 1))] [] h)
    (k2 : (¬ (h.1 30 3) ≤ a4) → (¬ (h.1 32 a4.toNatClampNeg) = a1) → jG E mX1_seenAt n X Post 11 [some (.ref 30), some (.int a1), some (.long l2), none, some (.int (a4 + 1))] [] h)
    : jG E mX1_seenAt n X Post 11 [some (.ref 30), some (.int a1), some (.long l2), none, some (.int a4)] [] h := by
  refine jr_iload (pc' := 13) (i := 4) dX1_seenAt_11 rfl rfl ?_
  refine jr_aload_n (pc' := 14) (i := 0) dX1_seenAt_13 rfl rfl rfl ?_
  refine jr_get (pc' := 17) jK1 (k := 30) (j := 3) (v := .int (h.1 30 3)) wfX1_15 dX1_seenAt_14 rfl (by decide) rfl (by decide) rfl ?_
  by_cases c1 : (h.1 30 3) ≤ a4
  · refine jr_icmp_geT (pc' := 49) dX1_seenAt_17 rfl c1 ?_
    refine jr_lload_n (pc' := 50) (i := 2) dX1_seenAt_49 rfl rfl rfl ?_
    exact jr_lret dX1_seenAt_50 rfl (k0 c1)
  · refine jr_icmp_geF (pc' := 20) (tgt := 49) dX1_seenAt_17 rfl rfl c1 ?_
    refine jr_aload_n (pc' := 21) (i := 0) dX1_seenAt_20 rfl rfl rfl ?_
    refine jr_get (pc' := 24) jK1 (k := 30) (j := 5) (v := .ref 32) wfX1_22 dX1_seenAt_21 rfl (by decide) rfl (by decide) rfl ?_
    refine jr_iload (pc' := 26) (i := 4) dX1_seenAt_24 rfl rfl ?_
    refine jr_iald (pc' := 27) (v := h.1 32 a4.toNatClampNeg) dX1_seenAt_26 rfl (by decide) rfl (b0 c1) rfl ?_
    refine jr_iload_n (pc' := 28) (i := 1) dX1_seenAt_27 rfl rfl rfl ?_
    by_cases c2 : (h.1 32 a4.toNatClampNeg) = a1
    · refine jr_icmp_neF (pc' := 31) (tgt := 43) dX1_seenAt_28 rfl rfl c2 ?_
      refine jr_lload_n (pc' := 32) (i := 2) dX1_seenAt_31 rfl rfl rfl ?_
      refine jr_lconst (pc' := 33) (v := 1) dX1_seenAt_32 rfl (by decide) ?_
      refine jr_aload_n (pc' := 34) (i := 0) dX1_seenAt_33 rfl rfl rfl ?_
      refine jr_get (pc' := 37) jK1 (k := 30) (j := 4) (v := .ref 31) wfX1_18 dX1_seenAt_34 rfl (by decide) rfl (by decide) rfl ?_
      refine jr_iload (pc' := 39) (i := 4) dX1_seenAt_37 rfl rfl ?_
      refine jr_iald (pc' := 40) (v := h.1 31 a4.toNatClampNeg) dX1_seenAt_39 rfl (by decide) rfl (b1 c1 c2) rfl ?_
      refine jr_lshl (pc' := 41)  dX1_seenAt_40 rfl  ?_
      refine jr_land (pc' := 42)  dX1_seenAt_41 rfl  ?_
      refine jr_lstore_n (pc' := 43) (i := 2) (lv' := [some (.ref 30), some (.int a1), some (.long (l2 &&& (1 <<< ((h.1 31 a4.toNatClampNeg).toInt64 &&& 63)))), none, some (.int a4)]) dX1_seenAt_42 rfl rfl (by decide) rfl ?_
      refine jr_iinc (pc' := 46) (i := 4) (v := (a4 + 1)) (lv' := [some (.ref 30), some (.int a1), some (.long (l2 &&& (1 <<< ((h.1 31 a4.toNatClampNeg).toInt64 &&& 63)))), none, some (.int (a4 + 1))]) dX1_seenAt_43 rfl rfl (congrArg (a4 + ·) (by decide)) (by decide) rfl ?_
      refine jr_goto (pc' := 11) dX1_seenAt_46 rfl ?_
      exact jG.weak (lv' := [some (.ref 30), some (.int a1), some (.long (l2 &&& (1 <<< ((h.1 31 a4.toNatClampNeg).toInt64 &&& 63)))), none, some (.int (a4 + 1))]) ⟨rfl, rfl, rfl, rfl, trivial⟩ (k1 c1 c2)
    · refine jr_icmp_neT (pc' := 43) dX1_seenAt_28 rfl c2 ?_
      refine jr_iinc (pc' := 46) (i := 4) (v := (a4 + 1)) (lv' := [some (.ref 30), some (.int a1), some (.long l2), none, some (.int (a4 + 1))]) dX1_seenAt_43 rfl rfl (congrArg (a4 + ·) (by decide)) (by decide) rfl ?_
      refine jr_goto (pc' := 11) dX1_seenAt_46 rfl ?_
      exact jG.weak (lv' := [some (.ref 30), some (.int a1), some (.long l2), none, some (.int (a4 + 1))]) ⟨rfl, rfl, rfl, rfl, trivial⟩ (k2 c1 c2)

theorem q_BkfirstWrong_0 {E : jEnv} {n : Nat} {X : State → Prop} {Post : Option Value → HP → Prop}  (h : HP)
    (k0 : jCall E mJ7_fill_53178 (n + 3) [.ref 37, .int (h.1 18 1)] (jPA h 36 (va_cpy (h.1 19) (h.1 36) (0 : Int32).toNatClampNeg (0 : Int32).toNatClampNeg (4 : Int32).toNatClampNeg)) (fun v h2 => jG E mX0_firstWrong (n + 4) X Post 31 [some (.ref 33), none, none, none] (v.toList ++ []) h2))
    : jG E mX0_firstWrong (n + 4) X Post 0 [some (.ref 33), none, none, none] [] h := by
  refine jr_aload_n (pc' := 1) (i := 0) dX0_firstWrong_0 rfl rfl rfl ?_
  refine jr_get (pc' := 4) jK0 (k := 33) (j := 0) (v := .ref 18) wfX0_28 dX0_firstWrong_1 rfl (by decide) rfl (by decide) rfl ?_
  refine jr_get (pc' := 7) jK5 (k := 18) (j := 4) (v := .ref 19) wfX0_32 dX0_firstWrong_4 rfl (by decide) rfl (by decide) rfl ?_
  refine jr_iconst (pc' := 8) (v := 0) dX0_firstWrong_7 rfl (by decide) ?_
  refine jr_aload_n (pc' := 9) (i := 0) dX0_firstWrong_8 rfl rfl rfl ?_
  refine jr_get (pc' := 12) jK0 (k := 33) (j := 4) (v := .ref 36) wfX0_22 dX0_firstWrong_9 rfl (by decide) rfl (by decide) rfl ?_
  refine jr_iconst (pc' := 13) (v := 0) dX0_firstWrong_12 rfl (by decide) ?_
  refine jr_iconst (pc' := 14) (v := 4) dX0_firstWrong_13 rfl (by decide) ?_
  refine jr_copy (pc' := 17) wmX0_35 wAcN wAcS wAcI dX0_firstWrong_14 rfl (by omega) (by decide) rfl (by decide) rfl (by decide) (by decide) (by decide) (by decide) (by decide) (Nat.le_of_ble_eq_true rfl) ?_
  refine jr_aload_n (pc' := 18) (i := 0) dX0_firstWrong_17 rfl rfl rfl ?_
  refine jr_get (pc' := 21) jK0 (k := 33) (j := 5) (v := .ref 37) wfX0_25 dX0_firstWrong_18 rfl (by decide) rfl (by decide) rfl ?_
  refine jr_aload_n (pc' := 22) (i := 0) dX0_firstWrong_21 rfl rfl rfl ?_
  refine jr_get (pc' := 25) jK0 (k := 33) (j := 0) (v := .ref 18) wfX0_28 dX0_firstWrong_22 rfl (by decide) rfl (by decide) rfl ?_
  refine jr_get (pc' := 28) jK5 (k := 18) (j := 1) (v := .int (h.1 18 1)) wfX0_41 dX0_firstWrong_25 rfl (by decide) rfl (by decide) rfl ?_
  obtain ⟨P1, hC1, hK1⟩ := k0
  exact jr_callS (pc' := 31) (av := [.ref 37, .int (h.1 18 1)]) (st := []) sJ7_fill_53178 wmX0_44 dX0_firstWrong_28 rfl rfl (Nat.le_of_ble_eq_true rfl) rfl hC1 (fun v h2 hp => jG.weak (lv' := [some (.ref 33), none, none, none]) ⟨rfl, trivial⟩ (hK1 v h2 hp))

theorem q_BkfirstWrong_31 {E : jEnv} {n : Nat} {X : State → Prop} {Post : Option Value → HP → Prop}  (h : HP)
    (k0 : jG E mX0_firstWrong (n + 4) X Post 33 [some (.ref 33), some (.int 0), none, none] [] h)
    : jG E mX0_firstWrong (n + 4) X Post 31 [some (.ref 33), none, none, none] [] h := by
  refine jr_iconst (pc' := 32) (v := 0) dX0_firstWrong_31 rfl (by decide) ?_
  refine jr_istore_n (pc' := 33) (i := 1) (lv' := [some (.ref 33), some (.int 0), none, none]) dX0_firstWrong_32 rfl rfl (by decide) rfl ?_
  exact jG.weak (lv' := [some (.ref 33), some (.int 0), none, none]) ⟨rfl, rfl, trivial⟩ (k0)

theorem q_BkfirstWrong_33 {E : jEnv} {n : Nat} {X : State → Prop} {Post : Option Value → HP → Prop} (a1 : Int32) (h : HP)
    (k0 : ((h.1 33 1) ≤ a1) → Post (some (.int (-1))) h)
    (b0 : (¬ (h.1 33 1) ≤ a1) → vp_in a1 40)
    (b1 : (¬ (h.1 33 1) ≤ a1) → vp_in (h.1 34 a1.toNatClampNeg) 4)
    (b2 : (¬ (h.1 33 1) ≤ a1) → vp_in (h.1 34 a1.toNatClampNeg) 4)
    (b3 : (¬ (h.1 33 1) ≤ a1) → vp_in (h.1 34 a1.toNatClampNeg) 4)
    (b4 : (¬ (h.1 33 1) ≤ a1) → vp_in a1 40)
    (b5 : (¬ (h.1 33 1) ≤ a1) → vp_in (h.1 34 a1.toNatClampNeg) 4)
    (b6 : (¬ (h.1 33 1) ≤ a1) → vp_in (h.1 34 a1.toNatClampNeg) 4)
    (b7 : (¬ (h.1 33 1) ≤ a1) → ((¬ (h.1 35 a1.toNatClampNeg) = 0) → (¬ (f_Ldbeside ((h.1 3 0)) ((h.1 3 1)) (h.1 36 ((h.1 34 a1.toNatClampNeg).toNatClampNeg)) (h.1 35 a1.toNatClampNeg)) = (-1)) → (((f_Shhas (((h.2 18 3))) (f_Ldbeside ((h.1 3 0)) ((h.1 3 1)) (h.1 36 ((h.1 34 a1.toNatClampNeg).toNatClampNeg)) (h.1 35 a1.toNatClampNeg))) = 0) → ((¬ (f_Ldbeside ((h.1 3 0)) ((h.1 3 1)) (h.1 36 ((h.1 34 a1.toNatClampNeg).toNatClampNeg)) (h.1 35 a1.toNatClampNeg)) < 0) → (¬ (36 : Int32) ≤ (f_Ldbeside ((h.1 3 0)) ((h.1 3 1)) (h.1 36 ((h.1 34 a1.toNatClampNeg).toNatClampNeg)) (h.1 35 a1.toNatClampNeg))) → ((f_LdtideOf ((((h.1 3 2)))) ((h.1 37 ((h.1 34 a1.toNatClampNeg).toNatClampNeg)) + 1)) < 6) → vp_in (f_LdtideOf ((((h.1 3 2)))) ((h.1 37 ((h.1 34 a1.toNatClampNeg).toNatClampNeg)) + 1)) 6))))
    (k1 : (¬ (h.1 33 1) ≤ a1) → ((f_StwayLeads (h.1 3 0) (h.1 3 1) (h.1 3 2) (h.2 18 3) (h.1 4) (h.1 5) (h.1 36 ((h.1 34 a1.toNatClampNeg).toNatClampNeg)) (h.1 35 a1.toNatClampNeg) (h.1 20 ((h.1 34 a1.toNatClampNeg).toNatClampNeg)) ((h.1 37 ((h.1 34 a1.toNatClampNeg).toNatClampNeg)) + 1)) = (-1)) → Post (some (.int a1)) (jPI h 37 ((h.1 34 a1.toNatClampNeg).toNatClampNeg) ((h.1 37 ((h.1 34 a1.toNatClampNeg).toNatClampNeg)) + 1)))
    (b8 : (¬ (h.1 33 1) ≤ a1) → (¬ (f_StwayLeads (h.1 3 0) (h.1 3 1) (h.1 3 2) (h.2 18 3) (h.1 4) (h.1 5) (h.1 36 ((h.1 34 a1.toNatClampNeg).toNatClampNeg)) (h.1 35 a1.toNatClampNeg) (h.1 20 ((h.1 34 a1.toNatClampNeg).toNatClampNeg)) ((h.1 37 ((h.1 34 a1.toNatClampNeg).toNatClampNeg)) + 1)) = (-1)) → vp_in (h.1 34 a1.toNatClampNeg) 4)
    (k2 : (¬ (h.1 33 1) ≤ a1) → (¬ (f_StwayLeads (h.1 3 0) (h.1 3 1) (h.1 3 2) (h.2 18 3) (h.1 4) (h.1 5) (h.1 36 ((h.1 34 a1.toNatClampNeg).toNatClampNeg)) (h.1 35 a1.toNatClampNeg) (h.1 20 ((h.1 34 a1.toNatClampNeg).toNatClampNeg)) ((h.1 37 ((h.1 34 a1.toNatClampNeg).toNatClampNeg)) + 1)) = (-1)) → jG E mX0_firstWrong (n + 4) X Post 33 [some (.ref 33), some (.int (a1 + 1)), none, none] [] (jPI (jPI h 37 ((h.1 34 a1.toNatClampNeg).toNatClampNeg) ((h.1 37 ((h.1 34 a1.toNatClampNeg).toNatClampNeg)) + 1)) 36 ((h.1 34 a1.toNatClampNeg).toNatClampNeg) (f_StwayLeads (h.1 3 0) (h.1 3 1) (h.1 3 2) (h.2 18 3) (h.1 4) (h.1 5) (h.1 36 ((h.1 34 a1.toNatClampNeg).toNatClampNeg)) (h.1 35 a1.toNatClampNeg) (h.1 20 ((h.1 34 a1.toNatClampNeg).toNatClampNeg)) ((h.1 37 ((h.1 34 a1.toNatClampNeg).toNatClampNeg)) + 1))))
    : jG E mX0_firstWrong (n + 4) X Post 33 [some (.ref 33), some (.int a1), none, none] [] h := by
  refine jr_iload_n (pc' := 34) (i := 1) dX0_firstWrong_33 rfl rfl rfl ?_
  refine jr_aload_n (pc' := 35) (i := 0) dX0_firstWrong_34 rfl rfl rfl ?_
  refine jr_get (pc' := 38) jK0 (k := 33) (j := 1) (v := .int (h.1 33 1)) wfX0_9 dX0_firstWrong_35 rfl (by decide) rfl (by decide) rfl ?_
  by_cases c1 : (h.1 33 1) ≤ a1
  · refine jr_icmp_geT (pc' := 113) dX0_firstWrong_38 rfl c1 ?_
    refine jr_iconst (pc' := 114) (v := (-1)) dX0_firstWrong_113 rfl (by decide) ?_
    exact jr_iret dX0_firstWrong_114 rfl rfl (k0 c1)
  · refine jr_icmp_geF (pc' := 41) (tgt := 113) dX0_firstWrong_38 rfl rfl c1 ?_
    refine jr_aload_n (pc' := 42) (i := 0) dX0_firstWrong_41 rfl rfl rfl ?_
    refine jr_get (pc' := 45) jK0 (k := 33) (j := 2) (v := .ref 34) wfX0_15 dX0_firstWrong_42 rfl (by decide) rfl (by decide) rfl ?_
    refine jr_iload_n (pc' := 46) (i := 1) dX0_firstWrong_45 rfl rfl rfl ?_
    refine jr_iald (pc' := 47) (v := h.1 34 a1.toNatClampNeg) dX0_firstWrong_46 rfl (by decide) rfl (b0 c1) rfl ?_
    refine jr_istore_n (pc' := 48) (i := 2) (lv' := [some (.ref 33), some (.int a1), some (.int (h.1 34 a1.toNatClampNeg)), none]) dX0_firstWrong_47 rfl rfl (by decide) rfl ?_
    refine jr_aload_n (pc' := 49) (i := 0) dX0_firstWrong_48 rfl rfl rfl ?_
    refine jr_get (pc' := 52) jK0 (k := 33) (j := 5) (v := .ref 37) wfX0_25 dX0_firstWrong_49 rfl (by decide) rfl (by decide) rfl ?_
    refine jr_iload_n (pc' := 53) (i := 2) dX0_firstWrong_52 rfl rfl rfl ?_
    refine jr_dup2 (pc' := 54)  dX0_firstWrong_53 rfl rfl rfl ?_
    refine jr_iald (pc' := 55) (v := h.1 37 ((h.1 34 a1.toNatClampNeg).toNatClampNeg)) dX0_firstWrong_54 rfl (by decide) rfl (b1 c1) rfl ?_
    refine jr_iconst (pc' := 56) (v := 1) dX0_firstWrong_55 rfl (by decide) ?_
    refine jr_iadd (pc' := 57)  dX0_firstWrong_56 rfl  ?_
    refine jr_iast (pc' := 58) (j := (h.1 34 a1.toNatClampNeg).toNatClampNeg) dX0_firstWrong_57 rfl (by decide) rfl (b2 c1) rfl ?_
    refine jr_aload_n (pc' := 59) (i := 0) dX0_firstWrong_58 rfl rfl rfl ?_
    refine jr_get (pc' := 62) jK0 (k := 33) (j := 0) (v := .ref 18) wfX0_28 dX0_firstWrong_59 rfl (by decide) rfl (by decide) rfl ?_
    refine jr_aload_n (pc' := 63) (i := 0) dX0_firstWrong_62 rfl rfl rfl ?_
    refine jr_get (pc' := 66) jK0 (k := 33) (j := 4) (v := .ref 36) wfX0_22 dX0_firstWrong_63 rfl (by decide) rfl (by decide) rfl ?_
    refine jr_iload_n (pc' := 67) (i := 2) dX0_firstWrong_66 rfl rfl rfl ?_
    refine jr_iald (pc' := 68) (v := h.1 36 ((h.1 34 a1.toNatClampNeg).toNatClampNeg)) dX0_firstWrong_67 rfl (by decide) rfl (b3 c1) rfl ?_
    refine jr_aload_n (pc' := 69) (i := 0) dX0_firstWrong_68 rfl rfl rfl ?_
    refine jr_get (pc' := 72) jK0 (k := 33) (j := 3) (v := .ref 35) wfX0_19 dX0_firstWrong_69 rfl (by decide) rfl (by decide) rfl ?_
    refine jr_iload_n (pc' := 73) (i := 1) dX0_firstWrong_72 rfl rfl rfl ?_
    refine jr_iald (pc' := 74) (v := h.1 35 a1.toNatClampNeg) dX0_firstWrong_73 rfl (by decide) rfl (b4 c1) rfl ?_
    refine jr_aload_n (pc' := 75) (i := 0) dX0_firstWrong_74 rfl rfl rfl ?_
    refine jr_get (pc' := 78) jK0 (k := 33) (j := 0) (v := .ref 18) wfX0_28 dX0_firstWrong_75 rfl (by decide) rfl (by decide) rfl ?_
    refine jr_get (pc' := 81) jK5 (k := 18) (j := 5) (v := .ref 20) wfX0_50 dX0_firstWrong_78 rfl (by decide) rfl (by decide) rfl ?_
    refine jr_iload_n (pc' := 82) (i := 2) dX0_firstWrong_81 rfl rfl rfl ?_
    refine jr_iald (pc' := 83) (v := h.1 20 ((h.1 34 a1.toNatClampNeg).toNatClampNeg)) dX0_firstWrong_82 rfl (by decide) rfl (b5 c1) rfl ?_
    refine jr_aload_n (pc' := 84) (i := 0) dX0_firstWrong_83 rfl rfl rfl ?_
    refine jr_get (pc' := 87) jK0 (k := 33) (j := 5) (v := .ref 37) wfX0_25 dX0_firstWrong_84 rfl (by decide) rfl (by decide) rfl ?_
    refine jr_iload_n (pc' := 88) (i := 2) dX0_firstWrong_87 rfl rfl rfl ?_
    refine jr_iald (pc' := 89) (v := ((h.1 37 ((h.1 34 a1.toNatClampNeg).toNatClampNeg)) + 1)) dX0_firstWrong_88 rfl (by decide) rfl (b6 c1) (jPI_at (h := h) (k := 37) (j := (h.1 34 a1.toNatClampNeg).toNatClampNeg) (x := ((h.1 37 ((h.1 34 a1.toNatClampNeg).toNatClampNeg)) + 1))) ?_
    refine jr_callV (pc' := 92) (k := 18) (av := [.int (h.1 36 ((h.1 34 a1.toNatClampNeg).toNatClampNeg)), .int (h.1 35 a1.toNatClampNeg), .int (h.1 20 ((h.1 34 a1.toNatClampNeg).toNatClampNeg)), .int ((h.1 37 ((h.1 34 a1.toNatClampNeg).toNatClampNeg)) + 1)]) (st := []) sX5_wayLeads wmX0_53 dX0_firstWrong_89 rfl (by decide) rfl (by decide) rfl rfl rfl (Nat.le_of_ble_eq_true rfl) rfl (c_StwayLeads (n := n) (h.1 36 ((h.1 34 a1.toNatClampNeg).toNatClampNeg)) (h.1 35 a1.toNatClampNeg) (h.1 20 ((h.1 34 a1.toNatClampNeg).toNatClampNeg)) ((h.1 37 ((h.1 34 a1.toNatClampNeg).toNatClampNeg)) + 1) (jPI h 37 ((h.1 34 a1.toNatClampNeg).toNatClampNeg) ((h.1 37 ((h.1 34 a1.toNatClampNeg).toNatClampNeg)) + 1)) (b7 c1)) (fun v h2 hp => ?_)
    rw [hp.1, hp.2]
    show jG E mX0_firstWrong (n + 4) X Post 92 [some (.ref 33), some (.int a1), some (.int (h.1 34 a1.toNatClampNeg)), none] [.int (f_StwayLeads (h.1 3 0) (h.1 3 1) (h.1 3 2) (h.2 18 3) (h.1 4) (h.1 5) (h.1 36 ((h.1 34 a1.toNatClampNeg).toNatClampNeg)) (h.1 35 a1.toNatClampNeg) (h.1 20 ((h.1 34 a1.toNatClampNeg).toNatClampNeg)) ((h.1 37 ((h.1 34 a1.toNatClampNeg).toNatClampNeg)) + 1))] (jPI h 37 ((h.1 34 a1.toNatClampNeg).toNatClampNeg) ((h.1 37 ((h.1 34 a1.toNatClampNeg).toNatClampNeg)) + 1))
    refine jr_istore_n (pc' := 93) (i := 3) (lv' := [some (.ref 33), some (.int a1), some (.int (h.1 34 a1.toNatClampNeg)), some (.int (f_StwayLeads (h.1 3 0) (h.1 3 1) (h.1 3 2) (h.2 18 3) (h.1 4) (h.1 5) (h.1 36 ((h.1 34 a1.toNatClampNeg).toNatClampNeg)) (h.1 35 a1.toNatClampNeg) (h.1 20 ((h.1 34 a1.toNatClampNeg).toNatClampNeg)) ((h.1 37 ((h.1 34 a1.toNatClampNeg).toNatClampNeg)) + 1)))]) dX0_firstWrong_92 rfl rfl (by decide) rfl ?_
    refine jr_iload_n (pc' := 94) (i := 3) dX0_firstWrong_93 rfl rfl rfl ?_
    refine jr_iconst (pc' := 95) (v := (-1)) dX0_firstWrong_94 rfl (by decide) ?_
    by_cases c2 : (f_StwayLeads (h.1 3 0) (h.1 3 1) (h.1 3 2) (h.2 18 3) (h.1 4) (h.1 5) (h.1 36 ((h.1 34 a1.toNatClampNeg).toNatClampNeg)) (h.1 35 a1.toNatClampNeg) (h.1 20 ((h.1 34 a1.toNatClampNeg).toNatClampNeg)) ((h.1 37 ((h.1 34 a1.toNatClampNeg).toNatClampNeg)) + 1)) = (-1)
    · refine jr_icmp_neF (pc' := 98) (tgt := 100) dX0_firstWrong_95 rfl rfl c2 ?_
      refine jr_iload_n (pc' := 99) (i := 1) dX0_firstWrong_98 rfl rfl rfl ?_
      exact jr_iret dX0_firstWrong_99 rfl rfl (k1 c1 c2)
    · refine jr_icmp_neT (pc' := 100) dX0_firstWrong_95 rfl c2 ?_
      refine jr_aload_n (pc' := 101) (i := 0) dX0_firstWrong_100 rfl rfl rfl ?_
      refine jr_get (pc' := 104) jK0 (k := 33) (j := 4) (v := .ref 36) wfX0_22 dX0_firstWrong_101 rfl (by decide) rfl (by decide) rfl ?_
      refine jr_iload_n (pc' := 105) (i := 2) dX0_firstWrong_104 rfl rfl rfl ?_
      refine jr_iload_n (pc' := 106) (i := 3) dX0_firstWrong_105 rfl rfl rfl ?_
      refine jr_iast (pc' := 107) (j := (h.1 34 a1.toNatClampNeg).toNatClampNeg) dX0_firstWrong_106 rfl (by decide) rfl (b8 c1 c2) rfl ?_
      refine jr_iinc (pc' := 110) (i := 1) (v := (a1 + 1)) (lv' := [some (.ref 33), some (.int (a1 + 1)), some (.int (h.1 34 a1.toNatClampNeg)), some (.int (f_StwayLeads (h.1 3 0) (h.1 3 1) (h.1 3 2) (h.2 18 3) (h.1 4) (h.1 5) (h.1 36 ((h.1 34 a1.toNatClampNeg).toNatClampNeg)) (h.1 35 a1.toNatClampNeg) (h.1 20 ((h.1 34 a1.toNatClampNeg).toNatClampNeg)) ((h.1 37 ((h.1 34 a1.toNatClampNeg).toNatClampNeg)) + 1)))]) dX0_firstWrong_107 rfl rfl (congrArg (a1 + ·) (by decide)) (by decide) rfl ?_
      refine jr_goto (pc' := 33) dX0_firstWrong_110 rfl ?_
      exact jG.weak (lv' := [some (.ref 33), some (.int (a1 + 1)), none, none]) ⟨rfl, rfl, trivial⟩ (k2 c1 c2)

