theorem q_Stbegin_0 {E : jEnv} {n : Nat} {X : State → Prop} {Post : Option Value → HP → Prop}  (h : HP)
    (k0 : jCall E mJ7_fill_53178 n [.ref 21, .int 0] (jPA (jPA (jPL (jPI h 18 1 0) 18 3 0) 19 (va_cpy (h.1 6) (h.1 19) (0 : Int32).toNatClampNeg (0 : Int32).toNatClampNeg (4 : Int32).toNatClampNeg)) 20 (va_cpy (h.1 7) (h.1 20) (0 : Int32).toNatClampNeg (0 : Int32).toNatClampNeg (4 : Int32).toNatClampNeg)) (fun v h2 => jG E mX5_begin (n + 1) X Post 52 [some (.ref 18)] (v.toList ++ []) h2))
    : jG E mX5_begin (n + 1) X Post 0 [some (.ref 18)] [] h := by
  refine jr_aload_n (pc' := 1) (i := 0) dX5_begin_0 rfl rfl rfl ?_
  refine jr_iconst (pc' := 2) (v := 0) dX5_begin_1 rfl (by decide) ?_
  refine jr_putI (pc' := 5) jK5 (k := 18) (j := 1) wfX5_9 dX5_begin_2 rfl (by decide) rfl (by decide) (by decide) rfl rfl rfl ?_
  refine jr_aload_n (pc' := 6) (i := 0) dX5_begin_5 rfl rfl rfl ?_
  refine jr_lconst (pc' := 7) (v := 0) dX5_begin_6 rfl (by decide) ?_
  refine jr_putL (pc' := 10) jK5 (k := 18) (j := 3) wfX5_18 dX5_begin_7 rfl (by decide) rfl (by decide) rfl rfl rfl rfl ?_
  refine jr_aload_n (pc' := 11) (i := 0) dX5_begin_10 rfl rfl rfl ?_
  refine jr_get (pc' := 14) jK5 (k := 18) (j := 0) (v := .ref 3) wfX5_38 dX5_begin_11 rfl (by decide) rfl (by decide) rfl ?_
  refine jr_get (pc' := 17) jK2 (k := 3) (j := 11) (v := .ref 6) wfX5_42 dX5_begin_14 rfl (by decide) rfl (by decide) rfl ?_
  refine jr_iconst (pc' := 18) (v := 0) dX5_begin_17 rfl (by decide) ?_
  refine jr_aload_n (pc' := 19) (i := 0) dX5_begin_18 rfl rfl rfl ?_
  refine jr_get (pc' := 22) jK5 (k := 18) (j := 4) (v := .ref 19) wfX5_22 dX5_begin_19 rfl (by decide) rfl (by decide) rfl ?_
  refine jr_iconst (pc' := 23) (v := 0) dX5_begin_22 rfl (by decide) ?_
  refine jr_iconst (pc' := 24) (v := 4) dX5_begin_23 rfl (by decide) ?_
  refine jr_copy (pc' := 27) wmX5_47 wAcN wAcS wAcI dX5_begin_24 rfl (by omega) (by decide) rfl (by decide) rfl (by decide) (by decide) (by decide) (by decide) (by decide) (Nat.le_of_ble_eq_true rfl) ?_
  refine jr_aload_n (pc' := 28) (i := 0) dX5_begin_27 rfl rfl rfl ?_
  refine jr_get (pc' := 31) jK5 (k := 18) (j := 0) (v := .ref 3) wfX5_38 dX5_begin_28 rfl (by decide) rfl (by decide) rfl ?_
  refine jr_get (pc' := 34) jK2 (k := 3) (j := 12) (v := .ref 7) wfX5_53 dX5_begin_31 rfl (by decide) rfl (by decide) rfl ?_
  refine jr_iconst (pc' := 35) (v := 0) dX5_begin_34 rfl (by decide) ?_
  refine jr_aload_n (pc' := 36) (i := 0) dX5_begin_35 rfl rfl rfl ?_
  refine jr_get (pc' := 39) jK5 (k := 18) (j := 5) (v := .ref 20) wfX5_26 dX5_begin_36 rfl (by decide) rfl (by decide) rfl ?_
  refine jr_iconst (pc' := 40) (v := 0) dX5_begin_39 rfl (by decide) ?_
  refine jr_iconst (pc' := 41) (v := 4) dX5_begin_40 rfl (by decide) ?_
  refine jr_copy (pc' := 44) wmX5_47 wAcN wAcS wAcI dX5_begin_41 rfl (by omega) (by decide) rfl (by decide) rfl (by decide) (by decide) (by decide) (by decide) (by decide) (Nat.le_of_ble_eq_true rfl) ?_
  refine jr_aload_n (pc' := 45) (i := 0) dX5_begin_44 rfl rfl rfl ?_
  refine jr_get (pc' := 48) jK5 (k := 18) (j := 6) (v := .ref 21) wfX5_29 dX5_begin_45 rfl (by decide) rfl (by decide) rfl ?_
  refine jr_iconst (pc' := 49) (v := 0) dX5_begin_48 rfl (by decide) ?_
  obtain ⟨P1, hC1, hK1⟩ := k0
  exact jr_callS (pc' := 52) (av := [.ref 21, .int 0]) (st := []) sJ7_fill_53178 wmX5_56 dX5_begin_49 rfl rfl (Nat.le_of_ble_eq_true rfl) rfl hC1 (fun v h2 hp => jG.weak (lv' := [some (.ref 18)]) ⟨rfl, trivial⟩ (hK1 v h2 hp))

theorem q_Stbegin_52 {E : jEnv} {n : Nat} {X : State → Prop} {Post : Option Value → HP → Prop}  (h : HP)
    (k0 : jCall E mJ7_fill_53178 n [.ref 22, .int 0] h (fun v h2 => jG E mX5_begin (n + 1) X Post 60 [some (.ref 18)] (v.toList ++ []) h2))
    : jG E mX5_begin (n + 1) X Post 52 [some (.ref 18)] [] h := by
  refine jr_aload_n (pc' := 53) (i := 0) dX5_begin_52 rfl rfl rfl ?_
  refine jr_get (pc' := 56) jK5 (k := 18) (j := 7) (v := .ref 22) wfX5_32 dX5_begin_53 rfl (by decide) rfl (by decide) rfl ?_
  refine jr_iconst (pc' := 57) (v := 0) dX5_begin_56 rfl (by decide) ?_
  obtain ⟨P1, hC1, hK1⟩ := k0
  exact jr_callS (pc' := 60) (av := [.ref 22, .int 0]) (st := []) sJ7_fill_53178 wmX5_56 dX5_begin_57 rfl rfl (Nat.le_of_ble_eq_true rfl) rfl hC1 (fun v h2 hp => jG.weak (lv' := [some (.ref 18)]) ⟨rfl, trivial⟩ (hK1 v h2 hp))

theorem q_Stbegin_60 {E : jEnv} {n : Nat} {X : State → Prop} {Post : Option Value → HP → Prop}  (h : HP)
    (k0 : jCall E mJ7_fill_53178 n [.ref 23, .int 0] h (fun v h2 => jG E mX5_begin (n + 1) X Post 68 [some (.ref 18)] (v.toList ++ []) h2))
    : jG E mX5_begin (n + 1) X Post 60 [some (.ref 18)] [] h := by
  refine jr_aload_n (pc' := 61) (i := 0) dX5_begin_60 rfl rfl rfl ?_
  refine jr_get (pc' := 64) jK5 (k := 18) (j := 8) (v := .ref 23) wfX5_35 dX5_begin_61 rfl (by decide) rfl (by decide) rfl ?_
  refine jr_iconst (pc' := 65) (v := 0) dX5_begin_64 rfl (by decide) ?_
  obtain ⟨P1, hC1, hK1⟩ := k0
  exact jr_callS (pc' := 68) (av := [.ref 23, .int 0]) (st := []) sJ7_fill_53178 wmX5_56 dX5_begin_65 rfl rfl (Nat.le_of_ble_eq_true rfl) rfl hC1 (fun v h2 hp => jG.weak (lv' := [some (.ref 18)]) ⟨rfl, trivial⟩ (hK1 v h2 hp))

theorem q_Stbegin_68 {E : jEnv} {n : Nat} {X : State → Prop} {Post : Option Value → HP → Prop}  (h : HP)
    (k0 : jCall E mX5_hearAndShare n [.ref 18] h (fun v h2 => jG E mX5_begin (n + 1) X Post 72 [none] (v.toList ++ []) h2))
    : jG E mX5_begin (n + 1) X Post 68 [some (.ref 18)] [] h := by
  refine jr_aload_n (pc' := 69) (i := 0) dX5_begin_68 rfl rfl rfl ?_
  obtain ⟨P1, hC1, hK1⟩ := k0
  exact jr_callV (pc' := 72) (k := 18) (av := []) (st := []) sX5_hearAndShare wmX5_62 dX5_begin_69 rfl (by decide) rfl (by decide) rfl rfl rfl (Nat.le_of_ble_eq_true rfl) rfl hC1 (fun v h2 hp => jG.weak (lv' := [none]) trivial (hK1 v h2 hp))

theorem q_Stbegin_72 {E : jEnv} {n : Nat} {X : State → Prop} {Post : Option Value → HP → Prop}  (h : HP)
    (k0 : Post none h)
    : jG E mX5_begin (n + 1) X Post 72 [none] [] h := by
  exact jr_vret dX5_begin_72 rfl (k0)

theorem q_SthearAndShare_0 {E : jEnv} {n : Nat} {X : State → Prop} {Post : Option Value → HP → Prop}  (h : HP)
    (k0 : jG E mX5_hearAndShare (n + 1) X Post 2 [some (.ref 18), some (.int 0), none] [] h)
    : jG E mX5_hearAndShare (n + 1) X Post 0 [some (.ref 18), none, none] [] h := by
  refine jr_iconst (pc' := 1) (v := 0) dX5_hearAndShare_0 rfl (by decide) ?_
  refine jr_istore_n (pc' := 2) (i := 1) (lv' := [some (.ref 18), some (.int 0), none]) dX5_hearAndShare_1 rfl rfl (by decide) rfl ?_
  exact jG.weak (lv' := [some (.ref 18), some (.int 0), none]) ⟨rfl, rfl, trivial⟩ (k0)

theorem q_SthearAndShare_2 {E : jEnv} {n : Nat} {X : State → Prop} {Post : Option Value → HP → Prop} (a1 : Int32) (h : HP)
    (k0 : ((h.1 3 3) ≤ a1) → jG E mX5_hearAndShare (n + 1) X Post 70 [some (.ref 18), some (.int 0), none] [] h)
    (k1 : (¬ (h.1 3 3) ≤ a1) → jG E mX5_hearAndShare (n + 1) X Post 15 [some (.ref 18), some (.int a1), some (.int 0)] [] h)
    : jG E mX5_hearAndShare (n + 1) X Post 2 [some (.ref 18), some (.int a1), none] [] h := by
  refine jr_iload_n (pc' := 3) (i := 1) dX5_hearAndShare_2 rfl rfl rfl ?_
  refine jr_aload_n (pc' := 4) (i := 0) dX5_hearAndShare_3 rfl rfl rfl ?_
  refine jr_get (pc' := 7) jK5 (k := 18) (j := 0) (v := .ref 3) wfX5_38 dX5_hearAndShare_4 rfl (by decide) rfl (by decide) rfl ?_
  refine jr_get (pc' := 10) jK2 (k := 3) (j := 3) (v := .int (h.1 3 3)) wfX5_79 dX5_hearAndShare_7 rfl (by decide) rfl (by decide) rfl ?_
  by_cases c1 : (h.1 3 3) ≤ a1
  · refine jr_icmp_geT (pc' := 68) dX5_hearAndShare_10 rfl c1 ?_
    refine jr_iconst (pc' := 69) (v := 0) dX5_hearAndShare_68 rfl (by decide) ?_
    refine jr_istore_n (pc' := 70) (i := 1) (lv' := [some (.ref 18), some (.int 0), none]) dX5_hearAndShare_69 rfl rfl (by decide) rfl ?_
    exact jG.weak (lv' := [some (.ref 18), some (.int 0), none]) ⟨rfl, rfl, trivial⟩ (k0 c1)
  · refine jr_icmp_geF (pc' := 13) (tgt := 68) dX5_hearAndShare_10 rfl rfl c1 ?_
    refine jr_iconst (pc' := 14) (v := 0) dX5_hearAndShare_13 rfl (by decide) ?_
    refine jr_istore_n (pc' := 15) (i := 2) (lv' := [some (.ref 18), some (.int a1), some (.int 0)]) dX5_hearAndShare_14 rfl rfl (by decide) rfl ?_
    exact jG.weak (lv' := [some (.ref 18), some (.int a1), some (.int 0)]) ⟨rfl, rfl, rfl, trivial⟩ (k1 c1)

theorem q_SthearAndShare_70 {E : jEnv} {n : Nat} {X : State → Prop} {Post : Option Value → HP → Prop} (a1 : Int32) (h : HP)
    (k0 : ((h.1 3 3) ≤ a1) → Post none h)
    (b0 : (¬ (h.1 3 3) ≤ a1) → vp_in a1 4)
    (k1 : (¬ (h.1 3 3) ≤ a1) → jCall E mX5_knownAt n [.ref 18, .int (h.1 19 a1.toNatClampNeg)] h (fun v h2 => jG E mX5_hearAndShare (n + 1) X Post 96 [some (.ref 18), some (.int a1), none] (v.toList ++ [.int a1, .ref 21]) h2))
    : jG E mX5_hearAndShare (n + 1) X Post 70 [some (.ref 18), some (.int a1), none] [] h := by
  refine jr_iload_n (pc' := 71) (i := 1) dX5_hearAndShare_70 rfl rfl rfl ?_
  refine jr_aload_n (pc' := 72) (i := 0) dX5_hearAndShare_71 rfl rfl rfl ?_
  refine jr_get (pc' := 75) jK5 (k := 18) (j := 0) (v := .ref 3) wfX5_38 dX5_hearAndShare_72 rfl (by decide) rfl (by decide) rfl ?_
  refine jr_get (pc' := 78) jK2 (k := 3) (j := 3) (v := .int (h.1 3 3)) wfX5_79 dX5_hearAndShare_75 rfl (by decide) rfl (by decide) rfl ?_
  by_cases c1 : (h.1 3 3) ≤ a1
  · refine jr_icmp_geT (pc' := 103) dX5_hearAndShare_78 rfl c1 ?_
    exact jr_vret dX5_hearAndShare_103 rfl (k0 c1)
  · refine jr_icmp_geF (pc' := 81) (tgt := 103) dX5_hearAndShare_78 rfl rfl c1 ?_
    refine jr_aload_n (pc' := 82) (i := 0) dX5_hearAndShare_81 rfl rfl rfl ?_
    refine jr_get (pc' := 85) jK5 (k := 18) (j := 6) (v := .ref 21) wfX5_29 dX5_hearAndShare_82 rfl (by decide) rfl (by decide) rfl ?_
    refine jr_iload_n (pc' := 86) (i := 1) dX5_hearAndShare_85 rfl rfl rfl ?_
    refine jr_aload_n (pc' := 87) (i := 0) dX5_hearAndShare_86 rfl rfl rfl ?_
    refine jr_aload_n (pc' := 88) (i := 0) dX5_hearAndShare_87 rfl rfl rfl ?_
    refine jr_get (pc' := 91) jK5 (k := 18) (j := 4) (v := .ref 19) wfX5_22 dX5_hearAndShare_88 rfl (by decide) rfl (by decide) rfl ?_
    refine jr_iload_n (pc' := 92) (i := 1) dX5_hearAndShare_91 rfl rfl rfl ?_
    refine jr_iald (pc' := 93) (v := h.1 19 a1.toNatClampNeg) dX5_hearAndShare_92 rfl (by decide) rfl (b0 c1) rfl ?_
    obtain ⟨P1, hC1, hK1⟩ := k1 c1
    exact jr_callV (pc' := 96) (k := 18) (av := [.int (h.1 19 a1.toNatClampNeg)]) (st := [.int a1, .ref 21]) sX5_knownAt wmX5_96 dX5_hearAndShare_93 rfl (by decide) rfl (by decide) rfl rfl rfl (Nat.le_of_ble_eq_true rfl) rfl hC1 (fun v h2 hp => jG.weak (lv' := [some (.ref 18), some (.int a1), none]) ⟨rfl, rfl, trivial⟩ (hK1 v h2 hp))

theorem q_SthearAndShare_15 {E : jEnv} {n : Nat} {X : State → Prop} {Post : Option Value → HP → Prop} (a1 : Int32) (a2 : Int32) (h : HP)
    (k0 : ((h.1 3 4) ≤ a2) → jG E mX5_hearAndShare (n + 1) X Post 2 [some (.ref 18), some (.int (a1 + 1)), none] [] h)
    (b0 : (¬ (h.1 3 4) ≤ a2) → vp_in a1 4)
    (b1 : (¬ (h.1 3 4) ≤ a2) → vp_in a2 4)
    (b2 : (¬ (h.1 3 4) ≤ a2) → ((h.1 19 a1.toNatClampNeg) = (h.1 8 a2.toNatClampNeg)) → vp_in a1 4)
    (b3 : (¬ (h.1 3 4) ≤ a2) → ((h.1 19 a1.toNatClampNeg) = (h.1 8 a2.toNatClampNeg)) → vp_in a1 4)
    (k1 : (¬ (h.1 3 4) ≤ a2) → ((h.1 19 a1.toNatClampNeg) = (h.1 8 a2.toNatClampNeg)) → jG E mX5_hearAndShare (n + 1) X Post 15 [some (.ref 18), some (.int a1), some (.int (a2 + 1))] [] (jPI h 21 a1.toNatClampNeg ((h.1 21 a1.toNatClampNeg) ||| (1 <<< (a2 &&& 31)))))
    (k2 : (¬ (h.1 3 4) ≤ a2) → (¬ (h.1 19 a1.toNatClampNeg) = (h.1 8 a2.toNatClampNeg)) → jG E mX5_hearAndShare (n + 1) X Post 15 [some (.ref 18), some (.int a1), some (.int (a2 + 1))] [] h)
    : jG E mX5_hearAndShare (n + 1) X Post 15 [some (.ref 18), some (.int a1), some (.int a2)] [] h := by
  refine jr_iload_n (pc' := 16) (i := 2) dX5_hearAndShare_15 rfl rfl rfl ?_
  refine jr_aload_n (pc' := 17) (i := 0) dX5_hearAndShare_16 rfl rfl rfl ?_
  refine jr_get (pc' := 20) jK5 (k := 18) (j := 0) (v := .ref 3) wfX5_38 dX5_hearAndShare_17 rfl (by decide) rfl (by decide) rfl ?_
  refine jr_get (pc' := 23) jK2 (k := 3) (j := 4) (v := .int (h.1 3 4)) wfX5_90 dX5_hearAndShare_20 rfl (by decide) rfl (by decide) rfl ?_
  by_cases c1 : (h.1 3 4) ≤ a2
  · refine jr_icmp_geT (pc' := 62) dX5_hearAndShare_23 rfl c1 ?_
    refine jr_iinc (pc' := 65) (i := 1) (v := (a1 + 1)) (lv' := [some (.ref 18), some (.int (a1 + 1)), some (.int a2)]) dX5_hearAndShare_62 rfl rfl (congrArg (a1 + ·) (by decide)) (by decide) rfl ?_
    refine jr_goto (pc' := 2) dX5_hearAndShare_65 rfl ?_
    exact jG.weak (lv' := [some (.ref 18), some (.int (a1 + 1)), none]) ⟨rfl, rfl, trivial⟩ (k0 c1)
  · refine jr_icmp_geF (pc' := 26) (tgt := 62) dX5_hearAndShare_23 rfl rfl c1 ?_
    refine jr_aload_n (pc' := 27) (i := 0) dX5_hearAndShare_26 rfl rfl rfl ?_
    refine jr_get (pc' := 30) jK5 (k := 18) (j := 4) (v := .ref 19) wfX5_22 dX5_hearAndShare_27 rfl (by decide) rfl (by decide) rfl ?_
    refine jr_iload_n (pc' := 31) (i := 1) dX5_hearAndShare_30 rfl rfl rfl ?_
    refine jr_iald (pc' := 32) (v := h.1 19 a1.toNatClampNeg) dX5_hearAndShare_31 rfl (by decide) rfl (b0 c1) rfl ?_
    refine jr_aload_n (pc' := 33) (i := 0) dX5_hearAndShare_32 rfl rfl rfl ?_
    refine jr_get (pc' := 36) jK5 (k := 18) (j := 0) (v := .ref 3) wfX5_38 dX5_hearAndShare_33 rfl (by decide) rfl (by decide) rfl ?_
    refine jr_get (pc' := 39) jK2 (k := 3) (j := 13) (v := .ref 8) wfX5_93 dX5_hearAndShare_36 rfl (by decide) rfl (by decide) rfl ?_
    refine jr_iload_n (pc' := 40) (i := 2) dX5_hearAndShare_39 rfl rfl rfl ?_
    refine jr_iald (pc' := 41) (v := h.1 8 a2.toNatClampNeg) dX5_hearAndShare_40 rfl (by decide) rfl (b1 c1) rfl ?_
    by_cases c2 : (h.1 19 a1.toNatClampNeg) = (h.1 8 a2.toNatClampNeg)
    · refine jr_icmp_neF (pc' := 44) (tgt := 56) dX5_hearAndShare_41 rfl rfl c2 ?_
      refine jr_aload_n (pc' := 45) (i := 0) dX5_hearAndShare_44 rfl rfl rfl ?_
      refine jr_get (pc' := 48) jK5 (k := 18) (j := 6) (v := .ref 21) wfX5_29 dX5_hearAndShare_45 rfl (by decide) rfl (by decide) rfl ?_
      refine jr_iload_n (pc' := 49) (i := 1) dX5_hearAndShare_48 rfl rfl rfl ?_
      refine jr_dup2 (pc' := 50)  dX5_hearAndShare_49 rfl rfl rfl ?_
      refine jr_iald (pc' := 51) (v := h.1 21 a1.toNatClampNeg) dX5_hearAndShare_50 rfl (by decide) rfl (b2 c1 c2) rfl ?_
      refine jr_iconst (pc' := 52) (v := 1) dX5_hearAndShare_51 rfl (by decide) ?_
      refine jr_iload_n (pc' := 53) (i := 2) dX5_hearAndShare_52 rfl rfl rfl ?_
      refine jr_ishl (pc' := 54)  dX5_hearAndShare_53 rfl  ?_
      refine jr_ior (pc' := 55)  dX5_hearAndShare_54 rfl  ?_
      refine jr_iast (pc' := 56) (j := a1.toNatClampNeg) dX5_hearAndShare_55 rfl (by decide) rfl (b3 c1 c2) rfl ?_
      refine jr_iinc (pc' := 59) (i := 2) (v := (a2 + 1)) (lv' := [some (.ref 18), some (.int a1), some (.int (a2 + 1))]) dX5_hearAndShare_56 rfl rfl (congrArg (a2 + ·) (by decide)) (by decide) rfl ?_
      refine jr_goto (pc' := 15) dX5_hearAndShare_59 rfl ?_
      exact jG.weak (lv' := [some (.ref 18), some (.int a1), some (.int (a2 + 1))]) ⟨rfl, rfl, rfl, trivial⟩ (k1 c1 c2)
    · refine jr_icmp_neT (pc' := 56) dX5_hearAndShare_41 rfl c2 ?_
      refine jr_iinc (pc' := 59) (i := 2) (v := (a2 + 1)) (lv' := [some (.ref 18), some (.int a1), some (.int (a2 + 1))]) dX5_hearAndShare_56 rfl rfl (congrArg (a2 + ·) (by decide)) (by decide) rfl ?_
      refine jr_goto (pc' := 15) dX5_hearAndShare_59 rfl ?_
      exact jG.weak (lv' := [some (.ref 18), some (.int a1), some (.int (a2 + 1))]) ⟨rfl, rfl, rfl, trivial⟩ (k2 c1 c2)

theorem q_SthearAndShare_96 {E : jEnv} {n : Nat} {X : State → Prop} {Post : Option Value → HP → Prop} (a1 : Int32) (s0 : Int32) (s1 : Int32) (h : HP)
    (b0 : vp_in s1 4)
    (k0 : jG E mX5_hearAndShare (n + 1) X Post 70 [some (.ref 18), some (.int (a1 + 1)), none] [] (jPI h 21 s1.toNatClampNeg s0))
    : jG E mX5_hearAndShare (n + 1) X Post 96 [some (.ref 18), some (.int a1), none] [.int s0, .int s1, .ref 21] h := by
  refine jr_iast (pc' := 97) (j := s1.toNatClampNeg) dX5_hearAndShare_96 rfl (by decide) rfl (b0) rfl ?_
  refine jr_iinc (pc' := 100) (i := 1) (v := (a1 + 1)) (lv' := [some (.ref 18), some (.int (a1 + 1)), none]) dX5_hearAndShare_97 rfl rfl (congrArg (a1 + ·) (by decide)) (by decide) rfl ?_
  refine jr_goto (pc' := 70) dX5_hearAndShare_100 rfl ?_
  exact jG.weak (lv' := [some (.ref 18), some (.int (a1 + 1)), none]) ⟨rfl, rfl, trivial⟩ (k0)

theorem q_StknownAt_0 {E : jEnv} {n : Nat} {X : State → Prop} {Post : Option Value → HP → Prop} (x : Int32) (h : HP)
    (k0 : jG E mX5_knownAt n X Post 4 [some (.ref 18), some (.int x), some (.int 0), some (.int 0)] [] h)
    : jG E mX5_knownAt n X Post 0 [some (.ref 18), some (.int x), none, none] [] h := by
  refine jr_iconst (pc' := 1) (v := 0) dX5_knownAt_0 rfl (by decide) ?_
  refine jr_istore_n (pc' := 2) (i := 2) (lv' := [some (.ref 18), some (.int x), some (.int 0), none]) dX5_knownAt_1 rfl rfl (by decide) rfl ?_
  refine jr_iconst (pc' := 3) (v := 0) dX5_knownAt_2 rfl (by decide) ?_
  refine jr_istore_n (pc' := 4) (i := 3) (lv' := [some (.ref 18), some (.int x), some (.int 0), some (.int 0)]) dX5_knownAt_3 rfl rfl (by decide) rfl ?_
  exact jG.weak (lv' := [some (.ref 18), some (.int x), some (.int 0), some (.int 0)]) ⟨rfl, rfl, rfl, rfl, trivial⟩ (k0)

theorem q_StknownAt_4 {E : jEnv} {n : Nat} {X : State → Prop} {Post : Option Value → HP → Prop} (a1 : Int32) (a2 : Int32) (a3 : Int32) (h : HP)
    (k0 : ((h.1 3 3) ≤ a3) → Post (some (.int a2)) h)
    (b0 : (¬ (h.1 3 3) ≤ a3) → vp_in a3 4)
    (b1 : (¬ (h.1 3 3) ≤ a3) → ((h.1 19 a3.toNatClampNeg) = a1) → vp_in a3 4)
    (k1 : (¬ (h.1 3 3) ≤ a3) → ((h.1 19 a3.toNatClampNeg) = a1) → jG E mX5_knownAt n X Post 4 [some (.ref 18), some (.int a1), some (.int (a2 ||| (h.1 21 a3.toNatClampNeg))), some (.int (a3 + 1))] [] h)
    (k2 : (¬ (h.1 3 3) ≤ a3) → (¬ (h.1 19 a3.toNatClampNeg) = a1) → jG E mX5_knownAt n X Post 4 [some (.ref 18), some (.int a1), some (.int a2), some (.int (a3 + 1))] [] h)
    : jG E mX5_knownAt n X Post 4 [some (.ref 18), some (.int a1), some (.int a2), some (.int a3)] [] h := by
  refine jr_iload_n (pc' := 5) (i := 3) dX5_knownAt_4 rfl rfl rfl ?_
  refine jr_aload_n (pc' := 6) (i := 0) dX5_knownAt_5 rfl rfl rfl ?_
  refine jr_get (pc' := 9) jK5 (k := 18) (j := 0) (v := .ref 3) wfX5_38 dX5_knownAt_6 rfl (by decide) rfl (by decide) rfl ?_
  refine jr_get (pc' := 12) jK2 (k := 3) (j := 3) (v := .int (h.1 3 3)) wfX5_79 dX5_knownAt_9 rfl (by decide) rfl (by decide) rfl ?_
  by_cases c1 : (h.1 3 3) ≤ a3
  · refine jr_icmp_geT (pc' := 40) dX5_knownAt_12 rfl c1 ?_
    refine jr_iload_n (pc' := 41) (i := 2) dX5_knownAt_40 rfl rfl rfl ?_
    exact jr_iret dX5_knownAt_41 rfl rfl (k0 c1)
  · refine jr_icmp_geF (pc' := 15) (tgt := 40) dX5_knownAt_12 rfl rfl c1 ?_
    refine jr_aload_n (pc' := 16) (i := 0) dX5_knownAt_15 rfl rfl rfl ?_
    refine jr_get (pc' := 19) jK5 (k := 18) (j := 4) (v := .ref 19) wfX5_22 dX5_knownAt_16 rfl (by decide) rfl (by decide) rfl ?_
    refine jr_iload_n (pc' := 20) (i := 3) dX5_knownAt_19 rfl rfl rfl ?_
    refine jr_iald (pc' := 21) (v := h.1 19 a3.toNatClampNeg) dX5_knownAt_20 rfl (by decide) rfl (b0 c1) rfl ?_
    refine jr_iload_n (pc' := 22) (i := 1) dX5_knownAt_21 rfl rfl rfl ?_
    by_cases c2 : (h.1 19 a3.toNatClampNeg) = a1
    · refine jr_icmp_neF (pc' := 25) (tgt := 34) dX5_knownAt_22 rfl rfl c2 ?_
      refine jr_iload_n (pc' := 26) (i := 2) dX5_knownAt_25 rfl rfl rfl ?_
      refine jr_aload_n (pc' := 27) (i := 0) dX5_knownAt_26 rfl rfl rfl ?_
      refine jr_get (pc' := 30) jK5 (k := 18) (j := 6) (v := .ref 21) wfX5_29 dX5_knownAt_27 rfl (by decide) rfl (by decide) rfl ?_
      refine jr_iload_n (pc' := 31) (i := 3) dX5_knownAt_30 rfl rfl rfl ?_
      refine jr_iald (pc' := 32) (v := h.1 21 a3.toNatClampNeg) dX5_knownAt_31 rfl (by decide) rfl (b1 c1 c2) rfl ?_
      refine jr_ior (pc' := 33)  dX5_knownAt_32 rfl  ?_
      refine jr_istore_n (pc' := 34) (i := 2) (lv' := [some (.ref 18), some (.int a1), some (.int (a2 ||| (h.1 21 a3.toNatClampNeg))), some (.int a3)]) dX5_knownAt_33 rfl rfl (by decide) rfl ?_
      refine jr_iinc (pc' := 37) (i := 3) (v := (a3 + 1)) (lv' := [some (.ref 18), some (.int a1), some (.int (a2 ||| (h.1 21 a3.toNatClampNeg))), some (.int (a3 + 1))]) dX5_knownAt_34 rfl rfl (congrArg (a3 + ·) (by decide)) (by decide) rfl ?_
      refine jr_goto (pc' := 4) dX5_knownAt_37 rfl ?_
      exact jG.weak (lv' := [some (.ref 18), some (.int a1), some (.int (a2 ||| (h.1 21 a3.toNatClampNeg))), some (.int (a3 + 1))]) ⟨rfl, rfl, rfl, rfl, trivial⟩ (k1 c1 c2)
    · refine jr_icmp_neT (pc' := 34) dX5_knownAt_22 rfl c2 ?_
      refine jr_iinc (pc' := 37) (i := 3) (v := (a3 + 1)) (lv' := [some (.ref 18), some (.int a1), some (.int a2), some (.int (a3 + 1))]) dX5_knownAt_34 rfl rfl (congrArg (a3 + ·) (by decide)) (by decide) rfl ?_
      refine jr_goto (pc' := 4) dX5_knownAt_37 rfl ?_
      exact jG.weak (lv' := [some (.ref 18), some (.int a1), some (.int a2), some (.int (a3 + 1))]) ⟨rfl, rfl, rfl, rfl, trivial⟩ (k2 c1 c2)

theorem q_StorderByDraws_0 {E : jEnv} {n : Nat} {X : State → Prop} {Post : Option Value → HP → Prop}  (h : HP)
    (k0 : jG E mX5_orderByDraws n X Post 2 [some (.ref 18), some (.int 0)] [] h)
    : jG E mX5_orderByDraws n X Post 0 [some (.ref 18), none] [] h := by
  refine jr_iconst (pc' := 1) (v := 0) dX5_orderByDraws_0 rfl (by decide) ?_
  refine jr_istore_n (pc' := 2) (i := 1) (lv' := [some (.ref 18), some (.int 0)]) dX5_orderByDraws_1 rfl rfl (by decide) rfl ?_
  exact jG.weak (lv' := [some (.ref 18), some (.int 0)]) ⟨rfl, rfl, trivial⟩ (k0)

theorem q_StorderByDraws_2 {E : jEnv} {n : Nat} {X : State → Prop} {Post : Option Value → HP → Prop} (a1 : Int32) (h : HP)
    (k0 : ((h.1 3 3) ≤ a1) → Post none h)
    (b0 : (¬ (h.1 3 3) ≤ a1) → vp_in a1 4)
    (k1 : (¬ (h.1 3 3) ≤ a1) → jG E mX5_orderByDraws n X Post 2 [some (.ref 18), some (.int (a1 + 1))] [] (jPI (jPI h 18 2 ((((((h.1 18 2).toInt64) * 1103515245) + 12345) &&& 2147483647).toInt32)) 23 a1.toNatClampNeg ((((((((h.1 18 2).toInt64) * 1103515245) + 12345) &&& 2147483647).toInt32) / 65536) - (((((((h.1 18 2).toInt64) * 1103515245) + 12345) &&& 2147483647).toInt32) / 65536) / 5 * 5)))
    : jG E mX5_orderByDraws n X Post 2 [some (.ref 18), some (.int a1)] [] h := by
  refine jr_iload_n (pc' := 3) (i := 1) dX5_orderByDraws_2 rfl rfl rfl ?_
  refine jr_aload_n (pc' := 4) (i := 0) dX5_orderByDraws_3 rfl rfl rfl ?_
  refine jr_get (pc' := 7) jK5 (k := 18) (j := 0) (v := .ref 3) wfX5_38 dX5_orderByDraws_4 rfl (by decide) rfl (by decide) rfl ?_
  refine jr_get (pc' := 10) jK2 (k := 3) (j := 3) (v := .int (h.1 3 3)) wfX5_79 dX5_orderByDraws_7 rfl (by decide) rfl (by decide) rfl ?_
  by_cases c1 : (h.1 3 3) ≤ a1
  · refine jr_icmp_geT (pc' := 56) dX5_orderByDraws_10 rfl c1 ?_
    exact jr_vret dX5_orderByDraws_56 rfl (k0 c1)
  · refine jr_icmp_geF (pc' := 13) (tgt := 56) dX5_orderByDraws_10 rfl rfl c1 ?_
    refine jr_aload_n (pc' := 14) (i := 0) dX5_orderByDraws_13 rfl rfl rfl ?_
    refine jr_aload_n (pc' := 15) (i := 0) dX5_orderByDraws_14 rfl rfl rfl ?_
    refine jr_get (pc' := 18) jK5 (k := 18) (j := 2) (v := .int (h.1 18 2)) wfX5_15 dX5_orderByDraws_15 rfl (by decide) rfl (by decide) rfl ?_
    refine jr_i2l (pc' := 19)  dX5_orderByDraws_18 rfl  ?_
    refine jr_ldc2 (pc' := 22) (v := 1103515245) dX5_orderByDraws_19 rfl wcX5_100 ?_
    refine jr_lmul (pc' := 23)  dX5_orderByDraws_22 rfl  ?_
    refine jr_ldc2 (pc' := 26) (v := 12345) dX5_orderByDraws_23 rfl wcX5_102 ?_
    refine jr_ladd (pc' := 27)  dX5_orderByDraws_26 rfl  ?_
    refine jr_ldc2 (pc' := 30) (v := 2147483647) dX5_orderByDraws_27 rfl wcX5_104 ?_
    refine jr_land (pc' := 31)  dX5_orderByDraws_30 rfl  ?_
    refine jr_l2i (pc' := 32)  dX5_orderByDraws_31 rfl  ?_
    refine jr_putI (pc' := 35) jK5 (k := 18) (j := 2) wfX5_15 dX5_orderByDraws_32 rfl (by decide) rfl (by decide) (by decide) rfl rfl rfl ?_
    refine jr_aload_n (pc' := 36) (i := 0) dX5_orderByDraws_35 rfl rfl rfl ?_
    refine jr_get (pc' := 39) jK5 (k := 18) (j := 8) (v := .ref 23) wfX5_35 dX5_orderByDraws_36 rfl (by decide) rfl (by decide) rfl ?_
    refine jr_iload_n (pc' := 40) (i := 1) dX5_orderByDraws_39 rfl rfl rfl ?_
    refine jr_aload_n (pc' := 41) (i := 0) dX5_orderByDraws_40 rfl rfl rfl ?_
    refine jr_get (pc' := 44) jK5 (k := 18) (j := 2) (v := .int ((((((h.1 18 2).toInt64) * 1103515245) + 12345) &&& 2147483647).toInt32)) wfX5_15 dX5_orderByDraws_41 rfl (by decide) rfl (by decide) rfl ?_
    refine jr_ldc (pc' := 46) (v := 65536) dX5_orderByDraws_44 rfl wcX5_106 ?_
    refine jr_idiv (pc' := 47)  dX5_orderByDraws_46 rfl (by decide) ?_
    refine jr_iconst (pc' := 48) (v := 5) dX5_orderByDraws_47 rfl (by decide) ?_
    refine jr_irem (pc' := 49)  dX5_orderByDraws_48 rfl (by decide) ?_
    refine jr_iast (pc' := 50) (j := a1.toNatClampNeg) dX5_orderByDraws_49 rfl (by decide) rfl (b0 c1) rfl ?_
    refine jr_iinc (pc' := 53) (i := 1) (v := (a1 + 1)) (lv' := [some (.ref 18), some (.int (a1 + 1))]) dX5_orderByDraws_50 rfl rfl (congrArg (a1 + ·) (by decide)) (by decide) rfl ?_
    refine jr_goto (pc' := 2) dX5_orderByDraws_53 rfl ?_
    exact jG.weak (lv' := [some (.ref 18), some (.int (a1 + 1))]) ⟨rfl, rfl, trivial⟩ (k1 c1)

theorem q_StpassAnHour_0 {E : jEnv} {n : Nat} {X : State → Prop} {Post : Option Value → HP → Prop}  (h : HP)
    (k0 : jG E mX5_passAnHour (n + 4) X Post 12 [some (.ref 18), some (.int 0), none] [] (jPI h 18 1 ((h.1 18 1) + 1)))
    : jG E mX5_passAnHour (n + 4) X Post 0 [some (.ref 18), none, none] [] h := by
  refine jr_aload_n (pc' := 1) (i := 0) dX5_passAnHour_0 rfl rfl rfl ?_
  refine jr_dup (pc' := 2)  dX5_passAnHour_1 rfl rfl ?_
  refine jr_get (pc' := 5) jK5 (k := 18) (j := 1) (v := .int (h.1 18 1)) wfX5_9 dX5_passAnHour_2 rfl (by decide) rfl (by decide) rfl ?_
  refine jr_iconst (pc' := 6) (v := 1) dX5_passAnHour_5 rfl (by decide) ?_
  refine jr_iadd (pc' := 7)  dX5_passAnHour_6 rfl  ?_
  refine jr_putI (pc' := 10) jK5 (k := 18) (j := 1) wfX5_9 dX5_passAnHour_7 rfl (by decide) rfl (by decide) (by decide) rfl rfl rfl ?_
  refine jr_iconst (pc' := 11) (v := 0) dX5_passAnHour_10 rfl (by decide) ?_
  refine jr_istore_n (pc' := 12) (i := 1) (lv' := [some (.ref 18), some (.int 0), none]) dX5_passAnHour_11 rfl rfl (by decide) rfl ?_
  exact jG.weak (lv' := [some (.ref 18), some (.int 0), none]) ⟨rfl, rfl, trivial⟩ (k0)

theorem q_StpassAnHour_12 {E : jEnv} {n : Nat} {X : State → Prop} {Post : Option Value → HP → Prop} (a1 : Int32) (h : HP)
    (k0 : ((h.1 3 3) ≤ a1) → jCall E mX5_hearAndShare (n + 3) [.ref 18] h (fun v h2 => jG E mX5_passAnHour (n + 4) X Post 81 [some (.ref 18), none, none] (v.toList ++ []) h2))
    (b0 : (¬ (h.1 3 3) ≤ a1) → vp_in a1 4)
    (b1 : (¬ (h.1 3 3) ≤ a1) → vp_in a1 4)
    (b2 : (¬ (h.1 3 3) ≤ a1) → vp_in a1 4)
    (b3 : (¬ (h.1 3 3) ≤ a1) → ((¬ (h.1 23 a1.toNatClampNeg) = 0) → (¬ (f_Ldbeside ((h.1 3 0)) ((h.1 3 1)) (h.1 19 a1.toNatClampNeg) (h.1 23 a1.toNatClampNeg)) = (-1)) → (((f_Shhas (((h.2 18 3))) (f_Ldbeside ((h.1 3 0)) ((h.1 3 1)) (h.1 19 a1.toNatClampNeg) (h.1 23 a1.toNatClampNeg))) = 0) → ((¬ (f_Ldbeside ((h.1 3 0)) ((h.1 3 1)) (h.1 19 a1.toNatClampNeg) (h.1 23 a1.toNatClampNeg)) < 0) → (¬ (36 : Int32) ≤ (f_Ldbeside ((h.1 3 0)) ((h.1 3 1)) (h.1 19 a1.toNatClampNeg) (h.1 23 a1.toNatClampNeg))) → ((f_LdtideOf ((((h.1 3 2)))) (h.1 18 1)) < 6) → vp_in (f_LdtideOf ((((h.1 3 2)))) (h.1 18 1)) 6))))
    (b4 : (¬ (h.1 3 3) ≤ a1) → ((f_StwayLeads (h.1 3 0) (h.1 3 1) (h.1 3 2) (h.2 18 3) (h.1 4) (h.1 5) (h.1 19 a1.toNatClampNeg) (h.1 23 a1.toNatClampNeg) (h.1 20 a1.toNatClampNeg) (h.1 18 1)) = (-1)) → vp_in a1 4)
    (b5 : (¬ (h.1 3 3) ≤ a1) → ((f_StwayLeads (h.1 3 0) (h.1 3 1) (h.1 3 2) (h.2 18 3) (h.1 4) (h.1 5) (h.1 19 a1.toNatClampNeg) (h.1 23 a1.toNatClampNeg) (h.1 20 a1.toNatClampNeg) (h.1 18 1)) = (-1)) → vp_in a1 4)
    (k1 : (¬ (h.1 3 3) ≤ a1) → ((f_StwayLeads (h.1 3 0) (h.1 3 1) (h.1 3 2) (h.2 18 3) (h.1 4) (h.1 5) (h.1 19 a1.toNatClampNeg) (h.1 23 a1.toNatClampNeg) (h.1 20 a1.toNatClampNeg) (h.1 18 1)) = (-1)) → jG E mX5_passAnHour (n + 4) X Post 12 [some (.ref 18), some (.int (a1 + 1)), none] [] (jPI h 19 a1.toNatClampNeg (h.1 19 a1.toNatClampNeg)))
    (b6 : (¬ (h.1 3 3) ≤ a1) → (¬ (f_StwayLeads (h.1 3 0) (h.1 3 1) (h.1 3 2) (h.2 18 3) (h.1 4) (h.1 5) (h.1 19 a1.toNatClampNeg) (h.1 23 a1.toNatClampNeg) (h.1 20 a1.toNatClampNeg) (h.1 18 1)) = (-1)) → vp_in a1 4)
    (k2 : (¬ (h.1 3 3) ≤ a1) → (¬ (f_StwayLeads (h.1 3 0) (h.1 3 1) (h.1 3 2) (h.2 18 3) (h.1 4) (h.1 5) (h.1 19 a1.toNatClampNeg) (h.1 23 a1.toNatClampNeg) (h.1 20 a1.toNatClampNeg) (h.1 18 1)) = (-1)) → jG E mX5_passAnHour (n + 4) X Post 12 [some (.ref 18), some (.int (a1 + 1)), none] [] (jPI h 19 a1.toNatClampNeg (f_StwayLeads (h.1 3 0) (h.1 3 1) (h.1 3 2) (h.2 18 3) (h.1 4) (h.1 5) (h.1 19 a1.toNatClampNeg) (h.1 23 a1.toNatClampNeg) (h.1 20 a1.toNatClampNeg) (h.1 18 1))))
    : jG E mX5_passAnHour (n + 4) X Post 12 [some (.ref 18), some (.int a1), none] [] h := by
  refine jr_iload_n (pc' := 13) (i := 1) dX5_passAnHour_12 rfl rfl rfl ?_
  refine jr_aload_n (pc' := 14) (i := 0) dX5_passAnHour_13 rfl rfl rfl ?_
  refine jr_get (pc' := 17) jK5 (k := 18) (j := 0) (v := .ref 3) wfX5_38 dX5_passAnHour_14 rfl (by decide) rfl (by decide) rfl ?_
  refine jr_get (pc' := 20) jK2 (k := 3) (j := 3) (v := .int (h.1 3 3)) wfX5_79 dX5_passAnHour_17 rfl (by decide) rfl (by decide) rfl ?_
  by_cases c1 : (h.1 3 3) ≤ a1
  · refine jr_icmp_geT (pc' := 77) dX5_passAnHour_20 rfl c1 ?_
    refine jr_aload_n (pc' := 78) (i := 0) dX5_passAnHour_77 rfl rfl rfl ?_
    obtain ⟨P1, hC1, hK1⟩ := k0 c1
    exact jr_callV (pc' := 81) (k := 18) (av := []) (st := []) sX5_hearAndShare wmX5_62 dX5_passAnHour_78 rfl (by decide) rfl (by decide) rfl rfl rfl (Nat.le_of_ble_eq_true rfl) rfl hC1 (fun v h2 hp => jG.weak (lv' := [some (.ref 18), none, none]) ⟨rfl, trivial⟩ (hK1 v h2 hp))
  · refine jr_icmp_geF (pc' := 23) (tgt := 77) dX5_passAnHour_20 rfl rfl c1 ?_
    refine jr_aload_n (pc' := 24) (i := 0) dX5_passAnHour_23 rfl rfl rfl ?_
    refine jr_aload_n (pc' := 25) (i := 0) dX5_passAnHour_24 rfl rfl rfl ?_
    refine jr_get (pc' := 28) jK5 (k := 18) (j := 4) (v := .ref 19) wfX5_22 dX5_passAnHour_25 rfl (by decide) rfl (by decide) rfl ?_
    refine jr_iload_n (pc' := 29) (i := 1) dX5_passAnHour_28 rfl rfl rfl ?_
    refine jr_iald (pc' := 30) (v := h.1 19 a1.toNatClampNeg) dX5_passAnHour_29 rfl (by decide) rfl (b0 c1) rfl ?_
    refine jr_aload_n (pc' := 31) (i := 0) dX5_passAnHour_30 rfl rfl rfl ?_
    refine jr_get (pc' := 34) jK5 (k := 18) (j := 8) (v := .ref 23) wfX5_35 dX5_passAnHour_31 rfl (by decide) rfl (by decide) rfl ?_
    refine jr_iload_n (pc' := 35) (i := 1) dX5_passAnHour_34 rfl rfl rfl ?_
    refine jr_iald (pc' := 36) (v := h.1 23 a1.toNatClampNeg) dX5_passAnHour_35 rfl (by decide) rfl (b1 c1) rfl ?_
    refine jr_aload_n (pc' := 37) (i := 0) dX5_passAnHour_36 rfl rfl rfl ?_
    refine jr_get (pc' := 40) jK5 (k := 18) (j := 5) (v := .ref 20) wfX5_26 dX5_passAnHour_37 rfl (by decide) rfl (by decide) rfl ?_
    refine jr_iload_n (pc' := 41) (i := 1) dX5_passAnHour_40 rfl rfl rfl ?_
    refine jr_iald (pc' := 42) (v := h.1 20 a1.toNatClampNeg) dX5_passAnHour_41 rfl (by decide) rfl (b2 c1) rfl ?_
    refine jr_aload_n (pc' := 43) (i := 0) dX5_passAnHour_42 rfl rfl rfl ?_
    refine jr_get (pc' := 46) jK5 (k := 18) (j := 1) (v := .int (h.1 18 1)) wfX5_9 dX5_passAnHour_43 rfl (by decide) rfl (by decide) rfl ?_
    refine jr_callV (pc' := 49) (k := 18) (av := [.int (h.1 19 a1.toNatClampNeg), .int (h.1 23 a1.toNatClampNeg), .int (h.1 20 a1.toNatClampNeg), .int (h.1 18 1)]) (st := []) sX5_wayLeads wmX5_82 dX5_passAnHour_46 rfl (by decide) rfl (by decide) rfl rfl rfl (Nat.le_of_ble_eq_true rfl) rfl (c_StwayLeads (n := n) (h.1 19 a1.toNatClampNeg) (h.1 23 a1.toNatClampNeg) (h.1 20 a1.toNatClampNeg) (h.1 18 1) h (b3 c1)) (fun v h2 hp => ?_)
    rw [hp.1, hp.2]
    show jG E mX5_passAnHour (n + 4) X Post 49 [some (.ref 18), some (.int a1), none] [.int (f_StwayLeads (h.1 3 0) (h.1 3 1) (h.1 3 2) (h.2 18 3) (h.1 4) (h.1 5) (h.1 19 a1.toNatClampNeg) (h.1 23 a1.toNatClampNeg) (h.1 20 a1.toNatClampNeg) (h.1 18 1))] h
    refine jr_istore_n (pc' := 50) (i := 2) (lv' := [some (.ref 18), some (.int a1), some (.int (f_StwayLeads (h.1 3 0) (h.1 3 1) (h.1 3 2) (h.2 18 3) (h.1 4) (h.1 5) (h.1 19 a1.toNatClampNeg) (h.1 23 a1.toNatClampNeg) (h.1 20 a1.toNatClampNeg) (h.1 18 1)))]) dX5_passAnHour_49 rfl rfl (by decide) rfl ?_
    refine jr_aload_n (pc' := 51) (i := 0) dX5_passAnHour_50 rfl rfl rfl ?_
    refine jr_get (pc' := 54) jK5 (k := 18) (j := 4) (v := .ref 19) wfX5_22 dX5_passAnHour_51 rfl (by decide) rfl (by decide) rfl ?_
    refine jr_iload_n (pc' := 55) (i := 1) dX5_passAnHour_54 rfl rfl rfl ?_
    refine jr_iload_n (pc' := 56) (i := 2) dX5_passAnHour_55 rfl rfl rfl ?_
    refine jr_iconst (pc' := 57) (v := (-1)) dX5_passAnHour_56 rfl (by decide) ?_
    by_cases c2 : (f_StwayLeads (h.1 3 0) (h.1 3 1) (h.1 3 2) (h.2 18 3) (h.1 4) (h.1 5) (h.1 19 a1.toNatClampNeg) (h.1 23 a1.toNatClampNeg) (h.1 20 a1.toNatClampNeg) (h.1 18 1)) = (-1)
    · refine jr_icmp_neF (pc' := 60) (tgt := 69) dX5_passAnHour_57 rfl rfl c2 ?_
      refine jr_aload_n (pc' := 61) (i := 0) dX5_passAnHour_60 rfl rfl rfl ?_
      refine jr_get (pc' := 64) jK5 (k := 18) (j := 4) (v := .ref 19) wfX5_22 dX5_passAnHour_61 rfl (by decide) rfl (by decide) rfl ?_
      refine jr_iload_n (pc' := 65) (i := 1) dX5_passAnHour_64 rfl rfl rfl ?_
      refine jr_iald (pc' := 66) (v := h.1 19 a1.toNatClampNeg) dX5_passAnHour_65 rfl (by decide) rfl (b4 c1 c2) rfl ?_
      refine jr_goto (pc' := 70) dX5_passAnHour_66 rfl ?_
      refine jr_iast (pc' := 71) (j := a1.toNatClampNeg) dX5_passAnHour_70 rfl (by decide) rfl (b5 c1 c2) rfl ?_
      refine jr_iinc (pc' := 74) (i := 1) (v := (a1 + 1)) (lv' := [some (.ref 18), some (.int (a1 + 1)), some (.int (f_StwayLeads (h.1 3 0) (h.1 3 1) (h.1 3 2) (h.2 18 3) (h.1 4) (h.1 5) (h.1 19 a1.toNatClampNeg) (h.1 23 a1.toNatClampNeg) (h.1 20 a1.toNatClampNeg) (h.1 18 1)))]) dX5_passAnHour_71 rfl rfl (congrArg (a1 + ·) (by decide)) (by decide) rfl ?_
      refine jr_goto (pc' := 12) dX5_passAnHour_74 rfl ?_
      exact jG.weak (lv' := [some (.ref 18), some (.int (a1 + 1)), none]) ⟨rfl, rfl, trivial⟩ (k1 c1 c2)
    · refine jr_icmp_neT (pc' := 69) dX5_passAnHour_57 rfl c2 ?_
      refine jr_iload_n (pc' := 70) (i := 2) dX5_passAnHour_69 rfl rfl rfl ?_
      refine jr_iast (pc' := 71) (j := a1.toNatClampNeg) dX5_passAnHour_70 rfl (by decide) rfl (b6 c1 c2) rfl ?_
      refine jr_iinc (pc' := 74) (i := 1) (v := (a1 + 1)) (lv' := [some (.ref 18), some (.int (a1 + 1)), some (.int (f_StwayLeads (h.1 3 0) (h.1 3 1) (h.1 3 2) (h.2 18 3) (h.1 4) (h.1 5) (h.1 19 a1.toNatClampNeg) (h.1 23 a1.toNatClampNeg) (h.1 20 a1.toNatClampNeg) (h.1 18 1)))]) dX5_passAnHour_71 rfl rfl (congrArg (a1 + ·) (by decide)) (by decide) rfl ?_
      refine jr_goto (pc' := 12) dX5_passAnHour_74 rfl ?_
      exact jG.weak (lv' := [some (.ref 18), some (.int (a1 + 1)), none]) ⟨rfl, rfl, trivial⟩ (k2 c1 c2)

theorem q_StpassAnHour_81 {E : jEnv} {n : Nat} {X : State → Prop} {Post : Option Value → HP → Prop}  (h : HP)
    (k0 : jG E mX5_passAnHour (n + 4) X Post 83 [some (.ref 18), some (.int 0), none] [] h)
    : jG E mX5_passAnHour (n + 4) X Post 81 [some (.ref 18), none, none] [] h := by
  refine jr_iconst (pc' := 82) (v := 0) dX5_passAnHour_81 rfl (by decide) ?_
  refine jr_istore_n (pc' := 83) (i := 1) (lv' := [some (.ref 18), some (.int 0), none]) dX5_passAnHour_82 rfl rfl (by decide) rfl ?_
  exact jG.weak (lv' := [some (.ref 18), some (.int 0), none]) ⟨rfl, rfl, trivial⟩ (k0)

theorem q_StpassAnHour_83 {E : jEnv} {n : Nat} {X : State → Prop} {Post : Option Value → HP → Prop} (a1 : Int32) (h : HP)
    (k0 : ((h.1 3 3) ≤ a1) → Post none h)
    (b0 : (¬ (h.1 3 3) ≤ a1) → vp_in a1 4)
    (b1 : (¬ (h.1 3 3) ≤ a1) → (vp_in a1 4))
    (b2 : (¬ (h.1 3 3) ≤ a1) → (((f_Shhas (((h.2 18 3))) ((h.1 19) a1.toNatClampNeg)) = 0) → ((¬ ((h.1 19) a1.toNatClampNeg) < 0) → (¬ (36 : Int32) ≤ ((h.1 19) a1.toNatClampNeg)) → ((f_LdtideOf ((((h.1 3 2)))) ((h.1 18 1))) < 6) → vp_in (f_LdtideOf ((((h.1 3 2)))) ((h.1 18 1))) 6)))
    (b3 : (¬ (h.1 3 3) ≤ a1) → (vp_in a1 4))
    (b4 : (¬ (h.1 3 3) ≤ a1) → ((f_StisWet (h.1 18 1) (h.1 3 2) (h.2 18 3) (h.1 19) (h.1 20) (h.1 4) (h.1 5) a1) = 0) → vp_in a1 4)
    (k1 : (¬ (h.1 3 3) ≤ a1) → ((f_StisWet (h.1 18 1) (h.1 3 2) (h.2 18 3) (h.1 19) (h.1 20) (h.1 4) (h.1 5) a1) = 0) → jG E mX5_passAnHour (n + 4) X Post 83 [some (.ref 18), some (.int (a1 + 1)), none] [] (jPI h 22 a1.toNatClampNeg ((h.1 22 a1.toNatClampNeg) + 0)))
    (b5 : (¬ (h.1 3 3) ≤ a1) → (¬ (f_StisWet (h.1 18 1) (h.1 3 2) (h.2 18 3) (h.1 19) (h.1 20) (h.1 4) (h.1 5) a1) = 0) → vp_in a1 4)
    (k2 : (¬ (h.1 3 3) ≤ a1) → (¬ (f_StisWet (h.1 18 1) (h.1 3 2) (h.2 18 3) (h.1 19) (h.1 20) (h.1 4) (h.1 5) a1) = 0) → jG E mX5_passAnHour (n + 4) X Post 83 [some (.ref 18), some (.int (a1 + 1)), none] [] (jPI h 22 a1.toNatClampNeg ((h.1 22 a1.toNatClampNeg) + 1)))
    : jG E mX5_passAnHour (n + 4) X Post 83 [some (.ref 18), some (.int a1), none] [] h := by
  refine jr_iload_n (pc' := 84) (i := 1) dX5_passAnHour_83 rfl rfl rfl ?_
  refine jr_aload_n (pc' := 85) (i := 0) dX5_passAnHour_84 rfl rfl rfl ?_
  refine jr_get (pc' := 88) jK5 (k := 18) (j := 0) (v := .ref 3) wfX5_38 dX5_passAnHour_85 rfl (by decide) rfl (by decide) rfl ?_
  refine jr_get (pc' := 91) jK2 (k := 3) (j := 3) (v := .int (h.1 3 3)) wfX5_79 dX5_passAnHour_88 rfl (by decide) rfl (by decide) rfl ?_
  by_cases c1 : (h.1 3 3) ≤ a1
  · refine jr_icmp_geT (pc' := 122) dX5_passAnHour_91 rfl c1 ?_
    exact jr_vret dX5_passAnHour_122 rfl (k0 c1)
  · refine jr_icmp_geF (pc' := 94) (tgt := 122) dX5_passAnHour_91 rfl rfl c1 ?_
    refine jr_aload_n (pc' := 95) (i := 0) dX5_passAnHour_94 rfl rfl rfl ?_
    refine jr_get (pc' := 98) jK5 (k := 18) (j := 7) (v := .ref 22) wfX5_32 dX5_passAnHour_95 rfl (by decide) rfl (by decide) rfl ?_
    refine jr_iload_n (pc' := 99) (i := 1) dX5_passAnHour_98 rfl rfl rfl ?_
    refine jr_dup2 (pc' := 100)  dX5_passAnHour_99 rfl rfl rfl ?_
    refine jr_iald (pc' := 101) (v := h.1 22 a1.toNatClampNeg) dX5_passAnHour_100 rfl (by decide) rfl (b0 c1) rfl ?_
    refine jr_aload_n (pc' := 102) (i := 0) dX5_passAnHour_101 rfl rfl rfl ?_
    refine jr_iload_n (pc' := 103) (i := 1) dX5_passAnHour_102 rfl rfl rfl ?_
    refine jr_callV (pc' := 106) (k := 18) (av := [.int a1]) (st := [.int (h.1 22 a1.toNatClampNeg), .int a1, .ref 22]) sX5_isWet wmX5_86 dX5_passAnHour_103 rfl (by decide) rfl (by decide) rfl rfl rfl (Nat.le_of_ble_eq_true rfl) rfl (c_StisWet (n := n) a1 h (b1 c1) (b2 c1) (b3 c1)) (fun v h2 hp => ?_)
    rw [hp.1, hp.2]
    show jG E mX5_passAnHour (n + 4) X Post 106 [some (.ref 18), some (.int a1), none] [.int (f_StisWet (h.1 18 1) (h.1 3 2) (h.2 18 3) (h.1 19) (h.1 20) (h.1 4) (h.1 5) a1), .int (h.1 22 a1.toNatClampNeg), .int a1, .ref 22] h
    by_cases c2 : (f_StisWet (h.1 18 1) (h.1 3 2) (h.2 18 3) (h.1 19) (h.1 20) (h.1 4) (h.1 5) a1) = 0
    · refine jr_if_eqT (pc' := 113) dX5_passAnHour_106 rfl c2 ?_
      refine jr_iconst (pc' := 114) (v := 0) dX5_passAnHour_113 rfl (by decide) ?_
      refine jr_iadd (pc' := 115)  dX5_passAnHour_114 rfl  ?_
      refine jr_iast (pc' := 116) (j := a1.toNatClampNeg) dX5_passAnHour_115 rfl (by decide) rfl (b4 c1 c2) rfl ?_
      refine jr_iinc (pc' := 119) (i := 1) (v := (a1 + 1)) (lv' := [some (.ref 18), some (.int (a1 + 1)), none]) dX5_passAnHour_116 rfl rfl (congrArg (a1 + ·) (by decide)) (by decide) rfl ?_
      refine jr_goto (pc' := 83) dX5_passAnHour_119 rfl ?_
      exact jG.weak (lv' := [some (.ref 18), some (.int (a1 + 1)), none]) ⟨rfl, rfl, trivial⟩ (k1 c1 c2)
    · refine jr_if_eqF (pc' := 109) (tgt := 113) dX5_passAnHour_106 rfl rfl c2 ?_
      refine jr_iconst (pc' := 110) (v := 1) dX5_passAnHour_109 rfl (by decide) ?_
      refine jr_goto (pc' := 114) dX5_passAnHour_110 rfl ?_
      refine jr_iadd (pc' := 115)  dX5_passAnHour_114 rfl  ?_
      refine jr_iast (pc' := 116) (j := a1.toNatClampNeg) dX5_passAnHour_115 rfl (by decide) rfl (b5 c1 c2) rfl ?_
      refine jr_iinc (pc' := 119) (i := 1) (v := (a1 + 1)) (lv' := [some (.ref 18), some (.int (a1 + 1)), none]) dX5_passAnHour_116 rfl rfl (congrArg (a1 + ·) (by decide)) (by decide) rfl ?_
      refine jr_goto (pc' := 83) dX5_passAnHour_119 rfl ?_
      exact jG.weak (lv' := [some (.ref 18), some (.int (a1 + 1)), none]) ⟨rfl, rfl, trivial⟩ (k2 c1 c2)

