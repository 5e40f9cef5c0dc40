theorem q_Ldclear11_0 {E : jEnv} {n : Nat} {X : State → Prop} {Post : Option Value → HP → Prop}  (h : HP)
    (k0 : jCall E mJ7_fill_53178 n [.ref 12, .int 0] (jPI (jPI (jPI (jPI (jPI (jPI (jPI h 11 0 0) 11 1 0) 11 2 1) 13 0 5) 11 3 0) 11 4 0) 11 5 0) (fun v h2 => jG E mX2_clear (n + 1) X Post 45 [none] (v.toList ++ []) h2))
    : jG E mX2_clear (n + 1) X Post 0 [some (.ref 11)] [] h := by
  refine jr_aload_n (pc' := 1) (i := 0) dX2_clear_0 rfl rfl rfl ?_
  refine jr_iconst (pc' := 2) (v := 0) dX2_clear_1 rfl (by decide) ?_
  refine jr_putI (pc' := 5) jK2 (k := 11) (j := 0) wfX2_9 dX2_clear_2 rfl (by decide) rfl (by decide) (by decide) rfl rfl rfl ?_
  refine jr_aload_n (pc' := 6) (i := 0) dX2_clear_5 rfl rfl rfl ?_
  refine jr_iconst (pc' := 7) (v := 0) dX2_clear_6 rfl (by decide) ?_
  refine jr_putI (pc' := 10) jK2 (k := 11) (j := 1) wfX2_15 dX2_clear_7 rfl (by decide) rfl (by decide) (by decide) rfl rfl rfl ?_
  refine jr_aload_n (pc' := 11) (i := 0) dX2_clear_10 rfl rfl rfl ?_
  refine jr_iconst (pc' := 12) (v := 1) dX2_clear_11 rfl (by decide) ?_
  refine jr_putI (pc' := 15) jK2 (k := 11) (j := 2) wfX2_18 dX2_clear_12 rfl (by decide) rfl (by decide) (by decide) rfl rfl rfl ?_
  refine jr_aload_n (pc' := 16) (i := 0) dX2_clear_15 rfl rfl rfl ?_
  refine jr_get (pc' := 19) jK2 (k := 11) (j := 10) (v := .ref 13) wfX2_44 dX2_clear_16 rfl (by decide) rfl (by decide) rfl ?_
  refine jr_iconst (pc' := 20) (v := 0) dX2_clear_19 rfl (by decide) ?_
  refine jr_iconst (pc' := 21) (v := 5) dX2_clear_20 rfl (by decide) ?_
  refine jr_iast (pc' := 22) (j := 0) dX2_clear_21 rfl (by decide) rfl (jvin (by decide)) (by decide) ?_
  refine jr_aload_n (pc' := 23) (i := 0) dX2_clear_22 rfl rfl rfl ?_
  refine jr_iconst (pc' := 24) (v := 0) dX2_clear_23 rfl (by decide) ?_
  refine jr_putI (pc' := 27) jK2 (k := 11) (j := 3) wfX2_21 dX2_clear_24 rfl (by decide) rfl (by decide) (by decide) rfl rfl rfl ?_
  refine jr_aload_n (pc' := 28) (i := 0) dX2_clear_27 rfl rfl rfl ?_
  refine jr_iconst (pc' := 29) (v := 0) dX2_clear_28 rfl (by decide) ?_
  refine jr_putI (pc' := 32) jK2 (k := 11) (j := 4) wfX2_24 dX2_clear_29 rfl (by decide) rfl (by decide) (by decide) rfl rfl rfl ?_
  refine jr_aload_n (pc' := 33) (i := 0) dX2_clear_32 rfl rfl rfl ?_
  refine jr_iconst (pc' := 34) (v := 0) dX2_clear_33 rfl (by decide) ?_
  refine jr_putI (pc' := 37) jK2 (k := 11) (j := 5) wfX2_27 dX2_clear_34 rfl (by decide) rfl (by decide) (by decide) rfl rfl rfl ?_
  refine jr_aload_n (pc' := 38) (i := 0) dX2_clear_37 rfl rfl rfl ?_
  refine jr_get (pc' := 41) jK2 (k := 11) (j := 9) (v := .ref 12) wfX2_40 dX2_clear_38 rfl (by decide) rfl (by decide) rfl ?_
  refine jr_iconst (pc' := 42) (v := 0) dX2_clear_41 rfl (by decide) ?_
  obtain ⟨P1, hC1, hK1⟩ := k0
  exact jr_callS (pc' := 45) (av := [.ref 12, .int 0]) (st := []) sJ7_fill_53178 wmX2_60 dX2_clear_42 rfl rfl (Nat.le_of_ble_eq_true rfl) rfl hC1 (fun v h2 hp => jG.weak (lv' := [none]) trivial (hK1 v h2 hp))

theorem q_Ldclear11_45 {E : jEnv} {n : Nat} {X : State → Prop} {Post : Option Value → HP → Prop}  (h : HP)
    (k0 : Post none h)
    : jG E mX2_clear (n + 1) X Post 45 [none] [] h := by
  exact jr_vret dX2_clear_45 rfl (k0)

set_option maxRecDepth 4000 in
theorem q_Ldbecome3_0 {E : jEnv} {n : Nat} {X : State → Prop} {Post : Option Value → HP → Prop}  (h : HP)
    (k0 : jCall E mX2_survey n [.ref 3] (jPA (jPA (jPA (jPA (jPA (jPI (jPI (jPI (jPI (jPI (jPI h 3 0 (h.1 11 0)) 3 1 (h.1 11 1)) 3 2 (h.1 11 2)) 3 3 (h.1 11 3)) 3 4 (h.1 11 4)) 3 5 (h.1 11 5)) 4 (va_cpy (h.1 12) (h.1 4) (0 : Int32).toNatClampNeg (0 : Int32).toNatClampNeg (36 : Int32).toNatClampNeg)) 5 (va_cpy (h.1 13) (h.1 5) (0 : Int32).toNatClampNeg (0 : Int32).toNatClampNeg (6 : Int32).toNatClampNeg)) 6 (va_cpy (h.1 14) (h.1 6) (0 : Int32).toNatClampNeg (0 : Int32).toNatClampNeg (4 : Int32).toNatClampNeg)) 7 (va_cpy (h.1 15) (h.1 7) (0 : Int32).toNatClampNeg (0 : Int32).toNatClampNeg (4 : Int32).toNatClampNeg)) 8 (va_cpy (h.1 16) (h.1 8) (0 : Int32).toNatClampNeg (0 : Int32).toNatClampNeg (4 : Int32).toNatClampNeg)) (fun v h2 => jG E mX2_become (n + 1) X Post 124 [none, none] (v.toList ++ []) h2))
    : jG E mX2_become (n + 1) X Post 0 [some (.ref 3), some (.ref 11)] [] h := by
  refine jr_aload_n (pc' := 1) (i := 0) dX2_become_0 rfl rfl rfl ?_
  refine jr_aload_n (pc' := 2) (i := 1) dX2_become_1 rfl rfl rfl ?_
  refine jr_get (pc' := 5) jK2 (k := 11) (j := 0) (v := .int (h.1 11 0)) wfX2_9 dX2_become_2 rfl (by decide) rfl (by decide) rfl ?_
  refine jr_putI (pc' := 8) jK2 (k := 3) (j := 0) wfX2_9 dX2_become_5 rfl (by decide) rfl (by decide) (by decide) rfl rfl rfl ?_
  refine jr_aload_n (pc' := 9) (i := 0) dX2_become_8 rfl rfl rfl ?_
  refine jr_aload_n (pc' := 10) (i := 1) dX2_become_9 rfl rfl rfl ?_
  refine jr_get (pc' := 13) jK2 (k := 11) (j := 1) (v := .int (h.1 11 1)) wfX2_15 dX2_become_10 rfl (by decide) rfl (by decide) rfl ?_
  refine jr_putI (pc' := 16) jK2 (k := 3) (j := 1) wfX2_15 dX2_become_13 rfl (by decide) rfl (by decide) (by decide) rfl rfl rfl ?_
  refine jr_aload_n (pc' := 17) (i := 0) dX2_become_16 rfl rfl rfl ?_
  refine jr_aload_n (pc' := 18) (i := 1) dX2_become_17 rfl rfl rfl ?_
  refine jr_get (pc' := 21) jK2 (k := 11) (j := 2) (v := .int (h.1 11 2)) wfX2_18 dX2_become_18 rfl (by decide) rfl (by decide) rfl ?_
  refine jr_putI (pc' := 24) jK2 (k := 3) (j := 2) wfX2_18 dX2_become_21 rfl (by decide) rfl (by decide) (by decide) rfl rfl rfl ?_
  refine jr_aload_n (pc' := 25) (i := 0) dX2_become_24 rfl rfl rfl ?_
  refine jr_aload_n (pc' := 26) (i := 1) dX2_become_25 rfl rfl rfl ?_
  refine jr_get (pc' := 29) jK2 (k := 11) (j := 3) (v := .int (h.1 11 3)) wfX2_21 dX2_become_26 rfl (by decide) rfl (by decide) rfl ?_
  refine jr_putI (pc' := 32) jK2 (k := 3) (j := 3) wfX2_21 dX2_become_29 rfl (by decide) rfl (by decide) (by decide) rfl rfl rfl ?_
  refine jr_aload_n (pc' := 33) (i := 0) dX2_become_32 rfl rfl rfl ?_
  refine jr_aload_n (pc' := 34) (i := 1) dX2_become_33 rfl rfl rfl ?_
  refine jr_get (pc' := 37) jK2 (k := 11) (j := 4) (v := .int (h.1 11 4)) wfX2_24 dX2_become_34 rfl (by decide) rfl (by decide) rfl ?_
  refine jr_putI (pc' := 40) jK2 (k := 3) (j := 4) wfX2_24 dX2_become_37 rfl (by decide) rfl (by decide) (by decide) rfl rfl rfl ?_
  refine jr_aload_n (pc' := 41) (i := 0) dX2_become_40 rfl rfl rfl ?_
  refine jr_aload_n (pc' := 42) (i := 1) dX2_become_41 rfl rfl rfl ?_
  refine jr_get (pc' := 45) jK2 (k := 11) (j := 5) (v := .int (h.1 11 5)) wfX2_27 dX2_become_42 rfl (by decide) rfl (by decide) rfl ?_
  refine jr_putI (pc' := 48) jK2 (k := 3) (j := 5) wfX2_27 dX2_become_45 rfl (by decide) rfl (by decide) (by decide) rfl rfl rfl ?_
  refine jr_aload_n (pc' := 49) (i := 1) dX2_become_48 rfl rfl rfl ?_
  refine jr_get (pc' := 52) jK2 (k := 11) (j := 9) (v := .ref 12) wfX2_40 dX2_become_49 rfl (by decide) rfl (by decide) rfl ?_
  refine jr_iconst (pc' := 53) (v := 0) dX2_become_52 rfl (by decide) ?_
  refine jr_aload_n (pc' := 54) (i := 0) dX2_become_53 rfl rfl rfl ?_
  refine jr_get (pc' := 57) jK2 (k := 3) (j := 9) (v := .ref 4) wfX2_40 dX2_become_54 rfl (by decide) rfl (by decide) rfl ?_
  refine jr_iconst (pc' := 58) (v := 0) dX2_become_57 rfl (by decide) ?_
  refine jr_bipush (pc' := 60) (v := 36) dX2_become_58 rfl (by decide) ?_
  refine jr_copy (pc' := 63) wmX2_66 wAcN wAcS wAcI dX2_become_60 rfl (by omega) (by decide) rfl (by decide) rfl (by decide) (by decide) (by decide) (by decide) (by decide) (Nat.le_of_ble_eq_true rfl) ?_
  refine jr_aload_n (pc' := 64) (i := 1) dX2_become_63 rfl rfl rfl ?_
  refine jr_get (pc' := 67) jK2 (k := 11) (j := 10) (v := .ref 13) wfX2_44 dX2_become_64 rfl (by decide) rfl (by decide) rfl ?_
  refine jr_iconst (pc' := 68) (v := 0) dX2_become_67 rfl (by decide) ?_
  refine jr_aload_n (pc' := 69) (i := 0) dX2_become_68 rfl rfl rfl ?_
  refine jr_get (pc' := 72) jK2 (k := 3) (j := 10) (v := .ref 5) wfX2_44 dX2_become_69 rfl (by decide) rfl (by decide) rfl ?_
  refine jr_iconst (pc' := 73) (v := 0) dX2_become_72 rfl (by decide) ?_
  refine jr_bipush (pc' := 75) (v := 6) dX2_become_73 rfl (by decide) ?_
  refine jr_copy (pc' := 78) wmX2_66 wAcN wAcS wAcI dX2_become_75 rfl (by omega) (by decide) rfl (by decide) rfl (by decide) (by decide) (by decide) (by decide) (by decide) (Nat.le_of_ble_eq_true rfl) ?_
  refine jr_aload_n (pc' := 79) (i := 1) dX2_become_78 rfl rfl rfl ?_
  refine jr_get (pc' := 82) jK2 (k := 11) (j := 11) (v := .ref 14) wfX2_47 dX2_become_79 rfl (by decide) rfl (by decide) rfl ?_
  refine jr_iconst (pc' := 83) (v := 0) dX2_become_82 rfl (by decide) ?_
  refine jr_aload_n (pc' := 84) (i := 0) dX2_become_83 rfl rfl rfl ?_
  refine jr_get (pc' := 87) jK2 (k := 3) (j := 11) (v := .ref 6) wfX2_47 dX2_become_84 rfl (by decide) rfl (by decide) rfl ?_
  refine jr_iconst (pc' := 88) (v := 0) dX2_become_87 rfl (by decide) ?_
  refine jr_iconst (pc' := 89) (v := 4) dX2_become_88 rfl (by decide) ?_
  refine jr_copy (pc' := 92) wmX2_66 wAcN wAcS wAcI dX2_become_89 rfl (by omega) (by decide) rfl (by decide) rfl (by decide) (by decide) (by decide) (by decide) (by decide) (Nat.le_of_ble_eq_true rfl) ?_
  refine jr_aload_n (pc' := 93) (i := 1) dX2_become_92 rfl rfl rfl ?_
  refine jr_get (pc' := 96) jK2 (k := 11) (j := 12) (v := .ref 15) wfX2_50 dX2_become_93 rfl (by decide) rfl (by decide) rfl ?_
  refine jr_iconst (pc' := 97) (v := 0) dX2_become_96 rfl (by decide) ?_
  refine jr_aload_n (pc' := 98) (i := 0) dX2_become_97 rfl rfl rfl ?_
  refine jr_get (pc' := 101) jK2 (k := 3) (j := 12) (v := .ref 7) wfX2_50 dX2_become_98 rfl (by decide) rfl (by decide) rfl ?_
  refine jr_iconst (pc' := 102) (v := 0) dX2_become_101 rfl (by decide) ?_
  refine jr_iconst (pc' := 103) (v := 4) dX2_become_102 rfl (by decide) ?_
  refine jr_copy (pc' := 106) wmX2_66 wAcN wAcS wAcI dX2_become_103 rfl (by omega) (by decide) rfl (by decide) rfl (by decide) (by decide) (by decide) (by decide) (by decide) (Nat.le_of_ble_eq_true rfl) ?_
  refine jr_aload_n (pc' := 107) (i := 1) dX2_become_106 rfl rfl rfl ?_
  refine jr_get (pc' := 110) jK2 (k := 11) (j := 13) (v := .ref 16) wfX2_53 dX2_become_107 rfl (by decide) rfl (by decide) rfl ?_
  refine jr_iconst (pc' := 111) (v := 0) dX2_become_110 rfl (by decide) ?_
  refine jr_aload_n (pc' := 112) (i := 0) dX2_become_111 rfl rfl rfl ?_
  refine jr_get (pc' := 115) jK2 (k := 3) (j := 13) (v := .ref 8) wfX2_53 dX2_become_112 rfl (by decide) rfl (by decide) rfl ?_
  refine jr_iconst (pc' := 116) (v := 0) dX2_become_115 rfl (by decide) ?_
  refine jr_iconst (pc' := 117) (v := 4) dX2_become_116 rfl (by decide) ?_
  refine jr_copy (pc' := 120) wmX2_66 wAcN wAcS wAcI dX2_become_117 rfl (by omega) (by decide) rfl (by decide) rfl (by decide) (by decide) (by decide) (by decide) (by decide) (Nat.le_of_ble_eq_true rfl) ?_
  refine jr_aload_n (pc' := 121) (i := 0) dX2_become_120 rfl rfl rfl ?_
  obtain ⟨P1, hC1, hK1⟩ := k0
  exact jr_callV (pc' := 124) (k := 3) (av := []) (st := []) sX2_survey wmX2_72 dX2_become_121 rfl (by decide) rfl (by decide) rfl rfl rfl (Nat.le_of_ble_eq_true rfl) rfl hC1 (fun v h2 hp => jG.weak (lv' := [none, none]) trivial (hK1 v h2 hp))

theorem q_Ldbecome3_124 {E : jEnv} {n : Nat} {X : State → Prop} {Post : Option Value → HP → Prop}  (h : HP)
    (k0 : Post none h)
    : jG E mX2_become (n + 1) X Post 124 [none, none] [] h := by
  exact jr_vret dX2_become_124 rfl (k0)

theorem q_Ldsurvey_0 {E : jEnv} {n : Nat} {X : State → Prop} {Post : Option Value → HP → Prop}  (h : HP)
    (k0 : jG E mX2_survey (n + 1) X Post 17 [some (.ref 3), some (.int 0), none, none, none] [] (jPL (jPL (jPL h 3 6 0) 3 7 0) 3 8 0))
    : jG E mX2_survey (n + 1) X Post 0 [some (.ref 3), none, none, none, none] [] h := by
  refine jr_aload_n (pc' := 1) (i := 0) dX2_survey_0 rfl rfl rfl ?_
  refine jr_lconst (pc' := 2) (v := 0) dX2_survey_1 rfl (by decide) ?_
  refine jr_putL (pc' := 5) jK2 (k := 3) (j := 6) wfX2_30 dX2_survey_2 rfl (by decide) rfl (by decide) rfl rfl rfl rfl ?_
  refine jr_aload_n (pc' := 6) (i := 0) dX2_survey_5 rfl rfl rfl ?_
  refine jr_lconst (pc' := 7) (v := 0) dX2_survey_6 rfl (by decide) ?_
  refine jr_putL (pc' := 10) jK2 (k := 3) (j := 7) wfX2_34 dX2_survey_7 rfl (by decide) rfl (by decide) rfl rfl rfl rfl ?_
  refine jr_aload_n (pc' := 11) (i := 0) dX2_survey_10 rfl rfl rfl ?_
  refine jr_lconst (pc' := 12) (v := 0) dX2_survey_11 rfl (by decide) ?_
  refine jr_putL (pc' := 15) jK2 (k := 3) (j := 8) wfX2_37 dX2_survey_12 rfl (by decide) rfl (by decide) rfl rfl rfl rfl ?_
  refine jr_iconst (pc' := 16) (v := 0) dX2_survey_15 rfl (by decide) ?_
  refine jr_istore_n (pc' := 17) (i := 1) (lv' := [some (.ref 3), some (.int 0), none, none, none]) dX2_survey_16 rfl rfl (by decide) rfl ?_
  exact jG.weak (lv' := [some (.ref 3), some (.int 0), none, none, none]) ⟨rfl, rfl, trivial⟩ (k0)

set_option maxRecDepth 4000 in
theorem q_Ldsurvey_17 {E : jEnv} {n : Nat} {X : State → Prop} {Post : Option Value → HP → Prop} (a1 : Int32) (h : HP)
    (k0 : ((f_Ldcells (h.1 3 0) (h.1 3 1)) ≤ a1) → jG E mX2_survey (n + 1) X Post 98 [some (.ref 3), some (.int 0), none, none, none] [] h)
    (k1 : (¬ (f_Ldcells (h.1 3 0) (h.1 3 1)) ≤ a1) → ((f_LdcolumnOf (h.1 3 0) a1) ≤ 0) → (((h.1 3 0) - 1) ≤ (f_LdcolumnOf (h.1 3 0) a1)) → jG E mX2_survey (n + 1) X Post 17 [some (.ref 3), some (.int (a1 + 1)), none, none, none] [] (jPL (jPL (jPL h 3 6 ((h.2 3 6) ||| (1 <<< (a1.toInt64 &&& 63)))) 3 7 ((h.2 3 7) ||| 0)) 3 8 ((h.2 3 8) ||| 0)))
    (k2 : (¬ (f_Ldcells (h.1 3 0) (h.1 3 1)) ≤ a1) → ((f_LdcolumnOf (h.1 3 0) a1) ≤ 0) → (¬ ((h.1 3 0) - 1) ≤ (f_LdcolumnOf (h.1 3 0) a1)) → jG E mX2_survey (n + 1) X Post 17 [some (.ref 3), some (.int (a1 + 1)), none, none, none] [] (jPL (jPL (jPL h 3 6 ((h.2 3 6) ||| (1 <<< (a1.toInt64 &&& 63)))) 3 7 ((h.2 3 7) ||| 0)) 3 8 ((h.2 3 8) ||| (1 <<< (a1.toInt64 &&& 63)))))
    (k3 : (¬ (f_Ldcells (h.1 3 0) (h.1 3 1)) ≤ a1) → (¬ (f_LdcolumnOf (h.1 3 0) a1) ≤ 0) → (((h.1 3 0) - 1) ≤ (f_LdcolumnOf (h.1 3 0) a1)) → jG E mX2_survey (n + 1) X Post 17 [some (.ref 3), some (.int (a1 + 1)), none, none, none] [] (jPL (jPL (jPL h 3 6 ((h.2 3 6) ||| (1 <<< (a1.toInt64 &&& 63)))) 3 7 ((h.2 3 7) ||| (1 <<< (a1.toInt64 &&& 63)))) 3 8 ((h.2 3 8) ||| 0)))
    (k4 : (¬ (f_Ldcells (h.1 3 0) (h.1 3 1)) ≤ a1) → (¬ (f_LdcolumnOf (h.1 3 0) a1) ≤ 0) → (¬ ((h.1 3 0) - 1) ≤ (f_LdcolumnOf (h.1 3 0) a1)) → jG E mX2_survey (n + 1) X Post 17 [some (.ref 3), some (.int (a1 + 1)), none, none, none] [] (jPL (jPL (jPL h 3 6 ((h.2 3 6) ||| (1 <<< (a1.toInt64 &&& 63)))) 3 7 ((h.2 3 7) ||| (1 <<< (a1.toInt64 &&& 63)))) 3 8 ((h.2 3 8) ||| (1 <<< (a1.toInt64 &&& 63)))))
    : jG E mX2_survey (n + 1) X Post 17 [some (.ref 3), some (.int a1), none, none, none] [] h := by
  refine jr_iload_n (pc' := 18) (i := 1) dX2_survey_17 rfl rfl rfl ?_
  refine jr_aload_n (pc' := 19) (i := 0) dX2_survey_18 rfl rfl rfl ?_
  refine jr_callV (pc' := 22) (k := 3) (av := []) (st := [.int a1]) sX2_cells wmX2_75 dX2_survey_19 rfl (by decide) rfl (by decide) rfl rfl rfl (Nat.le_of_ble_eq_true rfl) rfl (c_Ldcells (n := n)  h ) (fun v h2 hp => ?_)
  rw [hp.1, hp.2]
  show jG E mX2_survey (n + 1) X Post 22 [some (.ref 3), some (.int a1), none, none, none] [.int (f_Ldcells (h.1 3 0) (h.1 3 1)), .int a1] h
  by_cases c1 : (f_Ldcells (h.1 3 0) (h.1 3 1)) ≤ a1
  · refine jr_icmp_geT (pc' := 96) dX2_survey_22 rfl c1 ?_
    refine jr_iconst (pc' := 97) (v := 0) dX2_survey_96 rfl (by decide) ?_
    refine jr_istore_n (pc' := 98) (i := 1) (lv' := [some (.ref 3), some (.int 0), none, none, none]) dX2_survey_97 rfl rfl (by decide) rfl ?_
    exact jG.weak (lv' := [some (.ref 3), some (.int 0), none, none, none]) ⟨rfl, rfl, trivial⟩ (k0 c1)
  · refine jr_icmp_geF (pc' := 25) (tgt := 96) dX2_survey_22 rfl rfl c1 ?_
    refine jr_lconst (pc' := 26) (v := 1) dX2_survey_25 rfl (by decide) ?_
    refine jr_iload_n (pc' := 27) (i := 1) dX2_survey_26 rfl rfl rfl ?_
    refine jr_lshl (pc' := 28)  dX2_survey_27 rfl  ?_
    refine jr_lstore_n (pc' := 29) (i := 2) (lv' := [some (.ref 3), some (.int a1), some (.long (1 <<< (a1.toInt64 &&& 63))), none, none]) dX2_survey_28 rfl rfl (by decide) rfl ?_
    refine jr_aload_n (pc' := 30) (i := 0) dX2_survey_29 rfl rfl rfl ?_
    refine jr_iload_n (pc' := 31) (i := 1) dX2_survey_30 rfl rfl rfl ?_
    refine jr_callV (pc' := 34) (k := 3) (av := [.int a1]) (st := []) sX2_columnOf wmX2_79 dX2_survey_31 rfl (by decide) rfl (by decide) rfl rfl rfl (Nat.le_of_ble_eq_true rfl) rfl (c_LdcolumnOf (n := n) a1 h ) (fun v h2 hp => ?_)
    rw [hp.1, hp.2]
    show jG E mX2_survey (n + 1) X Post 34 [some (.ref 3), some (.int a1), some (.long (1 <<< (a1.toInt64 &&& 63))), none, none] [.int (f_LdcolumnOf (h.1 3 0) a1)] h
    refine jr_istore (pc' := 36) (i := 4) (lv' := [some (.ref 3), some (.int a1), some (.long (1 <<< (a1.toInt64 &&& 63))), none, some (.int (f_LdcolumnOf (h.1 3 0) a1))]) dX2_survey_34 rfl (by decide) rfl ?_
    refine jr_aload_n (pc' := 37) (i := 0) dX2_survey_36 rfl rfl rfl ?_
    refine jr_dup (pc' := 38)  dX2_survey_37 rfl rfl ?_
    refine jr_get (pc' := 41) jK2 (k := 3) (j := 6) (v := .long (h.2 3 6)) wfX2_30 dX2_survey_38 rfl (by decide) rfl (by decide) rfl ?_
    refine jr_lload_n (pc' := 42) (i := 2) dX2_survey_41 rfl rfl rfl ?_
    refine jr_lor (pc' := 43)  dX2_survey_42 rfl  ?_
    refine jr_putL (pc' := 46) jK2 (k := 3) (j := 6) wfX2_30 dX2_survey_43 rfl (by decide) rfl (by decide) rfl rfl rfl rfl ?_
    refine jr_aload_n (pc' := 47) (i := 0) dX2_survey_46 rfl rfl rfl ?_
    refine jr_dup (pc' := 48)  dX2_survey_47 rfl rfl ?_
    refine jr_get (pc' := 51) jK2 (k := 3) (j := 7) (v := .long (h.2 3 7)) wfX2_34 dX2_survey_48 rfl (by decide) rfl (by decide) rfl ?_
    refine jr_iload (pc' := 53) (i := 4) dX2_survey_51 rfl rfl ?_
    by_cases c2 : (f_LdcolumnOf (h.1 3 0) a1) ≤ 0
    · refine jr_if_leT (pc' := 60) dX2_survey_53 rfl c2 ?_
      refine jr_lconst (pc' := 61) (v := 0) dX2_survey_60 rfl (by decide) ?_
      refine jr_lor (pc' := 62)  dX2_survey_61 rfl  ?_
      refine jr_putL (pc' := 65) jK2 (k := 3) (j := 7) wfX2_34 dX2_survey_62 rfl (by decide) rfl (by decide) rfl rfl rfl rfl ?_
      refine jr_aload_n (pc' := 66) (i := 0) dX2_survey_65 rfl rfl rfl ?_
      refine jr_dup (pc' := 67)  dX2_survey_66 rfl rfl ?_
      refine jr_get (pc' := 70) jK2 (k := 3) (j := 8) (v := .long (h.2 3 8)) wfX2_37 dX2_survey_67 rfl (by decide) rfl (by decide) rfl ?_
      refine jr_iload (pc' := 72) (i := 4) dX2_survey_70 rfl rfl ?_
      refine jr_aload_n (pc' := 73) (i := 0) dX2_survey_72 rfl rfl rfl ?_
      refine jr_get (pc' := 76) jK2 (k := 3) (j := 0) (v := .int (h.1 3 0)) wfX2_9 dX2_survey_73 rfl (by decide) rfl (by decide) rfl ?_
      refine jr_iconst (pc' := 77) (v := 1) dX2_survey_76 rfl (by decide) ?_
      refine jr_isub (pc' := 78)  dX2_survey_77 rfl  ?_
      by_cases c3 : ((h.1 3 0) - 1) ≤ (f_LdcolumnOf (h.1 3 0) a1)
      · refine jr_icmp_geT (pc' := 85) dX2_survey_78 rfl c3 ?_
        refine jr_lconst (pc' := 86) (v := 0) dX2_survey_85 rfl (by decide) ?_
        refine jr_lor (pc' := 87)  dX2_survey_86 rfl  ?_
        refine jr_putL (pc' := 90) jK2 (k := 3) (j := 8) wfX2_37 dX2_survey_87 rfl (by decide) rfl (by decide) rfl rfl rfl rfl ?_
        refine jr_iinc (pc' := 93) (i := 1) (v := (a1 + 1)) (lv' := [some (.ref 3), some (.int (a1 + 1)), some (.long (1 <<< (a1.toInt64 &&& 63))), none, some (.int (f_LdcolumnOf (h.1 3 0) a1))]) dX2_survey_90 rfl rfl (congrArg (a1 + ·) (by decide)) (by decide) rfl ?_
        refine jr_goto (pc' := 17) dX2_survey_93 rfl ?_
        exact jG.weak (lv' := [some (.ref 3), some (.int (a1 + 1)), none, none, none]) ⟨rfl, rfl, trivial⟩ (k1 c1 c2 c3)
      · refine jr_icmp_geF (pc' := 81) (tgt := 85) dX2_survey_78 rfl rfl c3 ?_
        refine jr_lload_n (pc' := 82) (i := 2) dX2_survey_81 rfl rfl rfl ?_
        refine jr_goto (pc' := 86) dX2_survey_82 rfl ?_
        refine jr_lor (pc' := 87)  dX2_survey_86 rfl  ?_
        refine jr_putL (pc' := 90) jK2 (k := 3) (j := 8) wfX2_37 dX2_survey_87 rfl (by decide) rfl (by decide) rfl rfl rfl rfl ?_
        refine jr_iinc (pc' := 93) (i := 1) (v := (a1 + 1)) (lv' := [some (.ref 3), some (.int (a1 + 1)), some (.long (1 <<< (a1.toInt64 &&& 63))), none, some (.int (f_LdcolumnOf (h.1 3 0) a1))]) dX2_survey_90 rfl rfl (congrArg (a1 + ·) (by decide)) (by decide) rfl ?_
        refine jr_goto (pc' := 17) dX2_survey_93 rfl ?_
        exact jG.weak (lv' := [some (.ref 3), some (.int (a1 + 1)), none, none, none]) ⟨rfl, rfl, trivial⟩ (k2 c1 c2 c3)
    · refine jr_if_leF (pc' := 56) (tgt := 60) dX2_survey_53 rfl rfl c2 ?_
      refine jr_lload_n (pc' := 57) (i := 2) dX2_survey_56 rfl rfl rfl ?_
      refine jr_goto (pc' := 61) dX2_survey_57 rfl ?_
      refine jr_lor (pc' := 62)  dX2_survey_61 rfl  ?_
      refine jr_putL (pc' := 65) jK2 (k := 3) (j := 7) wfX2_34 dX2_survey_62 rfl (by decide) rfl (by decide) rfl rfl rfl rfl ?_
      refine jr_aload_n (pc' := 66) (i := 0) dX2_survey_65 rfl rfl rfl ?_
      refine jr_dup (pc' := 67)  dX2_survey_66 rfl rfl ?_
      refine jr_get (pc' := 70) jK2 (k := 3) (j := 8) (v := .long (h.2 3 8)) wfX2_37 dX2_survey_67 rfl (by decide) rfl (by decide) rfl ?_
      refine jr_iload (pc' := 72) (i := 4) dX2_survey_70 rfl rfl ?_
      refine jr_aload_n (pc' := 73) (i := 0) dX2_survey_72 rfl rfl rfl ?_
      refine jr_get (pc' := 76) jK2 (k := 3) (j := 0) (v := .int (h.1 3 0)) wfX2_9 dX2_survey_73 rfl (by decide) rfl (by decide) rfl ?_
      refine jr_iconst (pc' := 77) (v := 1) dX2_survey_76 rfl (by decide) ?_
      refine jr_isub (pc' := 78)  dX2_survey_77 rfl  ?_
      by_cases c4 : ((h.1 3 0) - 1) ≤ (f_LdcolumnOf (h.1 3 0) a1)
      · refine jr_icmp_geT (pc' := 85) dX2_survey_78 rfl c4 ?_
        refine jr_lconst (pc' := 86) (v := 0) dX2_survey_85 rfl (by decide) ?_
        refine jr_lor (pc' := 87)  dX2_survey_86 rfl  ?_
        refine jr_putL (pc' := 90) jK2 (k := 3) (j := 8) wfX2_37 dX2_survey_87 rfl (by decide) rfl (by decide) rfl rfl rfl rfl ?_
        refine jr_iinc (pc' := 93) (i := 1) (v := (a1 + 1)) (lv' := [some (.ref 3), some (.int (a1 + 1)), some (.long (1 <<< (a1.toInt64 &&& 63))), none, some (.int (f_LdcolumnOf (h.1 3 0) a1))]) dX2_survey_90 rfl rfl (congrArg (a1 + ·) (by decide)) (by decide) rfl ?_
        refine jr_goto (pc' := 17) dX2_survey_93 rfl ?_
        exact jG.weak (lv' := [some (.ref 3), some (.int (a1 + 1)), none, none, none]) ⟨rfl, rfl, trivial⟩ (k3 c1 c2 c4)
      · refine jr_icmp_geF (pc' := 81) (tgt := 85) dX2_survey_78 rfl rfl c4 ?_
        refine jr_lload_n (pc' := 82) (i := 2) dX2_survey_81 rfl rfl rfl ?_
        refine jr_goto (pc' := 86) dX2_survey_82 rfl ?_
        refine jr_lor (pc' := 87)  dX2_survey_86 rfl  ?_
        refine jr_putL (pc' := 90) jK2 (k := 3) (j := 8) wfX2_37 dX2_survey_87 rfl (by decide) rfl (by decide) rfl rfl rfl rfl ?_
        refine jr_iinc (pc' := 93) (i := 1) (v := (a1 + 1)) (lv' := [some (.ref 3), some (.int (a1 + 1)), some (.long (1 <<< (a1.toInt64 &&& 63))), none, some (.int (f_LdcolumnOf (h.1 3 0) a1))]) dX2_survey_90 rfl rfl (congrArg (a1 + ·) (by decide)) (by decide) rfl ?_
        refine jr_goto (pc' := 17) dX2_survey_93 rfl ?_
        exact jG.weak (lv' := [some (.ref 3), some (.int (a1 + 1)), none, none, none]) ⟨rfl, rfl, trivial⟩ (k4 c1 c2 c4)

theorem q_Ldsurvey_98 {E : jEnv} {n : Nat} {X : State → Prop} {Post : Option Value → HP → Prop} (a1 : Int32) (h : HP)
    (k0 : ((7 : Int32) < a1) → Post none h)
    (k1 : (¬ (7 : Int32) < a1) → jG E mX2_survey (n + 1) X Post 106 [some (.ref 3), some (.int a1), some (.int 0), none, none] [] h)
    : jG E mX2_survey (n + 1) X Post 98 [some (.ref 3), some (.int a1), none, none, none] [] h := by
  refine jr_iload_n (pc' := 99) (i := 1) dX2_survey_98 rfl rfl rfl ?_
  refine jr_bipush (pc' := 101) (v := 7) dX2_survey_99 rfl (by decide) ?_
  by_cases c1 : (7 : Int32) < a1
  · refine jr_icmp_gtT (pc' := 143) dX2_survey_101 rfl c1 ?_
    exact jr_vret dX2_survey_143 rfl (k0 c1)
  · refine jr_icmp_gtF (pc' := 104) (tgt := 143) dX2_survey_101 rfl rfl c1 ?_
    refine jr_iconst (pc' := 105) (v := 0) dX2_survey_104 rfl (by decide) ?_
    refine jr_istore_n (pc' := 106) (i := 2) (lv' := [some (.ref 3), some (.int a1), some (.int 0), none, none]) dX2_survey_105 rfl rfl (by decide) rfl ?_
    exact jG.weak (lv' := [some (.ref 3), some (.int a1), some (.int 0), none, none]) ⟨rfl, rfl, rfl, trivial⟩ (k1 c1)

theorem q_Ldsurvey_106 {E : jEnv} {n : Nat} {X : State → Prop} {Post : Option Value → HP → Prop} (a1 : Int32) (a2 : Int32) (h : HP)
    (k0 : ((h.1 3 2) ≤ a2) → jG E mX2_survey (n + 1) X Post 98 [some (.ref 3), some (.int (a1 + 1)), none, none, none] [] h)
    (k1 : (¬ (h.1 3 2) ≤ a2) → jCall E mX2_cellsNoDeeper n [.ref 3, .int a1, .int a2] h (fun v h2 => jG E mX2_survey (n + 1) X Post 130 [some (.ref 3), some (.int a1), some (.int a2), none, none] (v.toList ++ [.int ((a1 * 6) + a2), .ref 9]) h2))
    : jG E mX2_survey (n + 1) X Post 106 [some (.ref 3), some (.int a1), some (.int a2), none, none] [] h := by
  refine jr_iload_n (pc' := 107) (i := 2) dX2_survey_106 rfl rfl rfl ?_
  refine jr_aload_n (pc' := 108) (i := 0) dX2_survey_107 rfl rfl rfl ?_
  refine jr_get (pc' := 111) jK2 (k := 3) (j := 2) (v := .int (h.1 3 2)) wfX2_18 dX2_survey_108 rfl (by decide) rfl (by decide) rfl ?_
  by_cases c1 : (h.1 3 2) ≤ a2
  · refine jr_icmp_geT (pc' := 137) dX2_survey_111 rfl c1 ?_
    refine jr_iinc (pc' := 140) (i := 1) (v := (a1 + 1)) (lv' := [some (.ref 3), some (.int (a1 + 1)), some (.int a2), none, none]) dX2_survey_137 rfl rfl (congrArg (a1 + ·) (by decide)) (by decide) rfl ?_
    refine jr_goto (pc' := 98) dX2_survey_140 rfl ?_
    exact jG.weak (lv' := [some (.ref 3), some (.int (a1 + 1)), none, none, none]) ⟨rfl, rfl, trivial⟩ (k0 c1)
  · refine jr_icmp_geF (pc' := 114) (tgt := 137) dX2_survey_111 rfl rfl c1 ?_
    refine jr_aload_n (pc' := 115) (i := 0) dX2_survey_114 rfl rfl rfl ?_
    refine jr_get (pc' := 118) jK2 (k := 3) (j := 14) (v := .ref 9) wfX2_56 dX2_survey_115 rfl (by decide) rfl (by decide) rfl ?_
    refine jr_iload_n (pc' := 119) (i := 1) dX2_survey_118 rfl rfl rfl ?_
    refine jr_bipush (pc' := 121) (v := 6) dX2_survey_119 rfl (by decide) ?_
    refine jr_imul (pc' := 122)  dX2_survey_121 rfl  ?_
    refine jr_iload_n (pc' := 123) (i := 2) dX2_survey_122 rfl rfl rfl ?_
    refine jr_iadd (pc' := 124)  dX2_survey_123 rfl  ?_
    refine jr_aload_n (pc' := 125) (i := 0) dX2_survey_124 rfl rfl rfl ?_
    refine jr_iload_n (pc' := 126) (i := 1) dX2_survey_125 rfl rfl rfl ?_
    refine jr_iload_n (pc' := 127) (i := 2) dX2_survey_126 rfl rfl rfl ?_
    obtain ⟨P1, hC1, hK1⟩ := k1 c1
    exact jr_callV (pc' := 130) (k := 3) (av := [.int a1, .int a2]) (st := [.int ((a1 * 6) + a2), .ref 9]) sX2_cellsNoDeeper wmX2_83 dX2_survey_127 rfl (by decide) rfl (by decide) rfl rfl rfl (Nat.le_of_ble_eq_true rfl) rfl hC1 (fun v h2 hp => jG.weak (lv' := [some (.ref 3), some (.int a1), some (.int a2), none, none]) ⟨rfl, rfl, rfl, trivial⟩ (hK1 v h2 hp))

theorem q_Ldsurvey_130 {E : jEnv} {n : Nat} {X : State → Prop} {Post : Option Value → HP → Prop} (a1 : Int32) (a2 : Int32) (t0 : Int64) (s1 : Int32) (h : HP)
    (b0 : vp_in s1 48)
    (k0 : jG E mX2_survey (n + 1) X Post 106 [some (.ref 3), some (.int a1), some (.int (a2 + 1)), none, none] [] (jPL h 9 s1.toNatClampNeg t0))
    : jG E mX2_survey (n + 1) X Post 130 [some (.ref 3), some (.int a1), some (.int a2), none, none] [.long t0, .int s1, .ref 9] h := by
  refine jr_last (pc' := 131) (j := s1.toNatClampNeg) dX2_survey_130 rfl (by decide) rfl (b0) rfl ?_
  refine jr_iinc (pc' := 134) (i := 2) (v := (a2 + 1)) (lv' := [some (.ref 3), some (.int a1), some (.int (a2 + 1)), none, none]) dX2_survey_131 rfl rfl (congrArg (a2 + ·) (by decide)) (by decide) rfl ?_
  refine jr_goto (pc' := 106) dX2_survey_134 rfl ?_
  exact jG.weak (lv' := [some (.ref 3), some (.int a1), some (.int (a2 + 1)), none, none]) ⟨rfl, rfl, rfl, trivial⟩ (k0)

theorem q_LdcellsNoDeeper_0 {E : jEnv} {n : Nat} {X : State → Prop} {Post : Option Value → HP → Prop} (x : Int32) (y : Int32) (h : HP)
    (k0 : jG E mX2_cellsNoDeeper (n + 2) X Post 5 [some (.ref 3), some (.int x), some (.int y), some (.long 0), none, some (.int 0)] [] h)
    : jG E mX2_cellsNoDeeper (n + 2) X Post 0 [some (.ref 3), some (.int x), some (.int y), none, none, none] [] h := by
  refine jr_lconst (pc' := 1) (v := 0) dX2_cellsNoDeeper_0 rfl (by decide) ?_
  refine jr_lstore_n (pc' := 2) (i := 3) (lv' := [some (.ref 3), some (.int x), some (.int y), some (.long 0), none, none]) dX2_cellsNoDeeper_1 rfl rfl (by decide) rfl ?_
  refine jr_iconst (pc' := 3) (v := 0) dX2_cellsNoDeeper_2 rfl (by decide) ?_
  refine jr_istore (pc' := 5) (i := 5) (lv' := [some (.ref 3), some (.int x), some (.int y), some (.long 0), none, some (.int 0)]) dX2_cellsNoDeeper_3 rfl (by decide) rfl ?_
  exact jG.weak (lv' := [some (.ref 3), some (.int x), some (.int y), some (.long 0), none, some (.int 0)]) ⟨rfl, rfl, rfl, rfl, rfl, trivial⟩ (k0)

theorem q_LdcellsNoDeeper_5 {E : jEnv} {n : Nat} {X : State → Prop} {Post : Option Value → HP → Prop} (a1 : Int32) (a2 : Int32) (l3 : Int64) (a5 : Int32) (h : HP)
    (k0 : ((f_Ldcells (h.1 3 0) (h.1 3 1)) ≤ a5) → Post (some (.long l3)) h)
    (b0 : (¬ (f_Ldcells (h.1 3 0) (h.1 3 1)) ≤ a5) → ((¬ a5 < 0) → (¬ (36 : Int32) ≤ a5) → ((f_LdtideOf ((h.1 3 2)) a2) < 6) → vp_in (f_LdtideOf ((h.1 3 2)) a2) 6))
    (k1 : (¬ (f_Ldcells (h.1 3 0) (h.1 3 1)) ≤ a5) → (a1 < (f_LdwaterOn (h.1 3 2) (h.1 4) (h.1 5) a5 a2)) → jG E mX2_cellsNoDeeper (n + 2) X Post 5 [some (.ref 3), some (.int a1), some (.int a2), some (.long l3), none, some (.int (a5 + 1))] [] h)
    (k2 : (¬ (f_Ldcells (h.1 3 0) (h.1 3 1)) ≤ a5) → (¬ a1 < (f_LdwaterOn (h.1 3 2) (h.1 4) (h.1 5) a5 a2)) → jG E mX2_cellsNoDeeper (n + 2) X Post 5 [some (.ref 3), some (.int a1), some (.int a2), some (.long (l3 ||| (1 <<< (a5.toInt64 &&& 63)))), none, some (.int (a5 + 1))] [] h)
    : jG E mX2_cellsNoDeeper (n + 2) X Post 5 [some (.ref 3), some (.int a1), some (.int a2), some (.long l3), none, some (.int a5)] [] h := by
  refine jr_iload (pc' := 7) (i := 5) dX2_cellsNoDeeper_5 rfl rfl ?_
  refine jr_aload_n (pc' := 8) (i := 0) dX2_cellsNoDeeper_7 rfl rfl rfl ?_
  refine jr_callV (pc' := 11) (k := 3) (av := []) (st := [.int a5]) sX2_cells wmX2_75 dX2_cellsNoDeeper_8 rfl (by decide) rfl (by decide) rfl rfl rfl (Nat.le_of_ble_eq_true rfl) rfl (c_Ldcells (n := n + 1)  h ) (fun v h2 hp => ?_)
  rw [hp.1, hp.2]
  show jG E mX2_cellsNoDeeper (n + 2) X Post 11 [some (.ref 3), some (.int a1), some (.int a2), some (.long l3), none, some (.int a5)] [.int (f_Ldcells (h.1 3 0) (h.1 3 1)), .int a5] h
  by_cases c1 : (f_Ldcells (h.1 3 0) (h.1 3 1)) ≤ a5
  · refine jr_icmp_geT (pc' := 38) dX2_cellsNoDeeper_11 rfl c1 ?_
    refine jr_lload_n (pc' := 39) (i := 3) dX2_cellsNoDeeper_38 rfl rfl rfl ?_
    exact jr_lret dX2_cellsNoDeeper_39 rfl (k0 c1)
  · refine jr_icmp_geF (pc' := 14) (tgt := 38) dX2_cellsNoDeeper_11 rfl rfl c1 ?_
    refine jr_aload_n (pc' := 15) (i := 0) dX2_cellsNoDeeper_14 rfl rfl rfl ?_
    refine jr_iload (pc' := 17) (i := 5) dX2_cellsNoDeeper_15 rfl rfl ?_
    refine jr_iload_n (pc' := 18) (i := 2) dX2_cellsNoDeeper_17 rfl rfl rfl ?_
    refine jr_callV (pc' := 21) (k := 3) (av := [.int a5, .int a2]) (st := []) sX2_waterOn wmX2_87 dX2_cellsNoDeeper_18 rfl (by decide) rfl (by decide) rfl rfl rfl (Nat.le_of_ble_eq_true rfl) rfl (c_LdwaterOn (n := n) a5 a2 h (b0 c1)) (fun v h2 hp => ?_)
    rw [hp.1, hp.2]
    show jG E mX2_cellsNoDeeper (n + 2) X Post 21 [some (.ref 3), some (.int a1), some (.int a2), some (.long l3), none, some (.int a5)] [.int (f_LdwaterOn (h.1 3 2) (h.1 4) (h.1 5) a5 a2)] h
    refine jr_iload_n (pc' := 22) (i := 1) dX2_cellsNoDeeper_21 rfl rfl rfl ?_
    by_cases c2 : a1 < (f_LdwaterOn (h.1 3 2) (h.1 4) (h.1 5) a5 a2)
    · refine jr_icmp_gtT (pc' := 32) dX2_cellsNoDeeper_22 rfl c2 ?_
      refine jr_iinc (pc' := 35) (i := 5) (v := (a5 + 1)) (lv' := [some (.ref 3), some (.int a1), some (.int a2), some (.long l3), none, some (.int (a5 + 1))]) dX2_cellsNoDeeper_32 rfl rfl (congrArg (a5 + ·) (by decide)) (by decide) rfl ?_
      refine jr_goto (pc' := 5) dX2_cellsNoDeeper_35 rfl ?_
      exact jG.weak (lv' := [some (.ref 3), some (.int a1), some (.int a2), some (.long l3), none, some (.int (a5 + 1))]) ⟨rfl, rfl, rfl, rfl, rfl, trivial⟩ (k1 c1 c2)
    · refine jr_icmp_gtF (pc' := 25) (tgt := 32) dX2_cellsNoDeeper_22 rfl rfl c2 ?_
      refine jr_lload_n (pc' := 26) (i := 3) dX2_cellsNoDeeper_25 rfl rfl rfl ?_
      refine jr_lconst (pc' := 27) (v := 1) dX2_cellsNoDeeper_26 rfl (by decide) ?_
      refine jr_iload (pc' := 29) (i := 5) dX2_cellsNoDeeper_27 rfl rfl ?_
      refine jr_lshl (pc' := 30)  dX2_cellsNoDeeper_29 rfl  ?_
      refine jr_lor (pc' := 31)  dX2_cellsNoDeeper_30 rfl  ?_
      refine jr_lstore_n (pc' := 32) (i := 3) (lv' := [some (.ref 3), some (.int a1), some (.int a2), some (.long (l3 ||| (1 <<< (a5.toInt64 &&& 63)))), none, some (.int a5)]) dX2_cellsNoDeeper_31 rfl rfl (by decide) rfl ?_
      refine jr_iinc (pc' := 35) (i := 5) (v := (a5 + 1)) (lv' := [some (.ref 3), some (.int a1), some (.int a2), some (.long (l3 ||| (1 <<< (a5.toInt64 &&& 63)))), none, some (.int (a5 + 1))]) dX2_cellsNoDeeper_32 rfl rfl (congrArg (a5 + ·) (by decide)) (by decide) rfl ?_
      refine jr_goto (pc' := 5) dX2_cellsNoDeeper_35 rfl ?_
      exact jG.weak (lv' := [some (.ref 3), some (.int a1), some (.int a2), some (.long (l3 ||| (1 <<< (a5.toInt64 &&& 63)))), none, some (.int (a5 + 1))]) ⟨rfl, rfl, rfl, rfl, rfl, trivial⟩ (k2 c1 c2)

theorem q_LdnameOfNth_0 {E : jEnv} {n : Nat} {X : State → Prop} {Post : Option Value → HP → Prop} (x : Int64) (y : Int32) (h : HP)
    (k0 : jG E mX2_nameOfNth (n + 2) X Post 6 [some (.ref 3), some (.long x), none, none, some (.int y), some (.int 0)] [] h)
    : jG E mX2_nameOfNth (n + 2) X Post 0 [some (.ref 3), some (.long x), none, some (.int y), none, none] [] h := by
  refine jr_iload_n (pc' := 1) (i := 3) dX2_nameOfNth_0 rfl rfl rfl ?_
  refine jr_istore (pc' := 3) (i := 4) (lv' := [some (.ref 3), some (.long x), none, some (.int y), some (.int y), none]) dX2_nameOfNth_1 rfl (by decide) rfl ?_
  refine jr_iconst (pc' := 4) (v := 0) dX2_nameOfNth_3 rfl (by decide) ?_
  refine jr_istore (pc' := 6) (i := 5) (lv' := [some (.ref 3), some (.long x), none, some (.int y), some (.int y), some (.int 0)]) dX2_nameOfNth_4 rfl (by decide) rfl ?_
  exact jG.weak (lv' := [some (.ref 3), some (.long x), none, none, some (.int y), some (.int 0)]) ⟨rfl, rfl, rfl, rfl, trivial⟩ (k0)

theorem q_LdnameOfNth_6 {E : jEnv} {n : Nat} {X : State → Prop} {Post : Option Value → HP → Prop} (l1 : Int64) (a4 : Int32) (a5 : Int32) (h : HP)
    (k0 : ((f_Ldcells (h.1 3 0) (h.1 3 1)) ≤ a5) → Post (some (.int (-1))) h)
    (k1 : (¬ (f_Ldcells (h.1 3 0) (h.1 3 1)) ≤ a5) → ((f_Shhas l1 a5) = 0) → jG E mX2_nameOfNth (n + 2) X Post 6 [some (.ref 3), some (.long l1), none, none, some (.int a4), some (.int (a5 + 1))] [] h)
    (k2 : (¬ (f_Ldcells (h.1 3 0) (h.1 3 1)) ≤ a5) → (¬ (f_Shhas l1 a5) = 0) → (a4 = 0) → Post (some (.int (f_LdnameOf (h.1 3 0) a5))) h)
    (k3 : (¬ (f_Ldcells (h.1 3 0) (h.1 3 1)) ≤ a5) → (¬ (f_Shhas l1 a5) = 0) → (¬ a4 = 0) → jG E mX2_nameOfNth (n + 2) X Post 6 [some (.ref 3), some (.long l1), none, none, some (.int (a4 + (-1))), some (.int (a5 + 1))] [] h)
    : jG E mX2_nameOfNth (n + 2) X Post 6 [some (.ref 3), some (.long l1), none, none, some (.int a4), some (.int a5)] [] h := by
  refine jr_iload (pc' := 8) (i := 5) dX2_nameOfNth_6 rfl rfl ?_
  refine jr_aload_n (pc' := 9) (i := 0) dX2_nameOfNth_8 rfl rfl rfl ?_
  refine jr_callV (pc' := 12) (k := 3) (av := []) (st := [.int a5]) sX2_cells wmX2_75 dX2_nameOfNth_9 rfl (by decide) rfl (by decide) rfl rfl rfl (Nat.le_of_ble_eq_true rfl) rfl (c_Ldcells (n := n + 1)  h ) (fun v h2 hp => ?_)
  rw [hp.1, hp.2]
  show jG E mX2_nameOfNth (n + 2) X Post 12 [some (.ref 3), some (.long l1), none, none, some (.int a4), some (.int a5)] [.int (f_Ldcells (h.1 3 0) (h.1 3 1)), .int a5] h
  by_cases c1 : (f_Ldcells (h.1 3 0) (h.1 3 1)) ≤ a5
  · refine jr_icmp_geT (pc' := 45) dX2_nameOfNth_12 rfl c1 ?_
    refine jr_iconst (pc' := 46) (v := (-1)) dX2_nameOfNth_45 rfl (by decide) ?_
    exact jr_iret dX2_nameOfNth_46 rfl rfl (k0 c1)
  · refine jr_icmp_geF (pc' := 15) (tgt := 45) dX2_nameOfNth_12 rfl rfl c1 ?_
    refine jr_lload_n (pc' := 16) (i := 1) dX2_nameOfNth_15 rfl rfl rfl ?_
    refine jr_iload (pc' := 18) (i := 5) dX2_nameOfNth_16 rfl rfl ?_
    refine jr_callSN (pc' := 21) (av := [.long l1, .int a5]) (st := []) sX7_has (host := "StiltHeralds") (by decide +kernel) dX2_nameOfNth_18 rfl rfl (Nat.le_of_ble_eq_true rfl) rfl (c_Shhas (n := n + 1) l1 a5 h ) (fun v h2 hp => ?_)
    rw [hp.1, hp.2]
    show jG E mX2_nameOfNth (n + 2) X Post 21 [some (.ref 3), some (.long l1), none, none, some (.int a4), some (.int a5)] [.int (f_Shhas l1 a5)] h
    by_cases c2 : (f_Shhas l1 a5) = 0
    · refine jr_if_eqT (pc' := 39) dX2_nameOfNth_21 rfl c2 ?_
      refine jr_iinc (pc' := 42) (i := 5) (v := (a5 + 1)) (lv' := [some (.ref 3), some (.long l1), none, none, some (.int a4), some (.int (a5 + 1))]) dX2_nameOfNth_39 rfl rfl (congrArg (a5 + ·) (by decide)) (by decide) rfl ?_
      refine jr_goto (pc' := 6) dX2_nameOfNth_42 rfl ?_
      exact jG.weak (lv' := [some (.ref 3), some (.long l1), none, none, some (.int a4), some (.int (a5 + 1))]) ⟨rfl, rfl, rfl, rfl, trivial⟩ (k1 c1 c2)
    · refine jr_if_eqF (pc' := 24) (tgt := 39) dX2_nameOfNth_21 rfl rfl c2 ?_
      refine jr_iload (pc' := 26) (i := 4) dX2_nameOfNth_24 rfl rfl ?_
      by_cases c3 : a4 = 0
      · refine jr_if_neF (pc' := 29) (tgt := 36) dX2_nameOfNth_26 rfl rfl c3 ?_
        refine jr_aload_n (pc' := 30) (i := 0) dX2_nameOfNth_29 rfl rfl rfl ?_
        refine jr_iload (pc' := 32) (i := 5) dX2_nameOfNth_30 rfl rfl ?_
        refine jr_callV (pc' := 35) (k := 3) (av := [.int a5]) (st := []) sX2_nameOf wmX2_98 dX2_nameOfNth_32 rfl (by decide) rfl (by decide) rfl rfl rfl (Nat.le_of_ble_eq_true rfl) rfl (c_LdnameOf (n := n) a5 h ) (fun v h2 hp => ?_)
        rw [hp.1, hp.2]
        show jG E mX2_nameOfNth (n + 2) X Post 35 [some (.ref 3), some (.long l1), none, none, some (.int a4), some (.int a5)] [.int (f_LdnameOf (h.1 3 0) a5)] h
        exact jr_iret dX2_nameOfNth_35 rfl rfl (k2 c1 c2 c3)
      · refine jr_if_neT (pc' := 36) dX2_nameOfNth_26 rfl c3 ?_
        refine jr_iinc (pc' := 39) (i := 4) (v := (a4 + (-1))) (lv' := [some (.ref 3), some (.long l1), none, none, some (.int (a4 + (-1))), some (.int a5)]) dX2_nameOfNth_36 rfl rfl (congrArg (a4 + ·) (by decide)) (by decide) rfl ?_
        refine jr_iinc (pc' := 42) (i := 5) (v := (a5 + 1)) (lv' := [some (.ref 3), some (.long l1), none, none, some (.int (a4 + (-1))), some (.int (a5 + 1))]) dX2_nameOfNth_39 rfl rfl (congrArg (a5 + ·) (by decide)) (by decide) rfl ?_
        refine jr_goto (pc' := 6) dX2_nameOfNth_42 rfl ?_
        exact jG.weak (lv' := [some (.ref 3), some (.long l1), none, none, some (.int (a4 + (-1))), some (.int (a5 + 1))]) ⟨rfl, rfl, rfl, rfl, trivial⟩ (k3 c1 c2 c3)

