theorem q_Mohears_0 {E : jEnv} {n : Nat} {X : State → Prop} {Post : Option Value → HP → Prop}  (h : HP)
    (k0 : jG E mX8_hears (n + 1) X Post 2 [some (.ref 52), some (.int 0), none, none] [] h)
    : jG E mX8_hears (n + 1) X Post 0 [some (.ref 52), none, none, none] [] h := by
  refine jr_iconst (pc' := 1) (v := 0) dX8_hears_0 rfl (by decide) ?_
  refine jr_istore_n (pc' := 2) (i := 1) (lv' := [some (.ref 52), some (.int 0), none, none]) dX8_hears_1 rfl rfl (by decide) rfl ?_
  exact jG.weak (lv' := [some (.ref 52), some (.int 0), none, none]) ⟨rfl, rfl, trivial⟩ (k0)

theorem q_Mohears_2 {E : jEnv} {n : Nat} {X : State → Prop} {Post : Option Value → HP → Prop} (a1 : Int32) (h : HP)
    (k0 : ((h.1 52 5) ≤ a1) → jG E mX8_hears (n + 1) X Post 71 [some (.ref 52), some (.int 0), none, none] [] h)
    (k1 : (¬ (h.1 52 5) ≤ a1) → jG E mX8_hears (n + 1) X Post 12 [some (.ref 52), some (.int a1), some (.int 0), none] [] h)
    : jG E mX8_hears (n + 1) X Post 2 [some (.ref 52), some (.int a1), none, none] [] h := by
  refine jr_iload_n (pc' := 3) (i := 1) dX8_hears_2 rfl rfl rfl ?_
  refine jr_aload_n (pc' := 4) (i := 0) dX8_hears_3 rfl rfl rfl ?_
  refine jr_get (pc' := 7) jK8 (k := 52) (j := 5) (v := .int (h.1 52 5)) wfX8_86 dX8_hears_4 rfl (by decide) rfl (by decide) rfl ?_
  by_cases c1 : (h.1 52 5) ≤ a1
  · refine jr_icmp_geT (pc' := 69) dX8_hears_7 rfl c1 ?_
    refine jr_iconst (pc' := 70) (v := 0) dX8_hears_69 rfl (by decide) ?_
    refine jr_istore_n (pc' := 71) (i := 1) (lv' := [some (.ref 52), some (.int 0), none, none]) dX8_hears_70 rfl rfl (by decide) rfl ?_
    exact jG.weak (lv' := [some (.ref 52), some (.int 0), none, none]) ⟨rfl, rfl, trivial⟩ (k0 c1)
  · refine jr_icmp_geF (pc' := 10) (tgt := 69) dX8_hears_7 rfl rfl c1 ?_
    refine jr_iconst (pc' := 11) (v := 0) dX8_hears_10 rfl (by decide) ?_
    refine jr_istore_n (pc' := 12) (i := 2) (lv' := [some (.ref 52), some (.int a1), some (.int 0), none]) dX8_hears_11 rfl rfl (by decide) rfl ?_
    exact jG.weak (lv' := [some (.ref 52), some (.int a1), some (.int 0), none]) ⟨rfl, rfl, rfl, trivial⟩ (k1 c1)

theorem q_Mohears_71 {E : jEnv} {n : Nat} {X : State → Prop} {Post : Option Value → HP → Prop} (a1 : Int32) (h : HP)
    (k0 : ((2 : Int32) ≤ a1) → Post none h)
    (k1 : (¬ (2 : Int32) ≤ a1) → jG E mX8_hears (n + 1) X Post 78 [some (.ref 52), some (.int a1), some (.int 0), none] [] h)
    : jG E mX8_hears (n + 1) X Post 71 [some (.ref 52), some (.int a1), none, none] [] h := by
  refine jr_iload_n (pc' := 72) (i := 1) dX8_hears_71 rfl rfl rfl ?_
  refine jr_iconst (pc' := 73) (v := 2) dX8_hears_72 rfl (by decide) ?_
  by_cases c1 : (2 : Int32) ≤ a1
  · refine jr_icmp_geT (pc' := 160) dX8_hears_73 rfl c1 ?_
    exact jr_vret dX8_hears_160 rfl (k0 c1)
  · refine jr_icmp_geF (pc' := 76) (tgt := 160) dX8_hears_73 rfl rfl c1 ?_
    refine jr_iconst (pc' := 77) (v := 0) dX8_hears_76 rfl (by decide) ?_
    refine jr_istore_n (pc' := 78) (i := 2) (lv' := [some (.ref 52), some (.int a1), some (.int 0), none]) dX8_hears_77 rfl rfl (by decide) rfl ?_
    exact jG.weak (lv' := [some (.ref 52), some (.int a1), some (.int 0), none]) ⟨rfl, rfl, rfl, trivial⟩ (k1 c1)

theorem q_Mohears_12 {E : jEnv} {n : Nat} {X : State → Prop} {Post : Option Value → HP → Prop} (a1 : Int32) (a2 : Int32) (h : HP)
    (k0 : ((h.1 52 6) ≤ a2) → jG E mX8_hears (n + 1) X Post 2 [some (.ref 52), some (.int (a1 + 1)), none, none] [] h)
    (b0 : (¬ (h.1 52 6) ≤ a2) → vp_in ((2 + (6 * a1)) + 3) 62)
    (b1 : (¬ (h.1 52 6) ≤ a2) → (vp_in ((2 + (6 * a1)) + 1) 62))
    (b2 : (¬ (h.1 52 6) ≤ a2) → (vp_in (2 + (6 * a1)) 62))
    (b3 : (¬ (h.1 52 6) ≤ a2) → vp_in a2 4)
    (b4 : (¬ (h.1 52 6) ≤ a2) → ((f_MospotOf (h.1 52 0) (h.1 56) a1) = (h.1 55 a2.toNatClampNeg)) → vp_in ((2 + (6 * a1)) + 3) 62)
    (k1 : (¬ (h.1 52 6) ≤ a2) → ((f_MospotOf (h.1 52 0) (h.1 56) a1) = (h.1 55 a2.toNatClampNeg)) → jG E mX8_hears (n + 1) X Post 12 [some (.ref 52), some (.int a1), some (.int (a2 + 1)), none] [] (jPI h 56 (((2 + (6 * a1)) + 3).toNatClampNeg) ((h.1 56 (((2 + (6 * a1)) + 3).toNatClampNeg)) ||| (1 <<< (a2 &&& 31)))))
    (b5 : (¬ (h.1 52 6) ≤ a2) → (¬ (f_MospotOf (h.1 52 0) (h.1 56) a1) = (h.1 55 a2.toNatClampNeg)) → vp_in ((2 + (6 * a1)) + 3) 62)
    (k2 : (¬ (h.1 52 6) ≤ a2) → (¬ (f_MospotOf (h.1 52 0) (h.1 56) a1) = (h.1 55 a2.toNatClampNeg)) → jG E mX8_hears (n + 1) X Post 12 [some (.ref 52), some (.int a1), some (.int (a2 + 1)), none] [] (jPI h 56 (((2 + (6 * a1)) + 3).toNatClampNeg) ((h.1 56 (((2 + (6 * a1)) + 3).toNatClampNeg)) ||| 0)))
    : jG E mX8_hears (n + 1) X Post 12 [some (.ref 52), some (.int a1), some (.int a2), none] [] h := by
  refine jr_iload_n (pc' := 13) (i := 2) dX8_hears_12 rfl rfl rfl ?_
  refine jr_aload_n (pc' := 14) (i := 0) dX8_hears_13 rfl rfl rfl ?_
  refine jr_get (pc' := 17) jK8 (k := 52) (j := 6) (v := .int (h.1 52 6)) wfX8_89 dX8_hears_14 rfl (by decide) rfl (by decide) rfl ?_
  by_cases c1 : (h.1 52 6) ≤ a2
  · refine jr_icmp_geT (pc' := 63) dX8_hears_17 rfl c1 ?_
    refine jr_iinc (pc' := 66) (i := 1) (v := (a1 + 1)) (lv' := [some (.ref 52), some (.int (a1 + 1)), some (.int a2), none]) dX8_hears_63 rfl rfl (congrArg (a1 + ·) (by decide)) (by decide) rfl ?_
    refine jr_goto (pc' := 2) dX8_hears_66 rfl ?_
    exact jG.weak (lv' := [some (.ref 52), some (.int (a1 + 1)), none, none]) ⟨rfl, rfl, trivial⟩ (k0 c1)
  · refine jr_icmp_geF (pc' := 20) (tgt := 63) dX8_hears_17 rfl rfl c1 ?_
    refine jr_aload_n (pc' := 21) (i := 0) dX8_hears_20 rfl rfl rfl ?_
    refine jr_get (pc' := 24) jK8 (k := 52) (j := 9) (v := .ref 56) wfX8_19 dX8_hears_21 rfl (by decide) rfl (by decide) rfl ?_
    refine jr_iconst (pc' := 25) (v := 2) dX8_hears_24 rfl (by decide) ?_
    refine jr_bipush (pc' := 27) (v := 6) dX8_hears_25 rfl (by decide) ?_
    refine jr_iload_n (pc' := 28) (i := 1) dX8_hears_27 rfl rfl rfl ?_
    refine jr_imul (pc' := 29)  dX8_hears_28 rfl  ?_
    refine jr_iadd (pc' := 30)  dX8_hears_29 rfl  ?_
    refine jr_iconst (pc' := 31) (v := 3) dX8_hears_30 rfl (by decide) ?_
    refine jr_iadd (pc' := 32)  dX8_hears_31 rfl  ?_
    refine jr_dup2 (pc' := 33)  dX8_hears_32 rfl rfl rfl ?_
    refine jr_iald (pc' := 34) (v := h.1 56 (((2 + (6 * a1)) + 3).toNatClampNeg)) dX8_hears_33 rfl (by decide) rfl (b0 c1) rfl ?_
    refine jr_aload_n (pc' := 35) (i := 0) dX8_hears_34 rfl rfl rfl ?_
    refine jr_iload_n (pc' := 36) (i := 1) dX8_hears_35 rfl rfl rfl ?_
    refine jr_callV (pc' := 39) (k := 52) (av := [.int a1]) (st := [.int (h.1 56 (((2 + (6 * a1)) + 3).toNatClampNeg)), .int ((2 + (6 * a1)) + 3), .ref 56]) sX8_spotOf wmX8_223 dX8_hears_36 rfl (by decide) rfl (by decide) rfl rfl rfl (Nat.le_of_ble_eq_true rfl) rfl (c_MospotOf (n := n) a1 h (b1 c1) (b2 c1)) (fun v h2 hp => ?_)
    rw [hp.1, hp.2]
    show jG E mX8_hears (n + 1) X Post 39 [some (.ref 52), some (.int a1), some (.int a2), none] [.int (f_MospotOf (h.1 52 0) (h.1 56) a1), .int (h.1 56 (((2 + (6 * a1)) + 3).toNatClampNeg)), .int ((2 + (6 * a1)) + 3), .ref 56] h
    refine jr_aload_n (pc' := 40) (i := 0) dX8_hears_39 rfl rfl rfl ?_
    refine jr_get (pc' := 43) jK8 (k := 52) (j := 7) (v := .ref 55) wfX8_16 dX8_hears_40 rfl (by decide) rfl (by decide) rfl ?_
    refine jr_iload_n (pc' := 44) (i := 2) dX8_hears_43 rfl rfl rfl ?_
    refine jr_iald (pc' := 45) (v := h.1 55 a2.toNatClampNeg) dX8_hears_44 rfl (by decide) rfl (b3 c1) rfl ?_
    by_cases c2 : (f_MospotOf (h.1 52 0) (h.1 56) a1) = (h.1 55 a2.toNatClampNeg)
    · refine jr_icmp_neF (pc' := 48) (tgt := 54) dX8_hears_45 rfl rfl c2 ?_
      refine jr_iconst (pc' := 49) (v := 1) dX8_hears_48 rfl (by decide) ?_
      refine jr_iload_n (pc' := 50) (i := 2) dX8_hears_49 rfl rfl rfl ?_
      refine jr_ishl (pc' := 51)  dX8_hears_50 rfl  ?_
      refine jr_goto (pc' := 55) dX8_hears_51 rfl ?_
      refine jr_ior (pc' := 56)  dX8_hears_55 rfl  ?_
      refine jr_iast (pc' := 57) (j := ((2 + (6 * a1)) + 3).toNatClampNeg) dX8_hears_56 rfl (by decide) rfl (b4 c1 c2) rfl ?_
      refine jr_iinc (pc' := 60) (i := 2) (v := (a2 + 1)) (lv' := [some (.ref 52), some (.int a1), some (.int (a2 + 1)), none]) dX8_hears_57 rfl rfl (congrArg (a2 + ·) (by decide)) (by decide) rfl ?_
      refine jr_goto (pc' := 12) dX8_hears_60 rfl ?_
      exact jG.weak (lv' := [some (.ref 52), some (.int a1), some (.int (a2 + 1)), none]) ⟨rfl, rfl, rfl, trivial⟩ (k1 c1 c2)
    · refine jr_icmp_neT (pc' := 54) dX8_hears_45 rfl c2 ?_
      refine jr_iconst (pc' := 55) (v := 0) dX8_hears_54 rfl (by decide) ?_
      refine jr_ior (pc' := 56)  dX8_hears_55 rfl  ?_
      refine jr_iast (pc' := 57) (j := ((2 + (6 * a1)) + 3).toNatClampNeg) dX8_hears_56 rfl (by decide) rfl (b5 c1 c2) rfl ?_
      refine jr_iinc (pc' := 60) (i := 2) (v := (a2 + 1)) (lv' := [some (.ref 52), some (.int a1), some (.int (a2 + 1)), none]) dX8_hears_57 rfl rfl (congrArg (a2 + ·) (by decide)) (by decide) rfl ?_
      refine jr_goto (pc' := 12) dX8_hears_60 rfl ?_
      exact jG.weak (lv' := [some (.ref 52), some (.int a1), some (.int (a2 + 1)), none]) ⟨rfl, rfl, rfl, trivial⟩ (k2 c1 c2)

theorem q_Mohears_78 {E : jEnv} {n : Nat} {X : State → Prop} {Post : Option Value → HP → Prop} (a1 : Int32) (a2 : Int32) (h : HP)
    (k0 : ((h.1 52 5) ≤ a2) → jG E mX8_hears (n + 1) X Post 71 [some (.ref 52), some (.int (a1 + 1)), none, none] [] h)
    (k1 : (¬ (h.1 52 5) ≤ a2) → jG E mX8_hears (n + 1) X Post 88 [some (.ref 52), some (.int a1), some (.int a2), some (.int 0)] [] h)
    : jG E mX8_hears (n + 1) X Post 78 [some (.ref 52), some (.int a1), some (.int a2), none] [] h := by
  refine jr_iload_n (pc' := 79) (i := 2) dX8_hears_78 rfl rfl rfl ?_
  refine jr_aload_n (pc' := 80) (i := 0) dX8_hears_79 rfl rfl rfl ?_
  refine jr_get (pc' := 83) jK8 (k := 52) (j := 5) (v := .int (h.1 52 5)) wfX8_86 dX8_hears_80 rfl (by decide) rfl (by decide) rfl ?_
  by_cases c1 : (h.1 52 5) ≤ a2
  · refine jr_icmp_geT (pc' := 154) dX8_hears_83 rfl c1 ?_
    refine jr_iinc (pc' := 157) (i := 1) (v := (a1 + 1)) (lv' := [some (.ref 52), some (.int (a1 + 1)), some (.int a2), none]) dX8_hears_154 rfl rfl (congrArg (a1 + ·) (by decide)) (by decide) rfl ?_
    refine jr_goto (pc' := 71) dX8_hears_157 rfl ?_
    exact jG.weak (lv' := [some (.ref 52), some (.int (a1 + 1)), none, none]) ⟨rfl, rfl, trivial⟩ (k0 c1)
  · refine jr_icmp_geF (pc' := 86) (tgt := 154) dX8_hears_83 rfl rfl c1 ?_
    refine jr_iconst (pc' := 87) (v := 0) dX8_hears_86 rfl (by decide) ?_
    refine jr_istore_n (pc' := 88) (i := 3) (lv' := [some (.ref 52), some (.int a1), some (.int a2), some (.int 0)]) dX8_hears_87 rfl rfl (by decide) rfl ?_
    exact jG.weak (lv' := [some (.ref 52), some (.int a1), some (.int a2), some (.int 0)]) ⟨rfl, rfl, rfl, rfl, trivial⟩ (k1 c1)

theorem q_Mohears_88 {E : jEnv} {n : Nat} {X : State → Prop} {Post : Option Value → HP → Prop} (a1 : Int32) (a2 : Int32) (a3 : Int32) (h : HP)
    (k0 : ((h.1 52 5) ≤ a3) → jG E mX8_hears (n + 1) X Post 78 [some (.ref 52), some (.int a1), some (.int (a2 + 1)), none] [] h)
    (b0 : (¬ (h.1 52 5) ≤ a3) → vp_in ((2 + (6 * a2)) + 3) 62)
    (b1 : (¬ (h.1 52 5) ≤ a3) → (vp_in ((2 + (6 * a2)) + 1) 62))
    (b2 : (¬ (h.1 52 5) ≤ a3) → (vp_in (2 + (6 * a2)) 62))
    (b3 : (¬ (h.1 52 5) ≤ a3) → (vp_in ((2 + (6 * a3)) + 1) 62))
    (b4 : (¬ (h.1 52 5) ≤ a3) → (vp_in (2 + (6 * a3)) 62))
    (b5 : (¬ (h.1 52 5) ≤ a3) → ((f_MospotOf (h.1 52 0) (h.1 56) a2) = (f_MospotOf (h.1 52 0) (h.1 56) a3)) → vp_in ((2 + (6 * a3)) + 3) 62)
    (b6 : (¬ (h.1 52 5) ≤ a3) → ((f_MospotOf (h.1 52 0) (h.1 56) a2) = (f_MospotOf (h.1 52 0) (h.1 56) a3)) → vp_in ((2 + (6 * a2)) + 3) 62)
    (k1 : (¬ (h.1 52 5) ≤ a3) → ((f_MospotOf (h.1 52 0) (h.1 56) a2) = (f_MospotOf (h.1 52 0) (h.1 56) a3)) → jG E mX8_hears (n + 1) X Post 88 [some (.ref 52), some (.int a1), some (.int a2), some (.int (a3 + 1))] [] (jPI h 56 (((2 + (6 * a2)) + 3).toNatClampNeg) ((h.1 56 (((2 + (6 * a2)) + 3).toNatClampNeg)) ||| (h.1 56 (((2 + (6 * a3)) + 3).toNatClampNeg)))))
    (b7 : (¬ (h.1 52 5) ≤ a3) → (¬ (f_MospotOf (h.1 52 0) (h.1 56) a2) = (f_MospotOf (h.1 52 0) (h.1 56) a3)) → vp_in ((2 + (6 * a2)) + 3) 62)
    (k2 : (¬ (h.1 52 5) ≤ a3) → (¬ (f_MospotOf (h.1 52 0) (h.1 56) a2) = (f_MospotOf (h.1 52 0) (h.1 56) a3)) → jG E mX8_hears (n + 1) X Post 88 [some (.ref 52), some (.int a1), some (.int a2), some (.int (a3 + 1))] [] (jPI h 56 (((2 + (6 * a2)) + 3).toNatClampNeg) ((h.1 56 (((2 + (6 * a2)) + 3).toNatClampNeg)) ||| 0)))
    : jG E mX8_hears (n + 1) X Post 88 [some (.ref 52), some (.int a1), some (.int a2), some (.int a3)] [] h := by
  refine jr_iload_n (pc' := 89) (i := 3) dX8_hears_88 rfl rfl rfl ?_
  refine jr_aload_n (pc' := 90) (i := 0) dX8_hears_89 rfl rfl rfl ?_
  refine jr_get (pc' := 93) jK8 (k := 52) (j := 5) (v := .int (h.1 52 5)) wfX8_86 dX8_hears_90 rfl (by decide) rfl (by decide) rfl ?_
  by_cases c1 : (h.1 52 5) ≤ a3
  · refine jr_icmp_geT (pc' := 148) dX8_hears_93 rfl c1 ?_
    refine jr_iinc (pc' := 151) (i := 2) (v := (a2 + 1)) (lv' := [some (.ref 52), some (.int a1), some (.int (a2 + 1)), some (.int a3)]) dX8_hears_148 rfl rfl (congrArg (a2 + ·) (by decide)) (by decide) rfl ?_
    refine jr_goto (pc' := 78) dX8_hears_151 rfl ?_
    exact jG.weak (lv' := [some (.ref 52), some (.int a1), some (.int (a2 + 1)), none]) ⟨rfl, rfl, rfl, trivial⟩ (k0 c1)
  · refine jr_icmp_geF (pc' := 96) (tgt := 148) dX8_hears_93 rfl rfl c1 ?_
    refine jr_aload_n (pc' := 97) (i := 0) dX8_hears_96 rfl rfl rfl ?_
    refine jr_get (pc' := 100) jK8 (k := 52) (j := 9) (v := .ref 56) wfX8_19 dX8_hears_97 rfl (by decide) rfl (by decide) rfl ?_
    refine jr_iconst (pc' := 101) (v := 2) dX8_hears_100 rfl (by decide) ?_
    refine jr_bipush (pc' := 103) (v := 6) dX8_hears_101 rfl (by decide) ?_
    refine jr_iload_n (pc' := 104) (i := 2) dX8_hears_103 rfl rfl rfl ?_
    refine jr_imul (pc' := 105)  dX8_hears_104 rfl  ?_
    refine jr_iadd (pc' := 106)  dX8_hears_105 rfl  ?_
    refine jr_iconst (pc' := 107) (v := 3) dX8_hears_106 rfl (by decide) ?_
    refine jr_iadd (pc' := 108)  dX8_hears_107 rfl  ?_
    refine jr_dup2 (pc' := 109)  dX8_hears_108 rfl rfl rfl ?_
    refine jr_iald (pc' := 110) (v := h.1 56 (((2 + (6 * a2)) + 3).toNatClampNeg)) dX8_hears_109 rfl (by decide) rfl (b0 c1) rfl ?_
    refine jr_aload_n (pc' := 111) (i := 0) dX8_hears_110 rfl rfl rfl ?_
    refine jr_iload_n (pc' := 112) (i := 2) dX8_hears_111 rfl rfl rfl ?_
    refine jr_callV (pc' := 115) (k := 52) (av := [.int a2]) (st := [.int (h.1 56 (((2 + (6 * a2)) + 3).toNatClampNeg)), .int ((2 + (6 * a2)) + 3), .ref 56]) sX8_spotOf wmX8_223 dX8_hears_112 rfl (by decide) rfl (by decide) rfl rfl rfl (Nat.le_of_ble_eq_true rfl) rfl (c_MospotOf (n := n) a2 h (b1 c1) (b2 c1)) (fun v h2 hp => ?_)
    rw [hp.1, hp.2]
    show jG E mX8_hears (n + 1) X Post 115 [some (.ref 52), some (.int a1), some (.int a2), some (.int a3)] [.int (f_MospotOf (h.1 52 0) (h.1 56) a2), .int (h.1 56 (((2 + (6 * a2)) + 3).toNatClampNeg)), .int ((2 + (6 * a2)) + 3), .ref 56] h
    refine jr_aload_n (pc' := 116) (i := 0) dX8_hears_115 rfl rfl rfl ?_
    refine jr_iload_n (pc' := 117) (i := 3) dX8_hears_116 rfl rfl rfl ?_
    refine jr_callV (pc' := 120) (k := 52) (av := [.int a3]) (st := [.int (f_MospotOf (h.1 52 0) (h.1 56) a2), .int (h.1 56 (((2 + (6 * a2)) + 3).toNatClampNeg)), .int ((2 + (6 * a2)) + 3), .ref 56]) sX8_spotOf wmX8_223 dX8_hears_117 rfl (by decide) rfl (by decide) rfl rfl rfl (Nat.le_of_ble_eq_true rfl) rfl (c_MospotOf (n := n) a3 h (b3 c1) (b4 c1)) (fun v h2 hp => ?_)
    rw [hp.1, hp.2]
    show jG E mX8_hears (n + 1) X Post 120 [some (.ref 52), some (.int a1), some (.int a2), some (.int a3)] [.int (f_MospotOf (h.1 52 0) (h.1 56) a3), .int (f_MospotOf (h.1 52 0) (h.1 56) a2), .int (h.1 56 (((2 + (6 * a2)) + 3).toNatClampNeg)), .int ((2 + (6 * a2)) + 3), .ref 56] h
    by_cases c2 : (f_MospotOf (h.1 52 0) (h.1 56) a2) = (f_MospotOf (h.1 52 0) (h.1 56) a3)
    · refine jr_icmp_neF (pc' := 123) (tgt := 139) dX8_hears_120 rfl rfl c2 ?_
      refine jr_aload_n (pc' := 124) (i := 0) dX8_hears_123 rfl rfl rfl ?_
      refine jr_get (pc' := 127) jK8 (k := 52) (j := 9) (v := .ref 56) wfX8_19 dX8_hears_124 rfl (by decide) rfl (by decide) rfl ?_
      refine jr_iconst (pc' := 128) (v := 2) dX8_hears_127 rfl (by decide) ?_
      refine jr_bipush (pc' := 130) (v := 6) dX8_hears_128 rfl (by decide) ?_
      refine jr_iload_n (pc' := 131) (i := 3) dX8_hears_130 rfl rfl rfl ?_
      refine jr_imul (pc' := 132)  dX8_hears_131 rfl  ?_
      refine jr_iadd (pc' := 133)  dX8_hears_132 rfl  ?_
      refine jr_iconst (pc' := 134) (v := 3) dX8_hears_133 rfl (by decide) ?_
      refine jr_iadd (pc' := 135)  dX8_hears_134 rfl  ?_
      refine jr_iald (pc' := 136) (v := h.1 56 (((2 + (6 * a3)) + 3).toNatClampNeg)) dX8_hears_135 rfl (by decide) rfl (b5 c1 c2) rfl ?_
      refine jr_goto (pc' := 140) dX8_hears_136 rfl ?_
      refine jr_ior (pc' := 141)  dX8_hears_140 rfl  ?_
      refine jr_iast (pc' := 142) (j := ((2 + (6 * a2)) + 3).toNatClampNeg) dX8_hears_141 rfl (by decide) rfl (b6 c1 c2) rfl ?_
      refine jr_iinc (pc' := 145) (i := 3) (v := (a3 + 1)) (lv' := [some (.ref 52), some (.int a1), some (.int a2), some (.int (a3 + 1))]) dX8_hears_142 rfl rfl (congrArg (a3 + ·) (by decide)) (by decide) rfl ?_
      refine jr_goto (pc' := 88) dX8_hears_145 rfl ?_
      exact jG.weak (lv' := [some (.ref 52), some (.int a1), some (.int a2), some (.int (a3 + 1))]) ⟨rfl, rfl, rfl, rfl, trivial⟩ (k1 c1 c2)
    · refine jr_icmp_neT (pc' := 139) dX8_hears_120 rfl c2 ?_
      refine jr_iconst (pc' := 140) (v := 0) dX8_hears_139 rfl (by decide) ?_
      refine jr_ior (pc' := 141)  dX8_hears_140 rfl  ?_
      refine jr_iast (pc' := 142) (j := ((2 + (6 * a2)) + 3).toNatClampNeg) dX8_hears_141 rfl (by decide) rfl (b7 c1 c2) rfl ?_
      refine jr_iinc (pc' := 145) (i := 3) (v := (a3 + 1)) (lv' := [some (.ref 52), some (.int a1), some (.int a2), some (.int (a3 + 1))]) dX8_hears_142 rfl rfl (congrArg (a3 + ·) (by decide)) (by decide) rfl ?_
      refine jr_goto (pc' := 88) dX8_hears_145 rfl ?_
      exact jG.weak (lv' := [some (.ref 52), some (.int a1), some (.int a2), some (.int (a3 + 1))]) ⟨rfl, rfl, rfl, rfl, trivial⟩ (k2 c1 c2)

theorem q_Motold_0 {E : jEnv} {n : Nat} {X : State → Prop} {Post : Option Value → HP → Prop} (x : Int32) (h : HP)
    (k0 : ((f_Moin x.toInt64 0 10) = 0) → Post (some (.int (-1000000002))) h)
    (k1 : (¬ (f_Moin x.toInt64 0 10) = 0) → jG E mX8_told (n + 1) X Post 19 [some (.ref 52), some (.int x), some (.int 0), some (.int 0), none] [] h)
    : jG E mX8_told (n + 1) X Post 0 [some (.ref 52), some (.int x), none, none, none] [] h := by
  refine jr_iload_n (pc' := 1) (i := 1) dX8_told_0 rfl rfl rfl ?_
  refine jr_i2l (pc' := 2)  dX8_told_1 rfl  ?_
  refine jr_lconst (pc' := 3) (v := 0) dX8_told_2 rfl (by decide) ?_
  refine jr_ldc2 (pc' := 6) (v := 10) dX8_told_3 rfl wcX8_244 ?_
  refine jr_callS (pc' := 9) (av := [.long x.toInt64, .long 0, .long 10]) (st := []) sX8_in wmX8_79 dX8_told_6 rfl rfl (Nat.le_of_ble_eq_true rfl) rfl (c_Moin (n := n) x.toInt64 0 10 h ) (fun v h2 hp => ?_)
  rw [hp.1, hp.2]
  show jG E mX8_told (n + 1) X Post 9 [some (.ref 52), some (.int x), none, none, none] [.int (f_Moin x.toInt64 0 10)] h
  by_cases c1 : (f_Moin x.toInt64 0 10) = 0
  · refine jr_if_neF (pc' := 12) (tgt := 15) dX8_told_9 rfl rfl c1 ?_
    refine jr_ldc (pc' := 14) (v := (-1000000002)) dX8_told_12 rfl wcX8_94 ?_
    exact jr_iret dX8_told_14 rfl rfl (k0 c1)
  · refine jr_if_neT (pc' := 15) dX8_told_9 rfl c1 ?_
    refine jr_iconst (pc' := 16) (v := 0) dX8_told_15 rfl (by decide) ?_
    refine jr_istore_n (pc' := 17) (i := 2) (lv' := [some (.ref 52), some (.int x), some (.int 0), none, none]) dX8_told_16 rfl rfl (by decide) rfl ?_
    refine jr_iconst (pc' := 18) (v := 0) dX8_told_17 rfl (by decide) ?_
    refine jr_istore_n (pc' := 19) (i := 3) (lv' := [some (.ref 52), some (.int x), some (.int 0), some (.int 0), none]) dX8_told_18 rfl rfl (by decide) rfl ?_
    exact jG.weak (lv' := [some (.ref 52), some (.int x), some (.int 0), some (.int 0), none]) ⟨rfl, rfl, rfl, rfl, trivial⟩ (k1 c1)

set_option maxRecDepth 4000 in
theorem q_Motold_19 {E : jEnv} {n : Nat} {X : State → Prop} {Post : Option Value → HP → Prop} (a1 : Int32) (a2 : Int32) (a3 : Int32) (h : HP)
    (k0 : ((h.1 52 5) ≤ a3) → (a1 = 0) → jG E mX8_told (n + 1) X Post 116 [some (.ref 52), some (.int a1), some (.int a2), none, none] [.int (h.1 52 0)] h)
    (k1 : ((h.1 52 5) ≤ a3) → (¬ a1 = 0) → (a1 = 1) → jG E mX8_told (n + 1) X Post 116 [some (.ref 52), some (.int a1), some (.int a2), none, none] [.int (h.1 52 1)] h)
    (k2 : ((h.1 52 5) ≤ a3) → (¬ a1 = 0) → (¬ a1 = 1) → (a1 = 2) → jG E mX8_told (n + 1) X Post 116 [some (.ref 52), some (.int a1), some (.int a2), none, none] [.int (h.1 52 4)] h)
    (k3 : ((h.1 52 5) ≤ a3) → (¬ a1 = 0) → (¬ a1 = 1) → (¬ a1 = 2) → (a1 = 3) → jG E mX8_told (n + 1) X Post 116 [some (.ref 52), some (.int a1), some (.int a2), none, none] [.int (h.1 52 5)] h)
    (k4 : ((h.1 52 5) ≤ a3) → (¬ a1 = 0) → (¬ a1 = 1) → (¬ a1 = 2) → (¬ a1 = 3) → jG E mX8_told (n + 1) X Post 116 [some (.ref 52), some (.int a1), some (.int a2), none, none] [.int (h.1 52 6)] h)
    (b0 : (¬ (h.1 52 5) ≤ a3) → (vp_in ((2 + (6 * a3)) + 1) 62))
    (b1 : (¬ (h.1 52 5) ≤ a3) → (vp_in (2 + (6 * a3)) 62))
    (b2 : (¬ (h.1 52 5) ≤ a3) → ((f_MospotOf (h.1 52 0) (h.1 56) a3) = (h.1 52 8)) → vp_in ((2 + (6 * a3)) + 3) 62)
    (k5 : (¬ (h.1 52 5) ≤ a3) → ((f_MospotOf (h.1 52 0) (h.1 56) a3) = (h.1 52 8)) → jG E mX8_told (n + 1) X Post 19 [some (.ref 52), some (.int a1), some (.int (a2 ||| (h.1 56 (((2 + (6 * a3)) + 3).toNatClampNeg)))), some (.int (a3 + 1)), none] [] h)
    (k6 : (¬ (h.1 52 5) ≤ a3) → (¬ (f_MospotOf (h.1 52 0) (h.1 56) a3) = (h.1 52 8)) → jG E mX8_told (n + 1) X Post 19 [some (.ref 52), some (.int a1), some (.int (a2 ||| 0)), some (.int (a3 + 1)), none] [] h)
    : jG E mX8_told (n + 1) X Post 19 [some (.ref 52), some (.int a1), some (.int a2), some (.int a3), none] [] h := by
  refine jr_iload_n (pc' := 20) (i := 3) dX8_told_19 rfl rfl rfl ?_
  refine jr_aload_n (pc' := 21) (i := 0) dX8_told_20 rfl rfl rfl ?_
  refine jr_get (pc' := 24) jK8 (k := 52) (j := 5) (v := .int (h.1 52 5)) wfX8_86 dX8_told_21 rfl (by decide) rfl (by decide) rfl ?_
  by_cases c1 : (h.1 52 5) ≤ a3
  · refine jr_icmp_geT (pc' := 65) dX8_told_24 rfl c1 ?_
    refine jr_iload_n (pc' := 66) (i := 1) dX8_told_65 rfl rfl rfl ?_
    by_cases c2 : a1 = 0
    · refine jr_if_neF (pc' := 69) (tgt := 76) dX8_told_66 rfl rfl c2 ?_
      refine jr_aload_n (pc' := 70) (i := 0) dX8_told_69 rfl rfl rfl ?_
      refine jr_get (pc' := 73) jK8 (k := 52) (j := 0) (v := .int (h.1 52 0)) wfX8_76 dX8_told_70 rfl (by decide) rfl (by decide) rfl ?_
      refine jr_goto (pc' := 116) dX8_told_73 rfl ?_
      exact jG.weak (lv' := [some (.ref 52), some (.int a1), some (.int a2), none, none]) ⟨rfl, rfl, rfl, trivial⟩ (k0 c1 c2)
    · refine jr_if_neT (pc' := 76) dX8_told_66 rfl c2 ?_
      refine jr_iload_n (pc' := 77) (i := 1) dX8_told_76 rfl rfl rfl ?_
      refine jr_iconst (pc' := 78) (v := 1) dX8_told_77 rfl (by decide) ?_
      by_cases c3 : a1 = 1
      · refine jr_icmp_neF (pc' := 81) (tgt := 88) dX8_told_78 rfl rfl c3 ?_
        refine jr_aload_n (pc' := 82) (i := 0) dX8_told_81 rfl rfl rfl ?_
        refine jr_get (pc' := 85) jK8 (k := 52) (j := 1) (v := .int (h.1 52 1)) wfX8_83 dX8_told_82 rfl (by decide) rfl (by decide) rfl ?_
        refine jr_goto (pc' := 116) dX8_told_85 rfl ?_
        exact jG.weak (lv' := [some (.ref 52), some (.int a1), some (.int a2), none, none]) ⟨rfl, rfl, rfl, trivial⟩ (k1 c1 c2 c3)
      · refine jr_icmp_neT (pc' := 88) dX8_told_78 rfl c3 ?_
        refine jr_iload_n (pc' := 89) (i := 1) dX8_told_88 rfl rfl rfl ?_
        refine jr_iconst (pc' := 90) (v := 2) dX8_told_89 rfl (by decide) ?_
        by_cases c4 : a1 = 2
        · refine jr_icmp_neF (pc' := 93) (tgt := 100) dX8_told_90 rfl rfl c4 ?_
          refine jr_aload_n (pc' := 94) (i := 0) dX8_told_93 rfl rfl rfl ?_
          refine jr_get (pc' := 97) jK8 (k := 52) (j := 4) (v := .int (h.1 52 4)) wfX8_69 dX8_told_94 rfl (by decide) rfl (by decide) rfl ?_
          refine jr_goto (pc' := 116) dX8_told_97 rfl ?_
          exact jG.weak (lv' := [some (.ref 52), some (.int a1), some (.int a2), none, none]) ⟨rfl, rfl, rfl, trivial⟩ (k2 c1 c2 c3 c4)
        · refine jr_icmp_neT (pc' := 100) dX8_told_90 rfl c4 ?_
          refine jr_iload_n (pc' := 101) (i := 1) dX8_told_100 rfl rfl rfl ?_
          refine jr_iconst (pc' := 102) (v := 3) dX8_told_101 rfl (by decide) ?_
          by_cases c5 : a1 = 3
          · refine jr_icmp_neF (pc' := 105) (tgt := 112) dX8_told_102 rfl rfl c5 ?_
            refine jr_aload_n (pc' := 106) (i := 0) dX8_told_105 rfl rfl rfl ?_
            refine jr_get (pc' := 109) jK8 (k := 52) (j := 5) (v := .int (h.1 52 5)) wfX8_86 dX8_told_106 rfl (by decide) rfl (by decide) rfl ?_
            refine jr_goto (pc' := 116) dX8_told_109 rfl ?_
            exact jG.weak (lv' := [some (.ref 52), some (.int a1), some (.int a2), none, none]) ⟨rfl, rfl, rfl, trivial⟩ (k3 c1 c2 c3 c4 c5)
          · refine jr_icmp_neT (pc' := 112) dX8_told_102 rfl c5 ?_
            refine jr_aload_n (pc' := 113) (i := 0) dX8_told_112 rfl rfl rfl ?_
            refine jr_get (pc' := 116) jK8 (k := 52) (j := 6) (v := .int (h.1 52 6)) wfX8_89 dX8_told_113 rfl (by decide) rfl (by decide) rfl ?_
            exact jG.weak (lv' := [some (.ref 52), some (.int a1), some (.int a2), none, none]) ⟨rfl, rfl, rfl, trivial⟩ (k4 c1 c2 c3 c4 c5)
  · refine jr_icmp_geF (pc' := 27) (tgt := 65) dX8_told_24 rfl rfl c1 ?_
    refine jr_iload_n (pc' := 28) (i := 2) dX8_told_27 rfl rfl rfl ?_
    refine jr_aload_n (pc' := 29) (i := 0) dX8_told_28 rfl rfl rfl ?_
    refine jr_iload_n (pc' := 30) (i := 3) dX8_told_29 rfl rfl rfl ?_
    refine jr_callV (pc' := 33) (k := 52) (av := [.int a3]) (st := [.int a2]) sX8_spotOf wmX8_223 dX8_told_30 rfl (by decide) rfl (by decide) rfl rfl rfl (Nat.le_of_ble_eq_true rfl) rfl (c_MospotOf (n := n) a3 h (b0 c1) (b1 c1)) (fun v h2 hp => ?_)
    rw [hp.1, hp.2]
    show jG E mX8_told (n + 1) X Post 33 [some (.ref 52), some (.int a1), some (.int a2), some (.int a3), none] [.int (f_MospotOf (h.1 52 0) (h.1 56) a3), .int a2] h
    refine jr_aload_n (pc' := 34) (i := 0) dX8_told_33 rfl rfl rfl ?_
    refine jr_get (pc' := 37) jK8 (k := 52) (j := 8) (v := .int (h.1 52 8)) wfX8_211 dX8_told_34 rfl (by decide) rfl (by decide) rfl ?_
    by_cases c6 : (f_MospotOf (h.1 52 0) (h.1 56) a3) = (h.1 52 8)
    · refine jr_icmp_neF (pc' := 40) (tgt := 56) dX8_told_37 rfl rfl c6 ?_
      refine jr_aload_n (pc' := 41) (i := 0) dX8_told_40 rfl rfl rfl ?_
      refine jr_get (pc' := 44) jK8 (k := 52) (j := 9) (v := .ref 56) wfX8_19 dX8_told_41 rfl (by decide) rfl (by decide) rfl ?_
      refine jr_iconst (pc' := 45) (v := 2) dX8_told_44 rfl (by decide) ?_
      refine jr_bipush (pc' := 47) (v := 6) dX8_told_45 rfl (by decide) ?_
      refine jr_iload_n (pc' := 48) (i := 3) dX8_told_47 rfl rfl rfl ?_
      refine jr_imul (pc' := 49)  dX8_told_48 rfl  ?_
      refine jr_iadd (pc' := 50)  dX8_told_49 rfl  ?_
      refine jr_iconst (pc' := 51) (v := 3) dX8_told_50 rfl (by decide) ?_
      refine jr_iadd (pc' := 52)  dX8_told_51 rfl  ?_
      refine jr_iald (pc' := 53) (v := h.1 56 (((2 + (6 * a3)) + 3).toNatClampNeg)) dX8_told_52 rfl (by decide) rfl (b2 c1 c6) rfl ?_
      refine jr_goto (pc' := 57) dX8_told_53 rfl ?_
      refine jr_ior (pc' := 58)  dX8_told_57 rfl  ?_
      refine jr_istore_n (pc' := 59) (i := 2) (lv' := [some (.ref 52), some (.int a1), some (.int (a2 ||| (h.1 56 (((2 + (6 * a3)) + 3).toNatClampNeg)))), some (.int a3), none]) dX8_told_58 rfl rfl (by decide) rfl ?_
      refine jr_iinc (pc' := 62) (i := 3) (v := (a3 + 1)) (lv' := [some (.ref 52), some (.int a1), some (.int (a2 ||| (h.1 56 (((2 + (6 * a3)) + 3).toNatClampNeg)))), some (.int (a3 + 1)), none]) dX8_told_59 rfl rfl (congrArg (a3 + ·) (by decide)) (by decide) rfl ?_
      refine jr_goto (pc' := 19) dX8_told_62 rfl ?_
      exact jG.weak (lv' := [some (.ref 52), some (.int a1), some (.int (a2 ||| (h.1 56 (((2 + (6 * a3)) + 3).toNatClampNeg)))), some (.int (a3 + 1)), none]) ⟨rfl, rfl, rfl, rfl, trivial⟩ (k5 c1 c6)
    · refine jr_icmp_neT (pc' := 56) dX8_told_37 rfl c6 ?_
      refine jr_iconst (pc' := 57) (v := 0) dX8_told_56 rfl (by decide) ?_
      refine jr_ior (pc' := 58)  dX8_told_57 rfl  ?_
      refine jr_istore_n (pc' := 59) (i := 2) (lv' := [some (.ref 52), some (.int a1), some (.int (a2 ||| 0)), some (.int a3), none]) dX8_told_58 rfl rfl (by decide) rfl ?_
      refine jr_iinc (pc' := 62) (i := 3) (v := (a3 + 1)) (lv' := [some (.ref 52), some (.int a1), some (.int (a2 ||| 0)), some (.int (a3 + 1)), none]) dX8_told_59 rfl rfl (congrArg (a3 + ·) (by decide)) (by decide) rfl ?_
      refine jr_goto (pc' := 19) dX8_told_62 rfl ?_
      exact jG.weak (lv' := [some (.ref 52), some (.int a1), some (.int (a2 ||| 0)), some (.int (a3 + 1)), none]) ⟨rfl, rfl, rfl, rfl, trivial⟩ (k6 c1 c6)

theorem q_Motold_116 {E : jEnv} {n : Nat} {X : State → Prop} {Post : Option Value → HP → Prop} (a1 : Int32) (a2 : Int32) (s0 : Int32) (h : HP)
    (k0 : (a1 = 7) → ((h.1 52 0) = 0) → jG E mX8_told (n + 1) X Post 172 [some (.ref 52), some (.int a1), none, some (.int s0), none] [.int 0] h)
    (b0 : (a1 = 7) → (¬ (h.1 52 0) = 0) → (¬ ((h.1 52 0)) = 0))
    (b1 : (a1 = 7) → (¬ (h.1 52 0) = 0) → (¬ ((h.1 52 0)) = 0))
    (k1 : (a1 = 7) → (¬ (h.1 52 0) = 0) → jG E mX8_told (n + 1) X Post 172 [some (.ref 52), some (.int a1), none, some (.int s0), none] [.int (f_MocodeOf (h.1 52 0) (h.1 52 8))] h)
    (k2 : (¬ a1 = 7) → (a1 = 8) → jG E mX8_told (n + 1) X Post 172 [some (.ref 52), some (.int a1), none, some (.int s0), none] [.int (h.1 52 14)] h)
    (k3 : (¬ a1 = 7) → (¬ a1 = 8) → (a1 = 9) → jG E mX8_told (n + 1) X Post 172 [some (.ref 52), some (.int a1), none, some (.int s0), none] [.int (h.1 52 16)] h)
    (k4 : (¬ a1 = 7) → (¬ a1 = 8) → (¬ a1 = 9) → jG E mX8_told (n + 1) X Post 172 [some (.ref 52), some (.int a1), none, some (.int s0), none] [.int a2] h)
    : jG E mX8_told (n + 1) X Post 116 [some (.ref 52), some (.int a1), some (.int a2), none, none] [.int s0] h := by
  refine jr_istore_n (pc' := 117) (i := 3) (lv' := [some (.ref 52), some (.int a1), some (.int a2), some (.int s0), none]) dX8_told_116 rfl rfl (by decide) rfl ?_
  refine jr_iload_n (pc' := 118) (i := 1) dX8_told_117 rfl rfl rfl ?_
  refine jr_bipush (pc' := 120) (v := 7) dX8_told_118 rfl (by decide) ?_
  by_cases c1 : a1 = 7
  · refine jr_icmp_neF (pc' := 123) (tgt := 145) dX8_told_120 rfl rfl c1 ?_
    refine jr_aload_n (pc' := 124) (i := 0) dX8_told_123 rfl rfl rfl ?_
    refine jr_get (pc' := 127) jK8 (k := 52) (j := 0) (v := .int (h.1 52 0)) wfX8_76 dX8_told_124 rfl (by decide) rfl (by decide) rfl ?_
    by_cases c2 : (h.1 52 0) = 0
    · refine jr_if_neF (pc' := 130) (tgt := 134) dX8_told_127 rfl rfl c2 ?_
      refine jr_iconst (pc' := 131) (v := 0) dX8_told_130 rfl (by decide) ?_
      refine jr_goto (pc' := 172) dX8_told_131 rfl ?_
      exact jG.weak (lv' := [some (.ref 52), some (.int a1), none, some (.int s0), none]) ⟨rfl, rfl, rfl, trivial⟩ (k0 c1 c2)
    · refine jr_if_neT (pc' := 134) dX8_told_127 rfl c2 ?_
      refine jr_aload_n (pc' := 135) (i := 0) dX8_told_134 rfl rfl rfl ?_
      refine jr_aload_n (pc' := 136) (i := 0) dX8_told_135 rfl rfl rfl ?_
      refine jr_get (pc' := 139) jK8 (k := 52) (j := 8) (v := .int (h.1 52 8)) wfX8_211 dX8_told_136 rfl (by decide) rfl (by decide) rfl ?_
      refine jr_callV (pc' := 142) (k := 52) (av := [.int (h.1 52 8)]) (st := []) sX8_codeOf wmX8_246 dX8_told_139 rfl (by decide) rfl (by decide) rfl rfl rfl (Nat.le_of_ble_eq_true rfl) rfl (c_MocodeOf (n := n) (h.1 52 8) h (b0 c1 c2) (b1 c1 c2)) (fun v h2 hp => ?_)
      rw [hp.1, hp.2]
      show jG E mX8_told (n + 1) X Post 142 [some (.ref 52), some (.int a1), some (.int a2), some (.int s0), none] [.int (f_MocodeOf (h.1 52 0) (h.1 52 8))] h
      refine jr_goto (pc' := 172) dX8_told_142 rfl ?_
      exact jG.weak (lv' := [some (.ref 52), some (.int a1), none, some (.int s0), none]) ⟨rfl, rfl, rfl, trivial⟩ (k1 c1 c2)
  · refine jr_icmp_neT (pc' := 145) dX8_told_120 rfl c1 ?_
    refine jr_iload_n (pc' := 146) (i := 1) dX8_told_145 rfl rfl rfl ?_
    refine jr_bipush (pc' := 148) (v := 8) dX8_told_146 rfl (by decide) ?_
    by_cases c3 : a1 = 8
    · refine jr_icmp_neF (pc' := 151) (tgt := 158) dX8_told_148 rfl rfl c3 ?_
      refine jr_aload_n (pc' := 152) (i := 0) dX8_told_151 rfl rfl rfl ?_
      refine jr_get (pc' := 155) jK8 (k := 52) (j := 14) (v := .int (h.1 52 14)) wfX8_214 dX8_told_152 rfl (by decide) rfl (by decide) rfl ?_
      refine jr_goto (pc' := 172) dX8_told_155 rfl ?_
      exact jG.weak (lv' := [some (.ref 52), some (.int a1), none, some (.int s0), none]) ⟨rfl, rfl, rfl, trivial⟩ (k2 c1 c3)
    · refine jr_icmp_neT (pc' := 158) dX8_told_148 rfl c3 ?_
      refine jr_iload_n (pc' := 159) (i := 1) dX8_told_158 rfl rfl rfl ?_
      refine jr_bipush (pc' := 161) (v := 9) dX8_told_159 rfl (by decide) ?_
      by_cases c4 : a1 = 9
      · refine jr_icmp_neF (pc' := 164) (tgt := 171) dX8_told_161 rfl rfl c4 ?_
        refine jr_aload_n (pc' := 165) (i := 0) dX8_told_164 rfl rfl rfl ?_
        refine jr_get (pc' := 168) jK8 (k := 52) (j := 16) (v := .int (h.1 52 16)) wfX8_217 dX8_told_165 rfl (by decide) rfl (by decide) rfl ?_
        refine jr_goto (pc' := 172) dX8_told_168 rfl ?_
        exact jG.weak (lv' := [some (.ref 52), some (.int a1), none, some (.int s0), none]) ⟨rfl, rfl, rfl, trivial⟩ (k3 c1 c3 c4)
      · refine jr_icmp_neT (pc' := 171) dX8_told_161 rfl c4 ?_
        refine jr_iload_n (pc' := 172) (i := 2) dX8_told_171 rfl rfl rfl ?_
        exact jG.weak (lv' := [some (.ref 52), some (.int a1), none, some (.int s0), none]) ⟨rfl, rfl, rfl, trivial⟩ (k4 c1 c3 c4)

theorem q_Motold_172 {E : jEnv} {n : Nat} {X : State → Prop} {Post : Option Value → HP → Prop} (a1 : Int32) (a3 : Int32) (s0 : Int32) (h : HP)
    (k0 : ((5 : Int32) ≤ a1) → (a1 = 5) → Post (some (.int (h.1 52 18))) h)
    (k1 : ((5 : Int32) ≤ a1) → (¬ a1 = 5) → (a1 = 6) → Post (some (.int (h.1 56 0))) h)
    (k2 : ((5 : Int32) ≤ a1) → (¬ a1 = 5) → (¬ a1 = 6) → Post (some (.int s0)) h)
    (k3 : (¬ (5 : Int32) ≤ a1) → Post (some (.int a3)) h)
    : jG E mX8_told (n + 1) X Post 172 [some (.ref 52), some (.int a1), none, some (.int a3), none] [.int s0] h := by
  refine jr_istore (pc' := 174) (i := 4) (lv' := [some (.ref 52), some (.int a1), none, some (.int a3), some (.int s0)]) dX8_told_172 rfl (by decide) rfl ?_
  refine jr_iload_n (pc' := 175) (i := 1) dX8_told_174 rfl rfl rfl ?_
  refine jr_iconst (pc' := 176) (v := 5) dX8_told_175 rfl (by decide) ?_
  by_cases c1 : (5 : Int32) ≤ a1
  · refine jr_icmp_geT (pc' := 183) dX8_told_176 rfl c1 ?_
    refine jr_iload_n (pc' := 184) (i := 1) dX8_told_183 rfl rfl rfl ?_
    refine jr_iconst (pc' := 185) (v := 5) dX8_told_184 rfl (by decide) ?_
    by_cases c2 : a1 = 5
    · refine jr_icmp_neF (pc' := 188) (tgt := 195) dX8_told_185 rfl rfl c2 ?_
      refine jr_aload_n (pc' := 189) (i := 0) dX8_told_188 rfl rfl rfl ?_
      refine jr_get (pc' := 192) jK8 (k := 52) (j := 18) (v := .int (h.1 52 18)) wfX8_95 dX8_told_189 rfl (by decide) rfl (by decide) rfl ?_
      refine jr_goto (pc' := 212) dX8_told_192 rfl ?_
      exact jr_iret dX8_told_212 rfl rfl (k0 c1 c2)
    · refine jr_icmp_neT (pc' := 195) dX8_told_185 rfl c2 ?_
      refine jr_iload_n (pc' := 196) (i := 1) dX8_told_195 rfl rfl rfl ?_
      refine jr_bipush (pc' := 198) (v := 6) dX8_told_196 rfl (by decide) ?_
      by_cases c3 : a1 = 6
      · refine jr_icmp_neF (pc' := 201) (tgt := 210) dX8_told_198 rfl rfl c3 ?_
        refine jr_aload_n (pc' := 202) (i := 0) dX8_told_201 rfl rfl rfl ?_
        refine jr_get (pc' := 205) jK8 (k := 52) (j := 9) (v := .ref 56) wfX8_19 dX8_told_202 rfl (by decide) rfl (by decide) rfl ?_
        refine jr_iconst (pc' := 206) (v := 0) dX8_told_205 rfl (by decide) ?_
        refine jr_iald (pc' := 207) (v := h.1 56 0) dX8_told_206 rfl (by decide) rfl (jvin (by decide)) ((congrArg (h.1 56) (by decide : (0 : Int32).toNatClampNeg = 0)).trans rfl) ?_
        refine jr_goto (pc' := 212) dX8_told_207 rfl ?_
        exact jr_iret dX8_told_212 rfl rfl (k1 c1 c2 c3)
      · refine jr_icmp_neT (pc' := 210) dX8_told_198 rfl c3 ?_
        refine jr_iload (pc' := 212) (i := 4) dX8_told_210 rfl rfl ?_
        exact jr_iret dX8_told_212 rfl rfl (k2 c1 c2 c3)
  · refine jr_icmp_geF (pc' := 179) (tgt := 183) dX8_told_176 rfl rfl c1 ?_
    refine jr_iload_n (pc' := 180) (i := 3) dX8_told_179 rfl rfl rfl ?_
    refine jr_goto (pc' := 212) dX8_told_180 rfl ?_
    exact jr_iret dX8_told_212 rfl rfl (k3 c1)

theorem q_Mohour_0 {E : jEnv} {n : Nat} {X : State → Prop} {Post : Option Value → HP → Prop} (x : Int32) (h : HP)
    (k0 : ((f_Moin x.toInt64 1 99) = 0) → Post (some (.int (-1000000002))) h)
    (k1 : (¬ (f_Moin x.toInt64 1 99) = 0) → ((h.1 52 0) = 0) → Post (some (.int (-1000000003))) h)
    (k2 : (¬ (f_Moin x.toInt64 1 99) = 0) → (¬ (h.1 52 0) = 0) → jG E mX8_hour (n + 1) X Post 28 [some (.ref 52), some (.int x), some (.int 0)] [] h)
    : jG E mX8_hour (n + 1) X Post 0 [some (.ref 52), some (.int x), none] [] h := by
  refine jr_iload_n (pc' := 1) (i := 1) dX8_hour_0 rfl rfl rfl ?_
  refine jr_i2l (pc' := 2)  dX8_hour_1 rfl  ?_
  refine jr_lconst (pc' := 3) (v := 1) dX8_hour_2 rfl (by decide) ?_
  refine jr_ldc2 (pc' := 6) (v := 99) dX8_hour_3 rfl wcX8_250 ?_
  refine jr_callS (pc' := 9) (av := [.long x.toInt64, .long 1, .long 99]) (st := []) sX8_in wmX8_79 dX8_hour_6 rfl rfl (Nat.le_of_ble_eq_true rfl) rfl (c_Moin (n := n) x.toInt64 1 99 h ) (fun v h2 hp => ?_)
  rw [hp.1, hp.2]
  show jG E mX8_hour (n + 1) X Post 9 [some (.ref 52), some (.int x), none] [.int (f_Moin x.toInt64 1 99)] h
  by_cases c1 : (f_Moin x.toInt64 1 99) = 0
  · refine jr_if_neF (pc' := 12) (tgt := 15) dX8_hour_9 rfl rfl c1 ?_
    refine jr_ldc (pc' := 14) (v := (-1000000002)) dX8_hour_12 rfl wcX8_94 ?_
    exact jr_iret dX8_hour_14 rfl rfl (k0 c1)
  · refine jr_if_neT (pc' := 15) dX8_hour_9 rfl c1 ?_
    refine jr_aload_n (pc' := 16) (i := 0) dX8_hour_15 rfl rfl rfl ?_
    refine jr_get (pc' := 19) jK8 (k := 52) (j := 0) (v := .int (h.1 52 0)) wfX8_76 dX8_hour_16 rfl (by decide) rfl (by decide) rfl ?_
    by_cases c2 : (h.1 52 0) = 0
    · refine jr_if_neF (pc' := 22) (tgt := 26) dX8_hour_19 rfl rfl c2 ?_
      refine jr_ldcw (pc' := 25) (v := (-1000000003)) dX8_hour_22 rfl wcX8_259 ?_
      exact jr_iret dX8_hour_25 rfl rfl (k1 c1 c2)
    · refine jr_if_neT (pc' := 26) dX8_hour_19 rfl c2 ?_
      refine jr_iconst (pc' := 27) (v := 0) dX8_hour_26 rfl (by decide) ?_
      refine jr_istore_n (pc' := 28) (i := 2) (lv' := [some (.ref 52), some (.int x), some (.int 0)]) dX8_hour_27 rfl rfl (by decide) rfl ?_
      exact jG.weak (lv' := [some (.ref 52), some (.int x), some (.int 0)]) ⟨rfl, rfl, rfl, trivial⟩ (k2 c1 c2)

theorem q_Mohour_28 {E : jEnv} {n : Nat} {X : State → Prop} {Post : Option Value → HP → Prop} (a1 : Int32) (a2 : Int32) (h : HP)
    (k0 : (a1 ≤ a2) → Post (some (.int (h.1 56 0))) h)
    (k1 : (¬ a1 ≤ a2) → jCall E mX8_goesBy n [.ref 52] h (fun v h2 => jG E mX8_hour (n + 1) X Post 37 [some (.ref 52), some (.int a1), some (.int a2)] (v.toList ++ []) h2))
    : jG E mX8_hour (n + 1) X Post 28 [some (.ref 52), some (.int a1), some (.int a2)] [] h := by
  refine jr_iload_n (pc' := 29) (i := 2) dX8_hour_28 rfl rfl rfl ?_
  refine jr_iload_n (pc' := 30) (i := 1) dX8_hour_29 rfl rfl rfl ?_
  by_cases c1 : a1 ≤ a2
  · refine jr_icmp_geT (pc' := 43) dX8_hour_30 rfl c1 ?_
    refine jr_aload_n (pc' := 44) (i := 0) dX8_hour_43 rfl rfl rfl ?_
    refine jr_get (pc' := 47) jK8 (k := 52) (j := 9) (v := .ref 56) wfX8_19 dX8_hour_44 rfl (by decide) rfl (by decide) rfl ?_
    refine jr_iconst (pc' := 48) (v := 0) dX8_hour_47 rfl (by decide) ?_
    refine jr_iald (pc' := 49) (v := h.1 56 0) dX8_hour_48 rfl (by decide) rfl (jvin (by decide)) ((congrArg (h.1 56) (by decide : (0 : Int32).toNatClampNeg = 0)).trans rfl) ?_
    exact jr_iret dX8_hour_49 rfl rfl (k0 c1)
  · refine jr_icmp_geF (pc' := 33) (tgt := 43) dX8_hour_30 rfl rfl c1 ?_
    refine jr_aload_n (pc' := 34) (i := 0) dX8_hour_33 rfl rfl rfl ?_
    obtain ⟨P1, hC1, hK1⟩ := k1 c1
    exact jr_callV (pc' := 37) (k := 52) (av := []) (st := []) sX8_goesBy wmX8_260 dX8_hour_34 rfl (by decide) rfl (by decide) rfl rfl rfl (Nat.le_of_ble_eq_true rfl) rfl hC1 (fun v h2 hp => jG.weak (lv' := [some (.ref 52), some (.int a1), some (.int a2)]) ⟨rfl, rfl, rfl, trivial⟩ (hK1 v h2 hp))

theorem q_Mohour_37 {E : jEnv} {n : Nat} {X : State → Prop} {Post : Option Value → HP → Prop} (a1 : Int32) (a2 : Int32) (h : HP)
    (k0 : jG E mX8_hour (n + 1) X Post 28 [some (.ref 52), some (.int a1), some (.int (a2 + 1))] [] h)
    : jG E mX8_hour (n + 1) X Post 37 [some (.ref 52), some (.int a1), some (.int a2)] [] h := by
  refine jr_iinc (pc' := 40) (i := 2) (v := (a2 + 1)) (lv' := [some (.ref 52), some (.int a1), some (.int (a2 + 1))]) dX8_hour_37 rfl rfl (congrArg (a2 + ·) (by decide)) (by decide) rfl ?_
  refine jr_goto (pc' := 28) dX8_hour_40 rfl ?_
  exact jG.weak (lv' := [some (.ref 52), some (.int a1), some (.int (a2 + 1))]) ⟨rfl, rfl, rfl, trivial⟩ (k0)

theorem q_MogoesBy_0 {E : jEnv} {n : Nat} {X : State → Prop} {Post : Option Value → HP → Prop}  (h : HP)
    (k0 : jG E mX8_goesBy (n + 4) X Post 2 [some (.ref 52), some (.int 0), none, none, none] [] h)
    : jG E mX8_goesBy (n + 4) X Post 0 [some (.ref 52), none, none, none, none] [] h := by
  refine jr_iconst (pc' := 1) (v := 0) dX8_goesBy_0 rfl (by decide) ?_
  refine jr_istore_n (pc' := 2) (i := 1) (lv' := [some (.ref 52), some (.int 0), none, none, none]) dX8_goesBy_1 rfl rfl (by decide) rfl ?_
  exact jG.weak (lv' := [some (.ref 52), some (.int 0), none, none, none]) ⟨rfl, rfl, trivial⟩ (k0)

set_option maxRecDepth 4000 in
theorem q_MogoesBy_2 {E : jEnv} {n : Nat} {X : State → Prop} {Post : Option Value → HP → Prop} (a1 : Int32) (h : HP)
    (k0 : ((h.1 52 5) ≤ a1) → jCall E mX8_hears (n + 3) [.ref 52] (jPI h 56 0 ((h.1 56 0) + 1)) (fun v h2 => jG E mX8_goesBy (n + 4) X Post 126 [some (.ref 52), none, none, none, none] (v.toList ++ []) h2))
    (b0 : (¬ (h.1 52 5) ≤ a1) → vp_in ((2 + (6 * a1)) + 5) 62)
    (b1 : (¬ (h.1 52 5) ≤ a1) → (vp_in ((2 + (6 * a1)) + 1) 62))
    (b2 : (¬ (h.1 52 5) ≤ a1) → (vp_in (2 + (6 * a1)) 62))
    (b3 : (¬ (h.1 52 5) ≤ a1) → vp_in ((2 + (6 * a1)) + 2) 62)
    (b4 : (¬ (h.1 52 5) ≤ a1) → (¬ (((h.1 52 0))) = 0))
    (b5 : (¬ (h.1 52 5) ≤ a1) → (((h.1 56 (((2 + (6 * a1)) + 5).toNatClampNeg)) = 2) → ¬ (((h.1 52 0))) = 0))
    (b6 : (¬ (h.1 52 5) ≤ a1) → ((¬ (h.1 56 (((2 + (6 * a1)) + 5).toNatClampNeg)) = 2) → ((h.1 56 (((2 + (6 * a1)) + 5).toNatClampNeg)) = 4) → ¬ (((h.1 52 0))) = 0))
    (b7 : (¬ (h.1 52 5) ≤ a1) → ((¬ (h.1 56 (((2 + (6 * a1)) + 5).toNatClampNeg)) = 2) → (¬ (h.1 56 (((2 + (6 * a1)) + 5).toNatClampNeg)) = 4) → ¬ (((h.1 52 0))) = 0))
    (b8 : (¬ (h.1 52 5) ≤ a1) → ((¬ (h.1 56 (((2 + (6 * a1)) + 5).toNatClampNeg)) = 0) → (¬ (f_Moled ((h.1 52 0)) ((h.1 52 1)) (f_MospotOf (h.1 52 0) (h.1 56) a1) (h.1 56 (((2 + (6 * a1)) + 5).toNatClampNeg))) = (-1)) → (vp_in (f_Moled ((h.1 52 0)) ((h.1 52 1)) (f_MospotOf (h.1 52 0) (h.1 56) a1) (h.1 56 (((2 + (6 * a1)) + 5).toNatClampNeg))) 36)))
    (b9 : (¬ (h.1 52 5) ≤ a1) → ((¬ (h.1 56 (((2 + (6 * a1)) + 5).toNatClampNeg)) = 0) → (¬ (f_Moled ((h.1 52 0)) ((h.1 52 1)) (f_MospotOf (h.1 52 0) (h.1 56) a1) (h.1 56 (((2 + (6 * a1)) + 5).toNatClampNeg))) = (-1)) → (¬ (((h.1 52 4))) = 0)))
    (b10 : (¬ (h.1 52 5) ≤ a1) → ((¬ (h.1 56 (((2 + (6 * a1)) + 5).toNatClampNeg)) = 0) → (¬ (f_Moled ((h.1 52 0)) ((h.1 52 1)) (f_MospotOf (h.1 52 0) (h.1 56) a1) (h.1 56 (((2 + (6 * a1)) + 5).toNatClampNeg))) = (-1)) → (vp_in (((h.1 56 0) + 1) - ((h.1 56 0) + 1) / (((h.1 52 4))) * (((h.1 52 4)))) 6)))
    (b11 : (¬ (h.1 52 5) ≤ a1) → ((¬ (h.1 56 (((2 + (6 * a1)) + 5).toNatClampNeg)) = 0) → (¬ (f_Moled ((h.1 52 0)) ((h.1 52 1)) (f_MospotOf (h.1 52 0) (h.1 56) a1) (h.1 56 (((2 + (6 * a1)) + 5).toNatClampNeg))) = (-1)) → (vp_in (26 + (f_Moled ((h.1 52 0)) ((h.1 52 1)) (f_MospotOf (h.1 52 0) (h.1 56) a1) (h.1 56 (((2 + (6 * a1)) + 5).toNatClampNeg)))) 62)))
    (k1 : (¬ (h.1 52 5) ≤ a1) → ((f_MomayGo (h.1 52 0) (h.1 52 1) (h.1 52 4) (h.1 53) (h.1 54) (h.1 56) (f_MospotOf (h.1 52 0) (h.1 56) a1) (h.1 56 (((2 + (6 * a1)) + 5).toNatClampNeg)) (h.1 56 (((2 + (6 * a1)) + 2).toNatClampNeg)) ((h.1 56 0) + 1)) = 0) → jG E mX8_goesBy (n + 4) X Post 2 [some (.ref 52), some (.int (a1 + 1)), none, none, none] [] h)
    (b12 : (¬ (h.1 52 5) ≤ a1) → (¬ (f_MomayGo (h.1 52 0) (h.1 52 1) (h.1 52 4) (h.1 53) (h.1 54) (h.1 56) (f_MospotOf (h.1 52 0) (h.1 56) a1) (h.1 56 (((2 + (6 * a1)) + 5).toNatClampNeg)) (h.1 56 (((2 + (6 * a1)) + 2).toNatClampNeg)) ((h.1 56 0) + 1)) = 0) → (¬ ((h.1 52 0)) = 0))
    (b13 : (¬ (h.1 52 5) ≤ a1) → (¬ (f_MomayGo (h.1 52 0) (h.1 52 1) (h.1 52 4) (h.1 53) (h.1 54) (h.1 56) (f_MospotOf (h.1 52 0) (h.1 56) a1) (h.1 56 (((2 + (6 * a1)) + 5).toNatClampNeg)) (h.1 56 (((2 + (6 * a1)) + 2).toNatClampNeg)) ((h.1 56 0) + 1)) = 0) → (((h.1 56 (((2 + (6 * a1)) + 5).toNatClampNeg)) = 2) → ¬ ((h.1 52 0)) = 0))
    (b14 : (¬ (h.1 52 5) ≤ a1) → (¬ (f_MomayGo (h.1 52 0) (h.1 52 1) (h.1 52 4) (h.1 53) (h.1 54) (h.1 56) (f_MospotOf (h.1 52 0) (h.1 56) a1) (h.1 56 (((2 + (6 * a1)) + 5).toNatClampNeg)) (h.1 56 (((2 + (6 * a1)) + 2).toNatClampNeg)) ((h.1 56 0) + 1)) = 0) → ((¬ (h.1 56 (((2 + (6 * a1)) + 5).toNatClampNeg)) = 2) → ((h.1 56 (((2 + (6 * a1)) + 5).toNatClampNeg)) = 4) → ¬ ((h.1 52 0)) = 0))
    (b15 : (¬ (h.1 52 5) ≤ a1) → (¬ (f_MomayGo (h.1 52 0) (h.1 52 1) (h.1 52 4) (h.1 53) (h.1 54) (h.1 56) (f_MospotOf (h.1 52 0) (h.1 56) a1) (h.1 56 (((2 + (6 * a1)) + 5).toNatClampNeg)) (h.1 56 (((2 + (6 * a1)) + 2).toNatClampNeg)) ((h.1 56 0) + 1)) = 0) → ((¬ (h.1 56 (((2 + (6 * a1)) + 5).toNatClampNeg)) = 2) → (¬ (h.1 56 (((2 + (6 * a1)) + 5).toNatClampNeg)) = 4) → ¬ ((h.1 52 0)) = 0))
    (b16 : (¬ (h.1 52 5) ≤ a1) → (¬ (f_MomayGo (h.1 52 0) (h.1 52 1) (h.1 52 4) (h.1 53) (h.1 54) (h.1 56) (f_MospotOf (h.1 52 0) (h.1 56) a1) (h.1 56 (((2 + (6 * a1)) + 5).toNatClampNeg)) (h.1 56 (((2 + (6 * a1)) + 2).toNatClampNeg)) ((h.1 56 0) + 1)) = 0) → ¬ (h.1 52 0) = 0)
    (b17 : (¬ (h.1 52 5) ≤ a1) → (¬ (f_MomayGo (h.1 52 0) (h.1 52 1) (h.1 52 4) (h.1 53) (h.1 54) (h.1 56) (f_MospotOf (h.1 52 0) (h.1 56) a1) (h.1 56 (((2 + (6 * a1)) + 5).toNatClampNeg)) (h.1 56 (((2 + (6 * a1)) + 2).toNatClampNeg)) ((h.1 56 0) + 1)) = 0) → vp_in (2 + (6 * a1)) 62)
    (b18 : (¬ (h.1 52 5) ≤ a1) → (¬ (f_MomayGo (h.1 52 0) (h.1 52 1) (h.1 52 4) (h.1 53) (h.1 54) (h.1 56) (f_MospotOf (h.1 52 0) (h.1 56) a1) (h.1 56 (((2 + (6 * a1)) + 5).toNatClampNeg)) (h.1 56 (((2 + (6 * a1)) + 2).toNatClampNeg)) ((h.1 56 0) + 1)) = 0) → ¬ (h.1 52 0) = 0)
    (b19 : (¬ (h.1 52 5) ≤ a1) → (¬ (f_MomayGo (h.1 52 0) (h.1 52 1) (h.1 52 4) (h.1 53) (h.1 54) (h.1 56) (f_MospotOf (h.1 52 0) (h.1 56) a1) (h.1 56 (((2 + (6 * a1)) + 5).toNatClampNeg)) (h.1 56 (((2 + (6 * a1)) + 2).toNatClampNeg)) ((h.1 56 0) + 1)) = 0) → vp_in ((2 + (6 * a1)) + 1) 62)
    (k2 : (¬ (h.1 52 5) ≤ a1) → (¬ (f_MomayGo (h.1 52 0) (h.1 52 1) (h.1 52 4) (h.1 53) (h.1 54) (h.1 56) (f_MospotOf (h.1 52 0) (h.1 56) a1) (h.1 56 (((2 + (6 * a1)) + 5).toNatClampNeg)) (h.1 56 (((2 + (6 * a1)) + 2).toNatClampNeg)) ((h.1 56 0) + 1)) = 0) → jG E mX8_goesBy (n + 4) X Post 2 [some (.ref 52), some (.int (a1 + 1)), none, none, none] [] (jPI (jPI h 56 ((2 + (6 * a1)).toNatClampNeg) ((f_Moled (h.1 52 0) (h.1 52 1) (f_MospotOf (h.1 52 0) (h.1 56) a1) (h.1 56 (((2 + (6 * a1)) + 5).toNatClampNeg))) - (f_Moled (h.1 52 0) (h.1 52 1) (f_MospotOf (h.1 52 0) (h.1 56) a1) (h.1 56 (((2 + (6 * a1)) + 5).toNatClampNeg))) / (h.1 52 0) * (h.1 52 0))) 56 (((2 + (6 * a1)) + 1).toNatClampNeg) ((f_Moled (h.1 52 0) (h.1 52 1) (f_MospotOf (h.1 52 0) (h.1 56) a1) (h.1 56 (((2 + (6 * a1)) + 5).toNatClampNeg))) / (h.1 52 0))))
    : jG E mX8_goesBy (n + 4) X Post 2 [some (.ref 52), some (.int a1), none, none, none] [] h := by
  refine jr_iload_n (pc' := 3) (i := 1) dX8_goesBy_2 rfl rfl rfl ?_
  refine jr_aload_n (pc' := 4) (i := 0) dX8_goesBy_3 rfl rfl rfl ?_
  refine jr_get (pc' := 7) jK8 (k := 52) (j := 5) (v := .int (h.1 52 5)) wfX8_86 dX8_goesBy_4 rfl (by decide) rfl (by decide) rfl ?_
  by_cases c1 : (h.1 52 5) ≤ a1
  · refine jr_icmp_geT (pc' := 112) dX8_goesBy_7 rfl c1 ?_
    refine jr_aload_n (pc' := 113) (i := 0) dX8_goesBy_112 rfl rfl rfl ?_
    refine jr_get (pc' := 116) jK8 (k := 52) (j := 9) (v := .ref 56) wfX8_19 dX8_goesBy_113 rfl (by decide) rfl (by decide) rfl ?_
    refine jr_iconst (pc' := 117) (v := 0) dX8_goesBy_116 rfl (by decide) ?_
    refine jr_dup2 (pc' := 118)  dX8_goesBy_117 rfl rfl rfl ?_
    refine jr_iald (pc' := 119) (v := h.1 56 0) dX8_goesBy_118 rfl (by decide) rfl (jvin (by decide)) ((congrArg (h.1 56) (by decide : (0 : Int32).toNatClampNeg = 0)).trans rfl) ?_
    refine jr_iconst (pc' := 120) (v := 1) dX8_goesBy_119 rfl (by decide) ?_
    refine jr_iadd (pc' := 121)  dX8_goesBy_120 rfl  ?_
    refine jr_iast (pc' := 122) (j := 0) dX8_goesBy_121 rfl (by decide) rfl (jvin (by decide)) (by decide) ?_
    refine jr_aload_n (pc' := 123) (i := 0) dX8_goesBy_122 rfl rfl rfl ?_
    obtain ⟨P1, hC1, hK1⟩ := k0 c1
    exact jr_callV (pc' := 126) (k := 52) (av := []) (st := []) sX8_hears wmX8_220 dX8_goesBy_123 rfl (by decide) rfl (by decide) rfl rfl rfl (Nat.le_of_ble_eq_true rfl) rfl hC1 (fun v h2 hp => jG.weak (lv' := [some (.ref 52), none, none, none, none]) ⟨rfl, trivial⟩ (hK1 v h2 hp))
  · refine jr_icmp_geF (pc' := 10) (tgt := 112) dX8_goesBy_7 rfl rfl c1 ?_
    refine jr_aload_n (pc' := 11) (i := 0) dX8_goesBy_10 rfl rfl rfl ?_
    refine jr_get (pc' := 14) jK8 (k := 52) (j := 9) (v := .ref 56) wfX8_19 dX8_goesBy_11 rfl (by decide) rfl (by decide) rfl ?_
    refine jr_iconst (pc' := 15) (v := 2) dX8_goesBy_14 rfl (by decide) ?_
    refine jr_bipush (pc' := 17) (v := 6) dX8_goesBy_15 rfl (by decide) ?_
    refine jr_iload_n (pc' := 18) (i := 1) dX8_goesBy_17 rfl rfl rfl ?_
    refine jr_imul (pc' := 19)  dX8_goesBy_18 rfl  ?_
    refine jr_iadd (pc' := 20)  dX8_goesBy_19 rfl  ?_
    refine jr_iconst (pc' := 21) (v := 5) dX8_goesBy_20 rfl (by decide) ?_
    refine jr_iadd (pc' := 22)  dX8_goesBy_21 rfl  ?_
    refine jr_iald (pc' := 23) (v := h.1 56 (((2 + (6 * a1)) + 5).toNatClampNeg)) dX8_goesBy_22 rfl (by decide) rfl (b0 c1) rfl ?_
    refine jr_istore_n (pc' := 24) (i := 2) (lv' := [some (.ref 52), some (.int a1), some (.int (h.1 56 (((2 + (6 * a1)) + 5).toNatClampNeg))), none, none]) dX8_goesBy_23 rfl rfl (by decide) rfl ?_
    refine jr_aload_n (pc' := 25) (i := 0) dX8_goesBy_24 rfl rfl rfl ?_
    refine jr_iload_n (pc' := 26) (i := 1) dX8_goesBy_25 rfl rfl rfl ?_
    refine jr_callV (pc' := 29) (k := 52) (av := [.int a1]) (st := []) sX8_spotOf wmX8_223 dX8_goesBy_26 rfl (by decide) rfl (by decide) rfl rfl rfl (Nat.le_of_ble_eq_true rfl) rfl (c_MospotOf (n := n + 3) a1 h (b1 c1) (b2 c1)) (fun v h2 hp => ?_)
    rw [hp.1, hp.2]
    show jG E mX8_goesBy (n + 4) X Post 29 [some (.ref 52), some (.int a1), some (.int (h.1 56 (((2 + (6 * a1)) + 5).toNatClampNeg))), none, none] [.int (f_MospotOf (h.1 52 0) (h.1 56) a1)] h
    refine jr_istore_n (pc' := 30) (i := 3) (lv' := [some (.ref 52), some (.int a1), some (.int (h.1 56 (((2 + (6 * a1)) + 5).toNatClampNeg))), some (.int (f_MospotOf (h.1 52 0) (h.1 56) a1)), none]) dX8_goesBy_29 rfl rfl (by decide) rfl ?_
    refine jr_aload_n (pc' := 31) (i := 0) dX8_goesBy_30 rfl rfl rfl ?_
    refine jr_iload_n (pc' := 32) (i := 3) dX8_goesBy_31 rfl rfl rfl ?_
    refine jr_iload_n (pc' := 33) (i := 2) dX8_goesBy_32 rfl rfl rfl ?_
    refine jr_aload_n (pc' := 34) (i := 0) dX8_goesBy_33 rfl rfl rfl ?_
    refine jr_get (pc' := 37) jK8 (k := 52) (j := 9) (v := .ref 56) wfX8_19 dX8_goesBy_34 rfl (by decide) rfl (by decide) rfl ?_
    refine jr_iconst (pc' := 38) (v := 2) dX8_goesBy_37 rfl (by decide) ?_
    refine jr_bipush (pc' := 40) (v := 6) dX8_goesBy_38 rfl (by decide) ?_
    refine jr_iload_n (pc' := 41) (i := 1) dX8_goesBy_40 rfl rfl rfl ?_
    refine jr_imul (pc' := 42)  dX8_goesBy_41 rfl  ?_
    refine jr_iadd (pc' := 43)  dX8_goesBy_42 rfl  ?_
    refine jr_iconst (pc' := 44) (v := 2) dX8_goesBy_43 rfl (by decide) ?_
    refine jr_iadd (pc' := 45)  dX8_goesBy_44 rfl  ?_
    refine jr_iald (pc' := 46) (v := h.1 56 (((2 + (6 * a1)) + 2).toNatClampNeg)) dX8_goesBy_45 rfl (by decide) rfl (b3 c1) rfl ?_
    refine jr_aload_n (pc' := 47) (i := 0) dX8_goesBy_46 rfl rfl rfl ?_
    refine jr_get (pc' := 50) jK8 (k := 52) (j := 9) (v := .ref 56) wfX8_19 dX8_goesBy_47 rfl (by decide) rfl (by decide) rfl ?_
    refine jr_iconst (pc' := 51) (v := 0) dX8_goesBy_50 rfl (by decide) ?_
    refine jr_iald (pc' := 52) (v := h.1 56 0) dX8_goesBy_51 rfl (by decide) rfl (jvin (by decide)) ((congrArg (h.1 56) (by decide : (0 : Int32).toNatClampNeg = 0)).trans rfl) ?_
    refine jr_iconst (pc' := 53) (v := 1) dX8_goesBy_52 rfl (by decide) ?_
    refine jr_iadd (pc' := 54)  dX8_goesBy_53 rfl  ?_
    refine jr_callV (pc' := 57) (k := 52) (av := [.int (f_MospotOf (h.1 52 0) (h.1 56) a1), .int (h.1 56 (((2 + (6 * a1)) + 5).toNatClampNeg)), .int (h.1 56 (((2 + (6 * a1)) + 2).toNatClampNeg)), .int ((h.1 56 0) + 1)]) (st := []) sX8_mayGo wmX8_237 dX8_goesBy_54 rfl (by decide) rfl (by decide) rfl rfl rfl (Nat.le_of_ble_eq_true rfl) rfl (c_MomayGo (n := n) (f_MospotOf (h.1 52 0) (h.1 56) a1) (h.1 56 (((2 + (6 * a1)) + 5).toNatClampNeg)) (h.1 56 (((2 + (6 * a1)) + 2).toNatClampNeg)) ((h.1 56 0) + 1) h (b4 c1) (b5 c1) (b6 c1) (b7 c1) (b8 c1) (b9 c1) (b10 c1) (b11 c1)) (fun v h2 hp => ?_)
    rw [hp.1, hp.2]
    show jG E mX8_goesBy (n + 4) X Post 57 [some (.ref 52), some (.int a1), some (.int (h.1 56 (((2 + (6 * a1)) + 5).toNatClampNeg))), some (.int (f_MospotOf (h.1 52 0) (h.1 56) a1)), none] [.int (f_MomayGo (h.1 52 0) (h.1 52 1) (h.1 52 4) (h.1 53) (h.1 54) (h.1 56) (f_MospotOf (h.1 52 0) (h.1 56) a1) (h.1 56 (((2 + (6 * a1)) + 5).toNatClampNeg)) (h.1 56 (((2 + (6 * a1)) + 2).toNatClampNeg)) ((h.1 56 0) + 1))] h
    by_cases c2 : (f_MomayGo (h.1 52 0) (h.1 52 1) (h.1 52 4) (h.1 53) (h.1 54) (h.1 56) (f_MospotOf (h.1 52 0) (h.1 56) a1) (h.1 56 (((2 + (6 * a1)) + 5).toNatClampNeg)) (h.1 56 (((2 + (6 * a1)) + 2).toNatClampNeg)) ((h.1 56 0) + 1)) = 0
    · refine jr_if_eqT (pc' := 106) dX8_goesBy_57 rfl c2 ?_
      refine jr_iinc (pc' := 109) (i := 1) (v := (a1 + 1)) (lv' := [some (.ref 52), some (.int (a1 + 1)), some (.int (h.1 56 (((2 + (6 * a1)) + 5).toNatClampNeg))), some (.int (f_MospotOf (h.1 52 0) (h.1 56) a1)), none]) dX8_goesBy_106 rfl rfl (congrArg (a1 + ·) (by decide)) (by decide) rfl ?_
      refine jr_goto (pc' := 2) dX8_goesBy_109 rfl ?_
      exact jG.weak (lv' := [some (.ref 52), some (.int (a1 + 1)), none, none, none]) ⟨rfl, rfl, trivial⟩ (k1 c1 c2)
    · refine jr_if_eqF (pc' := 60) (tgt := 106) dX8_goesBy_57 rfl rfl c2 ?_
      refine jr_aload_n (pc' := 61) (i := 0) dX8_goesBy_60 rfl rfl rfl ?_
      refine jr_iload_n (pc' := 62) (i := 3) dX8_goesBy_61 rfl rfl rfl ?_
      refine jr_iload_n (pc' := 63) (i := 2) dX8_goesBy_62 rfl rfl rfl ?_
      refine jr_callV (pc' := 66) (k := 52) (av := [.int (f_MospotOf (h.1 52 0) (h.1 56) a1), .int (h.1 56 (((2 + (6 * a1)) + 5).toNatClampNeg))]) (st := []) sX8_led wmX8_231 dX8_goesBy_63 rfl (by decide) rfl (by decide) rfl rfl rfl (Nat.le_of_ble_eq_true rfl) rfl (c_Moled (n := n + 1) (f_MospotOf (h.1 52 0) (h.1 56) a1) (h.1 56 (((2 + (6 * a1)) + 5).toNatClampNeg)) h (b12 c1 c2) (b13 c1 c2) (b14 c1 c2) (b15 c1 c2)) (fun v h2 hp => ?_)
      rw [hp.1, hp.2]
      show jG E mX8_goesBy (n + 4) X Post 66 [some (.ref 52), some (.int a1), some (.int (h.1 56 (((2 + (6 * a1)) + 5).toNatClampNeg))), some (.int (f_MospotOf (h.1 52 0) (h.1 56) a1)), none] [.int (f_Moled (h.1 52 0) (h.1 52 1) (f_MospotOf (h.1 52 0) (h.1 56) a1) (h.1 56 (((2 + (6 * a1)) + 5).toNatClampNeg)))] h
      refine jr_istore (pc' := 68) (i := 4) (lv' := [some (.ref 52), some (.int a1), some (.int (h.1 56 (((2 + (6 * a1)) + 5).toNatClampNeg))), some (.int (f_MospotOf (h.1 52 0) (h.1 56) a1)), some (.int (f_Moled (h.1 52 0) (h.1 52 1) (f_MospotOf (h.1 52 0) (h.1 56) a1) (h.1 56 (((2 + (6 * a1)) + 5).toNatClampNeg))))]) dX8_goesBy_66 rfl (by decide) rfl ?_
      refine jr_aload_n (pc' := 69) (i := 0) dX8_goesBy_68 rfl rfl rfl ?_
      refine jr_get (pc' := 72) jK8 (k := 52) (j := 9) (v := .ref 56) wfX8_19 dX8_goesBy_69 rfl (by decide) rfl (by decide) rfl ?_
      refine jr_iconst (pc' := 73) (v := 2) dX8_goesBy_72 rfl (by decide) ?_
      refine jr_bipush (pc' := 75) (v := 6) dX8_goesBy_73 rfl (by decide) ?_
      refine jr_iload_n (pc' := 76) (i := 1) dX8_goesBy_75 rfl rfl rfl ?_
      refine jr_imul (pc' := 77)  dX8_goesBy_76 rfl  ?_
      refine jr_iadd (pc' := 78)  dX8_goesBy_77 rfl  ?_
      refine jr_iload (pc' := 80) (i := 4) dX8_goesBy_78 rfl rfl ?_
      refine jr_aload_n (pc' := 81) (i := 0) dX8_goesBy_80 rfl rfl rfl ?_
      refine jr_get (pc' := 84) jK8 (k := 52) (j := 0) (v := .int (h.1 52 0)) wfX8_76 dX8_goesBy_81 rfl (by decide) rfl (by decide) rfl ?_
      refine jr_irem (pc' := 85)  dX8_goesBy_84 rfl (b16 c1 c2) ?_
      refine jr_iast (pc' := 86) (j := (2 + (6 * a1)).toNatClampNeg) dX8_goesBy_85 rfl (by decide) rfl (b17 c1 c2) rfl ?_
      refine jr_aload_n (pc' := 87) (i := 0) dX8_goesBy_86 rfl rfl rfl ?_
      refine jr_get (pc' := 90) jK8 (k := 52) (j := 9) (v := .ref 56) wfX8_19 dX8_goesBy_87 rfl (by decide) rfl (by decide) rfl ?_
      refine jr_iconst (pc' := 91) (v := 2) dX8_goesBy_90 rfl (by decide) ?_
      refine jr_bipush (pc' := 93) (v := 6) dX8_goesBy_91 rfl (by decide) ?_
      refine jr_iload_n (pc' := 94) (i := 1) dX8_goesBy_93 rfl rfl rfl ?_
      refine jr_imul (pc' := 95)  dX8_goesBy_94 rfl  ?_
      refine jr_iadd (pc' := 96)  dX8_goesBy_95 rfl  ?_
      refine jr_iconst (pc' := 97) (v := 1) dX8_goesBy_96 rfl (by decide) ?_
      refine jr_iadd (pc' := 98)  dX8_goesBy_97 rfl  ?_
      refine jr_iload (pc' := 100) (i := 4) dX8_goesBy_98 rfl rfl ?_
      refine jr_aload_n (pc' := 101) (i := 0) dX8_goesBy_100 rfl rfl rfl ?_
      refine jr_get (pc' := 104) jK8 (k := 52) (j := 0) (v := .int (h.1 52 0)) wfX8_76 dX8_goesBy_101 rfl (by decide) rfl (by decide) rfl ?_
      refine jr_idiv (pc' := 105)  dX8_goesBy_104 rfl (b18 c1 c2) ?_
      refine jr_iast (pc' := 106) (j := ((2 + (6 * a1)) + 1).toNatClampNeg) dX8_goesBy_105 rfl (by decide) rfl (b19 c1 c2) rfl ?_
      refine jr_iinc (pc' := 109) (i := 1) (v := (a1 + 1)) (lv' := [some (.ref 52), some (.int (a1 + 1)), some (.int (h.1 56 (((2 + (6 * a1)) + 5).toNatClampNeg))), some (.int (f_MospotOf (h.1 52 0) (h.1 56) a1)), some (.int (f_Moled (h.1 52 0) (h.1 52 1) (f_MospotOf (h.1 52 0) (h.1 56) a1) (h.1 56 (((2 + (6 * a1)) + 5).toNatClampNeg))))]) dX8_goesBy_106 rfl rfl (congrArg (a1 + ·) (by decide)) (by decide) rfl ?_
      refine jr_goto (pc' := 2) dX8_goesBy_109 rfl ?_
      exact jG.weak (lv' := [some (.ref 52), some (.int (a1 + 1)), none, none, none]) ⟨rfl, rfl, trivial⟩ (k2 c1 c2)

theorem q_MogoesBy_126 {E : jEnv} {n : Nat} {X : State → Prop} {Post : Option Value → HP → Prop}  (h : HP)
    (k0 : jG E mX8_goesBy (n + 4) X Post 128 [some (.ref 52), some (.int 0), none, none, none] [] h)
    : jG E mX8_goesBy (n + 4) X Post 126 [some (.ref 52), none, none, none, none] [] h := by
  refine jr_iconst (pc' := 127) (v := 0) dX8_goesBy_126 rfl (by decide) ?_
  refine jr_istore_n (pc' := 128) (i := 1) (lv' := [some (.ref 52), some (.int 0), none, none, none]) dX8_goesBy_127 rfl rfl (by decide) rfl ?_
  exact jG.weak (lv' := [some (.ref 52), some (.int 0), none, none, none]) ⟨rfl, rfl, trivial⟩ (k0)

theorem q_MogoesBy_128 {E : jEnv} {n : Nat} {X : State → Prop} {Post : Option Value → HP → Prop} (a1 : Int32) (h : HP)
    (k0 : ((h.1 52 5) ≤ a1) → Post none h)
    (b0 : (¬ (h.1 52 5) ≤ a1) → vp_in ((2 + (6 * a1)) + 4) 62)
    (b1 : (¬ (h.1 52 5) ≤ a1) → (vp_in ((2 + (6 * a1)) + 1) 62))
    (b2 : (¬ (h.1 52 5) ≤ a1) → (vp_in (2 + (6 * a1)) 62))
    (b3 : (¬ (h.1 52 5) ≤ a1) → (vp_in (f_MospotOf ((h.1 52 0)) ((h.1 56)) a1) 36))
    (b4 : (¬ (h.1 52 5) ≤ a1) → (¬ (((h.1 52 4))) = 0))
    (b5 : (¬ (h.1 52 5) ≤ a1) → (vp_in (((h.1 56) 0) - ((h.1 56) 0) / (((h.1 52 4))) * (((h.1 52 4)))) 6))
    (b6 : (¬ (h.1 52 5) ≤ a1) → (vp_in (26 + (f_MospotOf ((h.1 52 0)) ((h.1 56)) a1)) 62))
    (b7 : (¬ (h.1 52 5) ≤ a1) → (vp_in ((2 + (6 * a1)) + 2) 62))
    (b8 : (¬ (h.1 52 5) ≤ a1) → ((f_MoisWet (h.1 52 0) (h.1 52 4) (h.1 53) (h.1 54) (h.1 56) a1) = 0) → vp_in ((2 + (6 * a1)) + 4) 62)
    (k1 : (¬ (h.1 52 5) ≤ a1) → ((f_MoisWet (h.1 52 0) (h.1 52 4) (h.1 53) (h.1 54) (h.1 56) a1) = 0) → jG E mX8_goesBy (n + 4) X Post 128 [some (.ref 52), some (.int (a1 + 1)), none, none, none] [] (jPI h 56 (((2 + (6 * a1)) + 4).toNatClampNeg) ((h.1 56 (((2 + (6 * a1)) + 4).toNatClampNeg)) + 0)))
    (b9 : (¬ (h.1 52 5) ≤ a1) → (¬ (f_MoisWet (h.1 52 0) (h.1 52 4) (h.1 53) (h.1 54) (h.1 56) a1) = 0) → vp_in ((2 + (6 * a1)) + 4) 62)
    (k2 : (¬ (h.1 52 5) ≤ a1) → (¬ (f_MoisWet (h.1 52 0) (h.1 52 4) (h.1 53) (h.1 54) (h.1 56) a1) = 0) → jG E mX8_goesBy (n + 4) X Post 128 [some (.ref 52), some (.int (a1 + 1)), none, none, none] [] (jPI h 56 (((2 + (6 * a1)) + 4).toNatClampNeg) ((h.1 56 (((2 + (6 * a1)) + 4).toNatClampNeg)) + 1)))
    : jG E mX8_goesBy (n + 4) X Post 128 [some (.ref 52), some (.int a1), none, none, none] [] h := by
  refine jr_iload_n (pc' := 129) (i := 1) dX8_goesBy_128 rfl rfl rfl ?_
  refine jr_aload_n (pc' := 130) (i := 0) dX8_goesBy_129 rfl rfl rfl ?_
  refine jr_get (pc' := 133) jK8 (k := 52) (j := 5) (v := .int (h.1 52 5)) wfX8_86 dX8_goesBy_130 rfl (by decide) rfl (by decide) rfl ?_
  by_cases c1 : (h.1 52 5) ≤ a1
  · refine jr_icmp_geT (pc' := 171) dX8_goesBy_133 rfl c1 ?_
    exact jr_vret dX8_goesBy_171 rfl (k0 c1)
  · refine jr_icmp_geF (pc' := 136) (tgt := 171) dX8_goesBy_133 rfl rfl c1 ?_
    refine jr_aload_n (pc' := 137) (i := 0) dX8_goesBy_136 rfl rfl rfl ?_
    refine jr_get (pc' := 140) jK8 (k := 52) (j := 9) (v := .ref 56) wfX8_19 dX8_goesBy_137 rfl (by decide) rfl (by decide) rfl ?_
    refine jr_iconst (pc' := 141) (v := 2) dX8_goesBy_140 rfl (by decide) ?_
    refine jr_bipush (pc' := 143) (v := 6) dX8_goesBy_141 rfl (by decide) ?_
    refine jr_iload_n (pc' := 144) (i := 1) dX8_goesBy_143 rfl rfl rfl ?_
    refine jr_imul (pc' := 145)  dX8_goesBy_144 rfl  ?_
    refine jr_iadd (pc' := 146)  dX8_goesBy_145 rfl  ?_
    refine jr_iconst (pc' := 147) (v := 4) dX8_goesBy_146 rfl (by decide) ?_
    refine jr_iadd (pc' := 148)  dX8_goesBy_147 rfl  ?_
    refine jr_dup2 (pc' := 149)  dX8_goesBy_148 rfl rfl rfl ?_
    refine jr_iald (pc' := 150) (v := h.1 56 (((2 + (6 * a1)) + 4).toNatClampNeg)) dX8_goesBy_149 rfl (by decide) rfl (b0 c1) rfl ?_
    refine jr_aload_n (pc' := 151) (i := 0) dX8_goesBy_150 rfl rfl rfl ?_
    refine jr_iload_n (pc' := 152) (i := 1) dX8_goesBy_151 rfl rfl rfl ?_
    refine jr_callV (pc' := 155) (k := 52) (av := [.int a1]) (st := [.int (h.1 56 (((2 + (6 * a1)) + 4).toNatClampNeg)), .int ((2 + (6 * a1)) + 4), .ref 56]) sX8_isWet wmX8_241 dX8_goesBy_152 rfl (by decide) rfl (by decide) rfl rfl rfl (Nat.le_of_ble_eq_true rfl) rfl (c_MoisWet (n := n + 2) a1 h (b1 c1) (b2 c1) (b3 c1) (b4 c1) (b5 c1) (b6 c1) (b7 c1)) (fun v h2 hp => ?_)
    rw [hp.1, hp.2]
    show jG E mX8_goesBy (n + 4) X Post 155 [some (.ref 52), some (.int a1), none, none, none] [.int (f_MoisWet (h.1 52 0) (h.1 52 4) (h.1 53) (h.1 54) (h.1 56) a1), .int (h.1 56 (((2 + (6 * a1)) + 4).toNatClampNeg)), .int ((2 + (6 * a1)) + 4), .ref 56] h
    by_cases c2 : (f_MoisWet (h.1 52 0) (h.1 52 4) (h.1 53) (h.1 54) (h.1 56) a1) = 0
    · refine jr_if_eqT (pc' := 162) dX8_goesBy_155 rfl c2 ?_
      refine jr_iconst (pc' := 163) (v := 0) dX8_goesBy_162 rfl (by decide) ?_
      refine jr_iadd (pc' := 164)  dX8_goesBy_163 rfl  ?_
      refine jr_iast (pc' := 165) (j := ((2 + (6 * a1)) + 4).toNatClampNeg) dX8_goesBy_164 rfl (by decide) rfl (b8 c1 c2) rfl ?_
      refine jr_iinc (pc' := 168) (i := 1) (v := (a1 + 1)) (lv' := [some (.ref 52), some (.int (a1 + 1)), none, none, none]) dX8_goesBy_165 rfl rfl (congrArg (a1 + ·) (by decide)) (by decide) rfl ?_
      refine jr_goto (pc' := 128) dX8_goesBy_168 rfl ?_
      exact jG.weak (lv' := [some (.ref 52), some (.int (a1 + 1)), none, none, none]) ⟨rfl, rfl, trivial⟩ (k1 c1 c2)
    · refine jr_if_eqF (pc' := 158) (tgt := 162) dX8_goesBy_155 rfl rfl c2 ?_
      refine jr_iconst (pc' := 159) (v := 1) dX8_goesBy_158 rfl (by decide) ?_
      refine jr_goto (pc' := 163) dX8_goesBy_159 rfl ?_
      refine jr_iadd (pc' := 164)  dX8_goesBy_163 rfl  ?_
      refine jr_iast (pc' := 165) (j := ((2 + (6 * a1)) + 4).toNatClampNeg) dX8_goesBy_164 rfl (by decide) rfl (b9 c1 c2) rfl ?_
      refine jr_iinc (pc' := 168) (i := 1) (v := (a1 + 1)) (lv' := [some (.ref 52), some (.int (a1 + 1)), none, none, none]) dX8_goesBy_165 rfl rfl (congrArg (a1 + ·) (by decide)) (by decide) rfl ?_
      refine jr_goto (pc' := 128) dX8_goesBy_168 rfl ?_
      exact jG.weak (lv' := [some (.ref 52), some (.int (a1 + 1)), none, none, none]) ⟨rfl, rfl, trivial⟩ (k2 c1 c2)

theorem q_Modrift_0 {E : jEnv} {n : Nat} {X : State → Prop} {Post : Option Value → HP → Prop} (x : Int32) (h : HP)
    (k0 : ((f_Moin x.toInt64 1 99) = 0) → Post (some (.int (-1000000002))) h)
    (k1 : (¬ (f_Moin x.toInt64 1 99) = 0) → ((h.1 52 0) = 0) → Post (some (.int (-1000000003))) h)
    (k2 : (¬ (f_Moin x.toInt64 1 99) = 0) → (¬ (h.1 52 0) = 0) → jG E mX8_drift (n + 1) X Post 28 [some (.ref 52), some (.int x), some (.int 0), none] [] h)
    : jG E mX8_drift (n + 1) X Post 0 [some (.ref 52), some (.int x), none, none] [] h := by
  refine jr_iload_n (pc' := 1) (i := 1) dX8_drift_0 rfl rfl rfl ?_
  refine jr_i2l (pc' := 2)  dX8_drift_1 rfl  ?_
  refine jr_lconst (pc' := 3) (v := 1) dX8_drift_2 rfl (by decide) ?_
  refine jr_ldc2 (pc' := 6) (v := 99) dX8_drift_3 rfl wcX8_250 ?_
  refine jr_callS (pc' := 9) (av := [.long x.toInt64, .long 1, .long 99]) (st := []) sX8_in wmX8_79 dX8_drift_6 rfl rfl (Nat.le_of_ble_eq_true rfl) rfl (c_Moin (n := n) x.toInt64 1 99 h ) (fun v h2 hp => ?_)
  rw [hp.1, hp.2]
  show jG E mX8_drift (n + 1) X Post 9 [some (.ref 52), some (.int x), none, none] [.int (f_Moin x.toInt64 1 99)] h
  by_cases c1 : (f_Moin x.toInt64 1 99) = 0
  · refine jr_if_neF (pc' := 12) (tgt := 15) dX8_drift_9 rfl rfl c1 ?_
    refine jr_ldc (pc' := 14) (v := (-1000000002)) dX8_drift_12 rfl wcX8_94 ?_
    exact jr_iret dX8_drift_14 rfl rfl (k0 c1)
  · refine jr_if_neT (pc' := 15) dX8_drift_9 rfl c1 ?_
    refine jr_aload_n (pc' := 16) (i := 0) dX8_drift_15 rfl rfl rfl ?_
    refine jr_get (pc' := 19) jK8 (k := 52) (j := 0) (v := .int (h.1 52 0)) wfX8_76 dX8_drift_16 rfl (by decide) rfl (by decide) rfl ?_
    by_cases c2 : (h.1 52 0) = 0
    · refine jr_if_neF (pc' := 22) (tgt := 26) dX8_drift_19 rfl rfl c2 ?_
      refine jr_ldcw (pc' := 25) (v := (-1000000003)) dX8_drift_22 rfl wcX8_259 ?_
      exact jr_iret dX8_drift_25 rfl rfl (k1 c1 c2)
    · refine jr_if_neT (pc' := 26) dX8_drift_19 rfl c2 ?_
      refine jr_iconst (pc' := 27) (v := 0) dX8_drift_26 rfl (by decide) ?_
      refine jr_istore_n (pc' := 28) (i := 2) (lv' := [some (.ref 52), some (.int x), some (.int 0), none]) dX8_drift_27 rfl rfl (by decide) rfl ?_
      exact jG.weak (lv' := [some (.ref 52), some (.int x), some (.int 0), none]) ⟨rfl, rfl, rfl, trivial⟩ (k2 c1 c2)

theorem q_Modrift_28 {E : jEnv} {n : Nat} {X : State → Prop} {Post : Option Value → HP → Prop} (a1 : Int32) (a2 : Int32) (h : HP)
    (k0 : (a1 ≤ a2) → Post (some (.int (h.1 56 0))) h)
    (k1 : (¬ a1 ≤ a2) → jG E mX8_drift (n + 1) X Post 35 [some (.ref 52), some (.int a1), some (.int a2), some (.int 0)] [] h)
    : jG E mX8_drift (n + 1) X Post 28 [some (.ref 52), some (.int a1), some (.int a2), none] [] h := by
  refine jr_iload_n (pc' := 29) (i := 2) dX8_drift_28 rfl rfl rfl ?_
  refine jr_iload_n (pc' := 30) (i := 1) dX8_drift_29 rfl rfl rfl ?_
  by_cases c1 : a1 ≤ a2
  · refine jr_icmp_geT (pc' := 110) dX8_drift_30 rfl c1 ?_
    refine jr_aload_n (pc' := 111) (i := 0) dX8_drift_110 rfl rfl rfl ?_
    refine jr_get (pc' := 114) jK8 (k := 52) (j := 9) (v := .ref 56) wfX8_19 dX8_drift_111 rfl (by decide) rfl (by decide) rfl ?_
    refine jr_iconst (pc' := 115) (v := 0) dX8_drift_114 rfl (by decide) ?_
    refine jr_iald (pc' := 116) (v := h.1 56 0) dX8_drift_115 rfl (by decide) rfl (jvin (by decide)) ((congrArg (h.1 56) (by decide : (0 : Int32).toNatClampNeg = 0)).trans rfl) ?_
    exact jr_iret dX8_drift_116 rfl rfl (k0 c1)
  · refine jr_icmp_geF (pc' := 33) (tgt := 110) dX8_drift_30 rfl rfl c1 ?_
    refine jr_iconst (pc' := 34) (v := 0) dX8_drift_33 rfl (by decide) ?_
    refine jr_istore_n (pc' := 35) (i := 3) (lv' := [some (.ref 52), some (.int a1), some (.int a2), some (.int 0)]) dX8_drift_34 rfl rfl (by decide) rfl ?_
    exact jG.weak (lv' := [some (.ref 52), some (.int a1), some (.int a2), some (.int 0)]) ⟨rfl, rfl, rfl, rfl, trivial⟩ (k1 c1)

theorem q_Modrift_35 {E : jEnv} {n : Nat} {X : State → Prop} {Post : Option Value → HP → Prop} (a1 : Int32) (a2 : Int32) (a3 : Int32) (h : HP)
    (k0 : ((h.1 52 5) ≤ a3) → jCall E mX8_goesBy n [.ref 52] h (fun v h2 => jG E mX8_drift (n + 1) X Post 104 [some (.ref 52), some (.int a1), some (.int a2), none] (v.toList ++ []) h2))
    (b0 : (¬ (h.1 52 5) ≤ a3) → vp_in ((2 + (6 * a3)) + 5) 62)
    (k1 : (¬ (h.1 52 5) ≤ a3) → jG E mX8_drift (n + 1) X Post 35 [some (.ref 52), some (.int a1), some (.int a2), some (.int (a3 + 1))] [] (jPI (jPI h 56 1 ((((((h.1 56 1).toInt64) * 1103515245) + 12345) - ((((h.1 56 1).toInt64) * 1103515245) + 12345) / 2147483648 * 2147483648).toInt32)) 56 (((2 + (6 * a3)) + 5).toNatClampNeg) ((((((((h.1 56 1).toInt64) * 1103515245) + 12345) - ((((h.1 56 1).toInt64) * 1103515245) + 12345) / 2147483648 * 2147483648).toInt32) / 65536) - (((((((h.1 56 1).toInt64) * 1103515245) + 12345) - ((((h.1 56 1).toInt64) * 1103515245) + 12345) / 2147483648 * 2147483648).toInt32) / 65536) / 5 * 5)))
    : jG E mX8_drift (n + 1) X Post 35 [some (.ref 52), some (.int a1), some (.int a2), some (.int a3)] [] h := by
  refine jr_iload_n (pc' := 36) (i := 3) dX8_drift_35 rfl rfl rfl ?_
  refine jr_aload_n (pc' := 37) (i := 0) dX8_drift_36 rfl rfl rfl ?_
  refine jr_get (pc' := 40) jK8 (k := 52) (j := 5) (v := .int (h.1 52 5)) wfX8_86 dX8_drift_37 rfl (by decide) rfl (by decide) rfl ?_
  by_cases c1 : (h.1 52 5) ≤ a3
  · refine jr_icmp_geT (pc' := 100) dX8_drift_40 rfl c1 ?_
    refine jr_aload_n (pc' := 101) (i := 0) dX8_drift_100 rfl rfl rfl ?_
    obtain ⟨P1, hC1, hK1⟩ := k0 c1
    exact jr_callV (pc' := 104) (k := 52) (av := []) (st := []) sX8_goesBy wmX8_260 dX8_drift_101 rfl (by decide) rfl (by decide) rfl rfl rfl (Nat.le_of_ble_eq_true rfl) rfl hC1 (fun v h2 hp => jG.weak (lv' := [some (.ref 52), some (.int a1), some (.int a2), none]) ⟨rfl, rfl, rfl, trivial⟩ (hK1 v h2 hp))
  · refine jr_icmp_geF (pc' := 43) (tgt := 100) dX8_drift_40 rfl rfl c1 ?_
    refine jr_aload_n (pc' := 44) (i := 0) dX8_drift_43 rfl rfl rfl ?_
    refine jr_get (pc' := 47) jK8 (k := 52) (j := 9) (v := .ref 56) wfX8_19 dX8_drift_44 rfl (by decide) rfl (by decide) rfl ?_
    refine jr_iconst (pc' := 48) (v := 1) dX8_drift_47 rfl (by decide) ?_
    refine jr_aload_n (pc' := 49) (i := 0) dX8_drift_48 rfl rfl rfl ?_
    refine jr_get (pc' := 52) jK8 (k := 52) (j := 9) (v := .ref 56) wfX8_19 dX8_drift_49 rfl (by decide) rfl (by decide) rfl ?_
    refine jr_iconst (pc' := 53) (v := 1) dX8_drift_52 rfl (by decide) ?_
    refine jr_iald (pc' := 54) (v := h.1 56 1) dX8_drift_53 rfl (by decide) rfl (jvin (by decide)) ((congrArg (h.1 56) (by decide : (1 : Int32).toNatClampNeg = 1)).trans rfl) ?_
    refine jr_i2l (pc' := 55)  dX8_drift_54 rfl  ?_
    refine jr_ldc2 (pc' := 58) (v := 1103515245) dX8_drift_55 rfl wcX8_263 ?_
    refine jr_lmul (pc' := 59)  dX8_drift_58 rfl  ?_
    refine jr_ldc2 (pc' := 62) (v := 12345) dX8_drift_59 rfl wcX8_265 ?_
    refine jr_ladd (pc' := 63)  dX8_drift_62 rfl  ?_
    refine jr_ldc2 (pc' := 66) (v := 2147483648) dX8_drift_63 rfl wcX8_267 ?_
    refine jr_lrem (pc' := 67)  dX8_drift_66 rfl (by decide) ?_
    refine jr_l2i (pc' := 68)  dX8_drift_67 rfl  ?_
    refine jr_iast (pc' := 69) (j := 1) dX8_drift_68 rfl (by decide) rfl (jvin (by decide)) (by decide) ?_
    refine jr_aload_n (pc' := 70) (i := 0) dX8_drift_69 rfl rfl rfl ?_
    refine jr_get (pc' := 73) jK8 (k := 52) (j := 9) (v := .ref 56) wfX8_19 dX8_drift_70 rfl (by decide) rfl (by decide) rfl ?_
    refine jr_iconst (pc' := 74) (v := 2) dX8_drift_73 rfl (by decide) ?_
    refine jr_bipush (pc' := 76) (v := 6) dX8_drift_74 rfl (by decide) ?_
    refine jr_iload_n (pc' := 77) (i := 3) dX8_drift_76 rfl rfl rfl ?_
    refine jr_imul (pc' := 78)  dX8_drift_77 rfl  ?_
    refine jr_iadd (pc' := 79)  dX8_drift_78 rfl  ?_
    refine jr_iconst (pc' := 80) (v := 5) dX8_drift_79 rfl (by decide) ?_
    refine jr_iadd (pc' := 81)  dX8_drift_80 rfl  ?_
    refine jr_aload_n (pc' := 82) (i := 0) dX8_drift_81 rfl rfl rfl ?_
    refine jr_get (pc' := 85) jK8 (k := 52) (j := 9) (v := .ref 56) wfX8_19 dX8_drift_82 rfl (by decide) rfl (by decide) rfl ?_
    refine jr_iconst (pc' := 86) (v := 1) dX8_drift_85 rfl (by decide) ?_
    refine jr_iald (pc' := 87) (v := (((((h.1 56 1).toInt64) * 1103515245) + 12345) - ((((h.1 56 1).toInt64) * 1103515245) + 12345) / 2147483648 * 2147483648).toInt32) dX8_drift_86 rfl (by decide) rfl (jvin (by decide)) ((congrArg ((jPI h 56 1 ((((((h.1 56 1).toInt64) * 1103515245) + 12345) - ((((h.1 56 1).toInt64) * 1103515245) + 12345) / 2147483648 * 2147483648).toInt32)).1 56) (by decide : (1 : Int32).toNatClampNeg = 1)).trans rfl) ?_
    refine jr_ldcw (pc' := 90) (v := 65536) dX8_drift_87 rfl wcX8_269 ?_
    refine jr_idiv (pc' := 91)  dX8_drift_90 rfl (by decide) ?_
    refine jr_iconst (pc' := 92) (v := 5) dX8_drift_91 rfl (by decide) ?_
    refine jr_irem (pc' := 93)  dX8_drift_92 rfl (by decide) ?_
    refine jr_iast (pc' := 94) (j := ((2 + (6 * a3)) + 5).toNatClampNeg) dX8_drift_93 rfl (by decide) rfl (b0 c1) rfl ?_
    refine jr_iinc (pc' := 97) (i := 3) (v := (a3 + 1)) (lv' := [some (.ref 52), some (.int a1), some (.int a2), some (.int (a3 + 1))]) dX8_drift_94 rfl rfl (congrArg (a3 + ·) (by decide)) (by decide) rfl ?_
    refine jr_goto (pc' := 35) dX8_drift_97 rfl ?_
    exact jG.weak (lv' := [some (.ref 52), some (.int a1), some (.int a2), some (.int (a3 + 1))]) ⟨rfl, rfl, rfl, rfl, trivial⟩ (k1 c1)

theorem q_Modrift_104 {E : jEnv} {n : Nat} {X : State → Prop} {Post : Option Value → HP → Prop} (a1 : Int32) (a2 : Int32) (h : HP)
    (k0 : jG E mX8_drift (n + 1) X Post 28 [some (.ref 52), some (.int a1), some (.int (a2 + 1)), none] [] h)
    : jG E mX8_drift (n + 1) X Post 104 [some (.ref 52), some (.int a1), some (.int a2), none] [] h := by
  refine jr_iinc (pc' := 107) (i := 2) (v := (a2 + 1)) (lv' := [some (.ref 52), some (.int a1), some (.int (a2 + 1)), none]) dX8_drift_104 rfl rfl (congrArg (a2 + ·) (by decide)) (by decide) rfl ?_
  refine jr_goto (pc' := 28) dX8_drift_107 rfl ?_
  exact jG.weak (lv' := [some (.ref 52), some (.int a1), some (.int (a2 + 1)), none]) ⟨rfl, rfl, rfl, trivial⟩ (k0)

theorem q_MocanBe_0 {E : jEnv} {n : Nat} {X : State → Prop} {Post : Option Value → HP → Prop} (x : Int32) (y : Int32) (z : Int32) (h : HP)
    (k0 : ((f_MoisMan (h.1 52 5) x) = 0) → Post (some (.int (-1000000001))) h)
    (k1 : (¬ (f_MoisMan (h.1 52 5) x) = 0) → ((f_Mocell (h.1 52 0) (h.1 52 1) y z) = (-1)) → Post (some (.int (-1000000001))) h)
    (k2 : (¬ (f_MoisMan (h.1 52 5) x) = 0) → (¬ (f_Mocell (h.1 52 0) (h.1 52 1) y z) = (-1)) → jCall E mX8_reaches (n + 1) [.ref 52, .int x, .int (f_Mocell (h.1 52 0) (h.1 52 1) y z)] h (fun v h2 => jG E mX8_canBe (n + 2) X Post 29 [none, none, none, none] (v.toList ++ []) h2))
    : jG E mX8_canBe (n + 2) X Post 0 [some (.ref 52), some (.int x), some (.int y), some (.int z)] [] h := by
  refine jr_aload_n (pc' := 1) (i := 0) dX8_canBe_0 rfl rfl rfl ?_
  refine jr_iload_n (pc' := 2) (i := 1) dX8_canBe_1 rfl rfl rfl ?_
  refine jr_callV (pc' := 5) (k := 52) (av := [.int x]) (st := []) sX8_isMan wmX8_252 dX8_canBe_2 rfl (by decide) rfl (by decide) rfl rfl rfl (Nat.le_of_ble_eq_true rfl) rfl (c_MoisMan (n := n) x h ) (fun v h2 hp => ?_)
  rw [hp.1, hp.2]
  show jG E mX8_canBe (n + 2) X Post 5 [some (.ref 52), some (.int x), some (.int y), some (.int z)] [.int (f_MoisMan (h.1 52 5) x)] h
  by_cases c1 : (f_MoisMan (h.1 52 5) x) = 0
  · refine jr_if_eqT (pc' := 32) dX8_canBe_5 rfl c1 ?_
    refine jr_ldc (pc' := 34) (v := (-1000000001)) dX8_canBe_32 rfl wcX8_249 ?_
    exact jr_iret dX8_canBe_34 rfl rfl (k0 c1)
  · refine jr_if_eqF (pc' := 8) (tgt := 32) dX8_canBe_5 rfl rfl c1 ?_
    refine jr_aload_n (pc' := 9) (i := 0) dX8_canBe_8 rfl rfl rfl ?_
    refine jr_iload_n (pc' := 10) (i := 2) dX8_canBe_9 rfl rfl rfl ?_
    refine jr_iload_n (pc' := 11) (i := 3) dX8_canBe_10 rfl rfl rfl ?_
    refine jr_callV (pc' := 14) (k := 52) (av := [.int y, .int z]) (st := []) sX8_cell wmX8_227 dX8_canBe_11 rfl (by decide) rfl (by decide) rfl rfl rfl (Nat.le_of_ble_eq_true rfl) rfl (c_Mocell (n := n) y z h ) (fun v h2 hp => ?_)
    rw [hp.1, hp.2]
    show jG E mX8_canBe (n + 2) X Post 14 [some (.ref 52), some (.int x), some (.int y), some (.int z)] [.int (f_Mocell (h.1 52 0) (h.1 52 1) y z)] h
    refine jr_iconst (pc' := 15) (v := (-1)) dX8_canBe_14 rfl (by decide) ?_
    by_cases c2 : (f_Mocell (h.1 52 0) (h.1 52 1) y z) = (-1)
    · refine jr_icmp_eqT (pc' := 32) dX8_canBe_15 rfl c2 ?_
      refine jr_ldc (pc' := 34) (v := (-1000000001)) dX8_canBe_32 rfl wcX8_249 ?_
      exact jr_iret dX8_canBe_34 rfl rfl (k1 c1 c2)
    · refine jr_icmp_eqF (pc' := 18) (tgt := 32) dX8_canBe_15 rfl rfl c2 ?_
      refine jr_aload_n (pc' := 19) (i := 0) dX8_canBe_18 rfl rfl rfl ?_
      refine jr_iload_n (pc' := 20) (i := 1) dX8_canBe_19 rfl rfl rfl ?_
      refine jr_aload_n (pc' := 21) (i := 0) dX8_canBe_20 rfl rfl rfl ?_
      refine jr_iload_n (pc' := 22) (i := 2) dX8_canBe_21 rfl rfl rfl ?_
      refine jr_iload_n (pc' := 23) (i := 3) dX8_canBe_22 rfl rfl rfl ?_
      refine jr_callV (pc' := 26) (k := 52) (av := [.int y, .int z]) (st := [.int x, .ref 52]) sX8_cell wmX8_227 dX8_canBe_23 rfl (by decide) rfl (by decide) rfl rfl rfl (Nat.le_of_ble_eq_true rfl) rfl (c_Mocell (n := n) y z h ) (fun v h2 hp => ?_)
      rw [hp.1, hp.2]
      show jG E mX8_canBe (n + 2) X Post 26 [some (.ref 52), some (.int x), some (.int y), some (.int z)] [.int (f_Mocell (h.1 52 0) (h.1 52 1) y z), .int x, .ref 52] h
      obtain ⟨P1, hC1, hK1⟩ := k2 c1 c2
      exact jr_callV (pc' := 29) (k := 52) (av := [.int x, .int (f_Mocell (h.1 52 0) (h.1 52 1) y z)]) (st := []) sX8_reaches wmX8_278 dX8_canBe_26 rfl (by decide) rfl (by decide) rfl rfl rfl (Nat.le_of_ble_eq_true rfl) rfl hC1 (fun v h2 hp => jG.weak (lv' := [none, none, none, none]) trivial (hK1 v h2 hp))

theorem q_MocanBe_29 {E : jEnv} {n : Nat} {X : State → Prop} {Post : Option Value → HP → Prop} (s0 : Int32) (h : HP)
    (k0 : Post (some (.int s0)) h)
    : jG E mX8_canBe (n + 2) X Post 29 [none, none, none, none] [.int s0] h := by
  refine jr_goto (pc' := 34) dX8_canBe_29 rfl ?_
  exact jr_iret dX8_canBe_34 rfl rfl (k0)

theorem q_Moreaches_0 {E : jEnv} {n : Nat} {X : State → Prop} {Post : Option Value → HP → Prop} (x : Int32) (y : Int32) (h : HP)
    (b0 : (vp_in ((2 + (6 * x)) + 1) 62))
    (b1 : (vp_in (2 + (6 * x)) 62))
    (k0 : jG E mX8_reaches (n + 1) X Post 11 [some (.ref 52), some (.int x), some (.int y), some (.long (1 <<< ((f_MospotOf (h.1 52 0) (h.1 56) x).toInt64 &&& 63))), none, some (.int 0)] [] h)
    : jG E mX8_reaches (n + 1) X Post 0 [some (.ref 52), some (.int x), some (.int y), none, none, none] [] h := by
  refine jr_lconst (pc' := 1) (v := 1) dX8_reaches_0 rfl (by decide) ?_
  refine jr_aload_n (pc' := 2) (i := 0) dX8_reaches_1 rfl rfl rfl ?_
  refine jr_iload_n (pc' := 3) (i := 1) dX8_reaches_2 rfl rfl rfl ?_
  refine jr_callV (pc' := 6) (k := 52) (av := [.int x]) (st := [.long 1]) sX8_spotOf wmX8_223 dX8_reaches_3 rfl (by decide) rfl (by decide) rfl rfl rfl (Nat.le_of_ble_eq_true rfl) rfl (c_MospotOf (n := n) x h (b0) (b1)) (fun v h2 hp => ?_)
  rw [hp.1, hp.2]
  show jG E mX8_reaches (n + 1) X Post 6 [some (.ref 52), some (.int x), some (.int y), none, none, none] [.int (f_MospotOf (h.1 52 0) (h.1 56) x), .long 1] h
  refine jr_lshl (pc' := 7)  dX8_reaches_6 rfl  ?_
  refine jr_lstore_n (pc' := 8) (i := 3) (lv' := [some (.ref 52), some (.int x), some (.int y), some (.long (1 <<< ((f_MospotOf (h.1 52 0) (h.1 56) x).toInt64 &&& 63))), none, none]) dX8_reaches_7 rfl rfl (by decide) rfl ?_
  refine jr_iconst (pc' := 9) (v := 0) dX8_reaches_8 rfl (by decide) ?_
  refine jr_istore (pc' := 11) (i := 5) (lv' := [some (.ref 52), some (.int x), some (.int y), some (.long (1 <<< ((f_MospotOf (h.1 52 0) (h.1 56) x).toInt64 &&& 63))), none, some (.int 0)]) dX8_reaches_9 rfl (by decide) rfl ?_
  exact jG.weak (lv' := [some (.ref 52), some (.int x), some (.int y), some (.long (1 <<< ((f_MospotOf (h.1 52 0) (h.1 56) x).toInt64 &&& 63))), none, some (.int 0)]) ⟨rfl, rfl, rfl, rfl, rfl, trivial⟩ (k0)

theorem q_Moreaches_11 {E : jEnv} {n : Nat} {X : State → Prop} {Post : Option Value → HP → Prop} (a1 : Int32) (a2 : Int32) (l3 : Int64) (a5 : Int32) (h : HP)
    (k0 : ((40 : Int32) < a5) → Post (some (.int (-1))) h)
    (k1 : (¬ (40 : Int32) < a5) → ((lg_cmp ((l3 >>> (a2.toInt64 &&& 63)) &&& 1) 1) = 0) → Post (some (.int a5)) h)
    (b0 : (¬ (40 : Int32) < a5) → (¬ (lg_cmp ((l3 >>> (a2.toInt64 &&& 63)) &&& 1) 1) = 0) → vp_in ((2 + (6 * a1)) + 2) 62)
    (k2 : (¬ (40 : Int32) < a5) → (¬ (lg_cmp ((l3 >>> (a2.toInt64 &&& 63)) &&& 1) 1) = 0) → jCall E mX8_stepped n [.ref 52, .long l3, .int (h.1 56 (((2 + (6 * a1)) + 2).toNatClampNeg)), .int (((h.1 56 0) + a5) + 1)] h (fun v h2 => jG E mX8_reaches (n + 1) X Post 60 [some (.ref 52), some (.int a1), some (.int a2), none, none, some (.int a5)] (v.toList ++ []) h2))
    : jG E mX8_reaches (n + 1) X Post 11 [some (.ref 52), some (.int a1), some (.int a2), some (.long l3), none, some (.int a5)] [] h := by
  refine jr_iload (pc' := 13) (i := 5) dX8_reaches_11 rfl rfl ?_
  refine jr_bipush (pc' := 15) (v := 40) dX8_reaches_13 rfl (by decide) ?_
  by_cases c1 : (40 : Int32) < a5
  · refine jr_icmp_gtT (pc' := 67) dX8_reaches_15 rfl c1 ?_
    refine jr_iconst (pc' := 68) (v := (-1)) dX8_reaches_67 rfl (by decide) ?_
    exact jr_iret dX8_reaches_68 rfl rfl (k0 c1)
  · refine jr_icmp_gtF (pc' := 18) (tgt := 67) dX8_reaches_15 rfl rfl c1 ?_
    refine jr_lload_n (pc' := 19) (i := 3) dX8_reaches_18 rfl rfl rfl ?_
    refine jr_iload_n (pc' := 20) (i := 2) dX8_reaches_19 rfl rfl rfl ?_
    refine jr_lshr (pc' := 21)  dX8_reaches_20 rfl  ?_
    refine jr_lconst (pc' := 22) (v := 1) dX8_reaches_21 rfl (by decide) ?_
    refine jr_land (pc' := 23)  dX8_reaches_22 rfl  ?_
    refine jr_lconst (pc' := 24) (v := 1) dX8_reaches_23 rfl (by decide) ?_
    refine jr_lcmp (pc' := 25)  dX8_reaches_24 rfl  ?_
    by_cases c2 : (lg_cmp ((l3 >>> (a2.toInt64 &&& 63)) &&& 1) 1) = 0
    · refine jr_if_neF (pc' := 28) (tgt := 31) dX8_reaches_25 rfl rfl c2 ?_
      refine jr_iload (pc' := 30) (i := 5) dX8_reaches_28 rfl rfl ?_
      exact jr_iret dX8_reaches_30 rfl rfl (k1 c1 c2)
    · refine jr_if_neT (pc' := 31) dX8_reaches_25 rfl c2 ?_
      refine jr_aload_n (pc' := 32) (i := 0) dX8_reaches_31 rfl rfl rfl ?_
      refine jr_lload_n (pc' := 33) (i := 3) dX8_reaches_32 rfl rfl rfl ?_
      refine jr_aload_n (pc' := 34) (i := 0) dX8_reaches_33 rfl rfl rfl ?_
      refine jr_get (pc' := 37) jK8 (k := 52) (j := 9) (v := .ref 56) wfX8_19 dX8_reaches_34 rfl (by decide) rfl (by decide) rfl ?_
      refine jr_iconst (pc' := 38) (v := 2) dX8_reaches_37 rfl (by decide) ?_
      refine jr_bipush (pc' := 40) (v := 6) dX8_reaches_38 rfl (by decide) ?_
      refine jr_iload_n (pc' := 41) (i := 1) dX8_reaches_40 rfl rfl rfl ?_
      refine jr_imul (pc' := 42)  dX8_reaches_41 rfl  ?_
      refine jr_iadd (pc' := 43)  dX8_reaches_42 rfl  ?_
      refine jr_iconst (pc' := 44) (v := 2) dX8_reaches_43 rfl (by decide) ?_
      refine jr_iadd (pc' := 45)  dX8_reaches_44 rfl  ?_
      refine jr_iald (pc' := 46) (v := h.1 56 (((2 + (6 * a1)) + 2).toNatClampNeg)) dX8_reaches_45 rfl (by decide) rfl (b0 c1 c2) rfl ?_
      refine jr_aload_n (pc' := 47) (i := 0) dX8_reaches_46 rfl rfl rfl ?_
      refine jr_get (pc' := 50) jK8 (k := 52) (j := 9) (v := .ref 56) wfX8_19 dX8_reaches_47 rfl (by decide) rfl (by decide) rfl ?_
      refine jr_iconst (pc' := 51) (v := 0) dX8_reaches_50 rfl (by decide) ?_
      refine jr_iald (pc' := 52) (v := h.1 56 0) dX8_reaches_51 rfl (by decide) rfl (jvin (by decide)) ((congrArg (h.1 56) (by decide : (0 : Int32).toNatClampNeg = 0)).trans rfl) ?_
      refine jr_iload (pc' := 54) (i := 5) dX8_reaches_52 rfl rfl ?_
      refine jr_iadd (pc' := 55)  dX8_reaches_54 rfl  ?_
      refine jr_iconst (pc' := 56) (v := 1) dX8_reaches_55 rfl (by decide) ?_
      refine jr_iadd (pc' := 57)  dX8_reaches_56 rfl  ?_
      obtain ⟨P1, hC1, hK1⟩ := k2 c1 c2
      exact jr_callV (pc' := 60) (k := 52) (av := [.long l3, .int (h.1 56 (((2 + (6 * a1)) + 2).toNatClampNeg)), .int (((h.1 56 0) + a5) + 1)]) (st := []) sX8_stepped wmX8_274 dX8_reaches_57 rfl (by decide) rfl (by decide) rfl rfl rfl (Nat.le_of_ble_eq_true rfl) rfl hC1 (fun v h2 hp => jG.weak (lv' := [some (.ref 52), some (.int a1), some (.int a2), none, none, some (.int a5)]) ⟨rfl, rfl, rfl, rfl, trivial⟩ (hK1 v h2 hp))

theorem q_Moreaches_60 {E : jEnv} {n : Nat} {X : State → Prop} {Post : Option Value → HP → Prop} (a1 : Int32) (a2 : Int32) (a5 : Int32) (t0 : Int64) (h : HP)
    (k0 : jG E mX8_reaches (n + 1) X Post 11 [some (.ref 52), some (.int a1), some (.int a2), some (.long t0), none, some (.int (a5 + 1))] [] h)
    : jG E mX8_reaches (n + 1) X Post 60 [some (.ref 52), some (.int a1), some (.int a2), none, none, some (.int a5)] [.long t0] h := by
  refine jr_lstore_n (pc' := 61) (i := 3) (lv' := [some (.ref 52), some (.int a1), some (.int a2), some (.long t0), none, some (.int a5)]) dX8_reaches_60 rfl rfl (by decide) rfl ?_
  refine jr_iinc (pc' := 64) (i := 5) (v := (a5 + 1)) (lv' := [some (.ref 52), some (.int a1), some (.int a2), some (.long t0), none, some (.int (a5 + 1))]) dX8_reaches_61 rfl rfl (congrArg (a5 + ·) (by decide)) (by decide) rfl ?_
  refine jr_goto (pc' := 11) dX8_reaches_64 rfl ?_
  exact jG.weak (lv' := [some (.ref 52), some (.int a1), some (.int a2), some (.long t0), none, some (.int (a5 + 1))]) ⟨rfl, rfl, rfl, rfl, rfl, trivial⟩ (k0)

theorem q_Mostepped_0 {E : jEnv} {n : Nat} {X : State → Prop} {Post : Option Value → HP → Prop} (x : Int64) (y : Int32) (z : Int32) (h : HP)
    (k0 : jG E mX8_stepped (n + 4) X Post 6 [some (.ref 52), some (.long x), none, some (.int y), some (.int z), some (.long x), none, some (.int 0), none] [] h)
    : jG E mX8_stepped (n + 4) X Post 0 [some (.ref 52), some (.long x), none, some (.int y), some (.int z), none, none, none, none] [] h := by
  refine jr_lload_n (pc' := 1) (i := 1) dX8_stepped_0 rfl rfl rfl ?_
  refine jr_lstore (pc' := 3) (i := 5) (lv' := [some (.ref 52), some (.long x), none, some (.int y), some (.int z), some (.long x), none, none, none]) dX8_stepped_1 rfl (by decide) rfl ?_
  refine jr_iconst (pc' := 4) (v := 0) dX8_stepped_3 rfl (by decide) ?_
  refine jr_istore (pc' := 6) (i := 7) (lv' := [some (.ref 52), some (.long x), none, some (.int y), some (.int z), some (.long x), none, some (.int 0), none]) dX8_stepped_4 rfl (by decide) rfl ?_
  exact jG.weak (lv' := [some (.ref 52), some (.long x), none, some (.int y), some (.int z), some (.long x), none, some (.int 0), none]) ⟨rfl, rfl, rfl, rfl, rfl, rfl, trivial⟩ (k0)

theorem q_Mostepped_6 {E : jEnv} {n : Nat} {X : State → Prop} {Post : Option Value → HP → Prop} (l1 : Int64) (a3 : Int32) (a4 : Int32) (l5 : Int64) (a7 : Int32) (h : HP)
    (k0 : (((h.1 52 0) * (h.1 52 1)) ≤ a7) → Post (some (.long l5)) h)
    (k1 : (¬ ((h.1 52 0) * (h.1 52 1)) ≤ a7) → jG E mX8_stepped (n + 4) X Post 23 [some (.ref 52), some (.long l1), none, some (.int a3), some (.int a4), some (.long l5), none, some (.int a7), some (.int 1)] [] h)
    : jG E mX8_stepped (n + 4) X Post 6 [some (.ref 52), some (.long l1), none, some (.int a3), some (.int a4), some (.long l5), none, some (.int a7), none] [] h := by
  refine jr_iload (pc' := 8) (i := 7) dX8_stepped_6 rfl rfl ?_
  refine jr_aload_n (pc' := 9) (i := 0) dX8_stepped_8 rfl rfl rfl ?_
  refine jr_get (pc' := 12) jK8 (k := 52) (j := 0) (v := .int (h.1 52 0)) wfX8_76 dX8_stepped_9 rfl (by decide) rfl (by decide) rfl ?_
  refine jr_aload_n (pc' := 13) (i := 0) dX8_stepped_12 rfl rfl rfl ?_
  refine jr_get (pc' := 16) jK8 (k := 52) (j := 1) (v := .int (h.1 52 1)) wfX8_83 dX8_stepped_13 rfl (by decide) rfl (by decide) rfl ?_
  refine jr_imul (pc' := 17)  dX8_stepped_16 rfl  ?_
  by_cases c1 : ((h.1 52 0) * (h.1 52 1)) ≤ a7
  · refine jr_icmp_geT (pc' := 85) dX8_stepped_17 rfl c1 ?_
    refine jr_lload (pc' := 87) (i := 5) dX8_stepped_85 rfl rfl ?_
    exact jr_lret dX8_stepped_87 rfl (k0 c1)
  · refine jr_icmp_geF (pc' := 20) (tgt := 85) dX8_stepped_17 rfl rfl c1 ?_
    refine jr_iconst (pc' := 21) (v := 1) dX8_stepped_20 rfl (by decide) ?_
    refine jr_istore (pc' := 23) (i := 8) (lv' := [some (.ref 52), some (.long l1), none, some (.int a3), some (.int a4), some (.long l5), none, some (.int a7), some (.int 1)]) dX8_stepped_21 rfl (by decide) rfl ?_
    exact jG.weak (lv' := [some (.ref 52), some (.long l1), none, some (.int a3), some (.int a4), some (.long l5), none, some (.int a7), some (.int 1)]) ⟨rfl, rfl, rfl, rfl, rfl, rfl, rfl, trivial⟩ (k1 c1)

theorem q_Mostepped_23 {E : jEnv} {n : Nat} {X : State → Prop} {Post : Option Value → HP → Prop} (l1 : Int64) (a3 : Int32) (a4 : Int32) (l5 : Int64) (a7 : Int32) (a8 : Int32) (h : HP)
    (k0 : ((5 : Int32) ≤ a8) → jG E mX8_stepped (n + 4) X Post 6 [some (.ref 52), some (.long l1), none, some (.int a3), some (.int a4), some (.long l5), none, some (.int (a7 + 1)), none] [] h)
    (b0 : (¬ (5 : Int32) ≤ a8) → ((lg_cmp ((l1 >>> (a7.toInt64 &&& 63)) &&& 1) 1) = 0) → (¬ (((h.1 52 0))) = 0))
    (b1 : (¬ (5 : Int32) ≤ a8) → ((lg_cmp ((l1 >>> (a7.toInt64 &&& 63)) &&& 1) 1) = 0) → ((a8 = 2) → ¬ (((h.1 52 0))) = 0))
    (b2 : (¬ (5 : Int32) ≤ a8) → ((lg_cmp ((l1 >>> (a7.toInt64 &&& 63)) &&& 1) 1) = 0) → ((¬ a8 = 2) → (a8 = 4) → ¬ (((h.1 52 0))) = 0))
    (b3 : (¬ (5 : Int32) ≤ a8) → ((lg_cmp ((l1 >>> (a7.toInt64 &&& 63)) &&& 1) 1) = 0) → ((¬ a8 = 2) → (¬ a8 = 4) → ¬ (((h.1 52 0))) = 0))
    (b4 : (¬ (5 : Int32) ≤ a8) → ((lg_cmp ((l1 >>> (a7.toInt64 &&& 63)) &&& 1) 1) = 0) → ((¬ a8 = 0) → (¬ (f_Moled ((h.1 52 0)) ((h.1 52 1)) a7 a8) = (-1)) → (vp_in (f_Moled ((h.1 52 0)) ((h.1 52 1)) a7 a8) 36)))
    (b5 : (¬ (5 : Int32) ≤ a8) → ((lg_cmp ((l1 >>> (a7.toInt64 &&& 63)) &&& 1) 1) = 0) → ((¬ a8 = 0) → (¬ (f_Moled ((h.1 52 0)) ((h.1 52 1)) a7 a8) = (-1)) → (¬ (((h.1 52 4))) = 0)))
    (b6 : (¬ (5 : Int32) ≤ a8) → ((lg_cmp ((l1 >>> (a7.toInt64 &&& 63)) &&& 1) 1) = 0) → ((¬ a8 = 0) → (¬ (f_Moled ((h.1 52 0)) ((h.1 52 1)) a7 a8) = (-1)) → (vp_in (a4 - a4 / (((h.1 52 4))) * (((h.1 52 4)))) 6)))
    (b7 : (¬ (5 : Int32) ≤ a8) → ((lg_cmp ((l1 >>> (a7.toInt64 &&& 63)) &&& 1) 1) = 0) → ((¬ a8 = 0) → (¬ (f_Moled ((h.1 52 0)) ((h.1 52 1)) a7 a8) = (-1)) → (vp_in (26 + (f_Moled ((h.1 52 0)) ((h.1 52 1)) a7 a8)) 62)))
    (k1 : (¬ (5 : Int32) ≤ a8) → ((lg_cmp ((l1 >>> (a7.toInt64 &&& 63)) &&& 1) 1) = 0) → ((f_MomayGo (h.1 52 0) (h.1 52 1) (h.1 52 4) (h.1 53) (h.1 54) (h.1 56) a7 a8 a3 a4) = 0) → jG E mX8_stepped (n + 4) X Post 23 [some (.ref 52), some (.long l1), none, some (.int a3), some (.int a4), some (.long (l5 ||| 0)), none, some (.int a7), some (.int (a8 + 1))] [] h)
    (b8 : (¬ (5 : Int32) ≤ a8) → ((lg_cmp ((l1 >>> (a7.toInt64 &&& 63)) &&& 1) 1) = 0) → (¬ (f_MomayGo (h.1 52 0) (h.1 52 1) (h.1 52 4) (h.1 53) (h.1 54) (h.1 56) a7 a8 a3 a4) = 0) → (¬ ((h.1 52 0)) = 0))
    (b9 : (¬ (5 : Int32) ≤ a8) → ((lg_cmp ((l1 >>> (a7.toInt64 &&& 63)) &&& 1) 1) = 0) → (¬ (f_MomayGo (h.1 52 0) (h.1 52 1) (h.1 52 4) (h.1 53) (h.1 54) (h.1 56) a7 a8 a3 a4) = 0) → ((a8 = 2) → ¬ ((h.1 52 0)) = 0))
    (b10 : (¬ (5 : Int32) ≤ a8) → ((lg_cmp ((l1 >>> (a7.toInt64 &&& 63)) &&& 1) 1) = 0) → (¬ (f_MomayGo (h.1 52 0) (h.1 52 1) (h.1 52 4) (h.1 53) (h.1 54) (h.1 56) a7 a8 a3 a4) = 0) → ((¬ a8 = 2) → (a8 = 4) → ¬ ((h.1 52 0)) = 0))
    (b11 : (¬ (5 : Int32) ≤ a8) → ((lg_cmp ((l1 >>> (a7.toInt64 &&& 63)) &&& 1) 1) = 0) → (¬ (f_MomayGo (h.1 52 0) (h.1 52 1) (h.1 52 4) (h.1 53) (h.1 54) (h.1 56) a7 a8 a3 a4) = 0) → ((¬ a8 = 2) → (¬ a8 = 4) → ¬ ((h.1 52 0)) = 0))
    (k2 : (¬ (5 : Int32) ≤ a8) → ((lg_cmp ((l1 >>> (a7.toInt64 &&& 63)) &&& 1) 1) = 0) → (¬ (f_MomayGo (h.1 52 0) (h.1 52 1) (h.1 52 4) (h.1 53) (h.1 54) (h.1 56) a7 a8 a3 a4) = 0) → jG E mX8_stepped (n + 4) X Post 23 [some (.ref 52), some (.long l1), none, some (.int a3), some (.int a4), some (.long (l5 ||| (1 <<< ((f_Moled (h.1 52 0) (h.1 52 1) a7 a8).toInt64 &&& 63)))), none, some (.int a7), some (.int (a8 + 1))] [] h)
    (k3 : (¬ (5 : Int32) ≤ a8) → (¬ (lg_cmp ((l1 >>> (a7.toInt64 &&& 63)) &&& 1) 1) = 0) → jG E mX8_stepped (n + 4) X Post 6 [some (.ref 52), some (.long l1), none, some (.int a3), some (.int a4), some (.long l5), none, some (.int (a7 + 1)), none] [] h)
    : jG E mX8_stepped (n + 4) X Post 23 [some (.ref 52), some (.long l1), none, some (.int a3), some (.int a4), some (.long l5), none, some (.int a7), some (.int a8)] [] h := by
  refine jr_iload (pc' := 25) (i := 8) dX8_stepped_23 rfl rfl ?_
  refine jr_iconst (pc' := 26) (v := 5) dX8_stepped_25 rfl (by decide) ?_
  by_cases c1 : (5 : Int32) ≤ a8
  · refine jr_icmp_geT (pc' := 79) dX8_stepped_26 rfl c1 ?_
    refine jr_iinc (pc' := 82) (i := 7) (v := (a7 + 1)) (lv' := [some (.ref 52), some (.long l1), none, some (.int a3), some (.int a4), some (.long l5), none, some (.int (a7 + 1)), some (.int a8)]) dX8_stepped_79 rfl rfl (congrArg (a7 + ·) (by decide)) (by decide) rfl ?_
    refine jr_goto (pc' := 6) dX8_stepped_82 rfl ?_
    exact jG.weak (lv' := [some (.ref 52), some (.long l1), none, some (.int a3), some (.int a4), some (.long l5), none, some (.int (a7 + 1)), none]) ⟨rfl, rfl, rfl, rfl, rfl, rfl, trivial⟩ (k0 c1)
  · refine jr_icmp_geF (pc' := 29) (tgt := 79) dX8_stepped_26 rfl rfl c1 ?_
    refine jr_lload_n (pc' := 30) (i := 1) dX8_stepped_29 rfl rfl rfl ?_
    refine jr_iload (pc' := 32) (i := 7) dX8_stepped_30 rfl rfl ?_
    refine jr_lshr (pc' := 33)  dX8_stepped_32 rfl  ?_
    refine jr_lconst (pc' := 34) (v := 1) dX8_stepped_33 rfl (by decide) ?_
    refine jr_land (pc' := 35)  dX8_stepped_34 rfl  ?_
    refine jr_lconst (pc' := 36) (v := 1) dX8_stepped_35 rfl (by decide) ?_
    refine jr_lcmp (pc' := 37)  dX8_stepped_36 rfl  ?_
    by_cases c2 : (lg_cmp ((l1 >>> (a7.toInt64 &&& 63)) &&& 1) 1) = 0
    · refine jr_if_neF (pc' := 40) (tgt := 79) dX8_stepped_37 rfl rfl c2 ?_
      refine jr_lload (pc' := 42) (i := 5) dX8_stepped_40 rfl rfl ?_
      refine jr_aload_n (pc' := 43) (i := 0) dX8_stepped_42 rfl rfl rfl ?_
      refine jr_iload (pc' := 45) (i := 7) dX8_stepped_43 rfl rfl ?_
      refine jr_iload (pc' := 47) (i := 8) dX8_stepped_45 rfl rfl ?_
      refine jr_iload_n (pc' := 48) (i := 3) dX8_stepped_47 rfl rfl rfl ?_
      refine jr_iload (pc' := 50) (i := 4) dX8_stepped_48 rfl rfl ?_
      refine jr_callV (pc' := 53) (k := 52) (av := [.int a7, .int a8, .int a3, .int a4]) (st := [.long l5]) sX8_mayGo wmX8_237 dX8_stepped_50 rfl (by decide) rfl (by decide) rfl rfl rfl (Nat.le_of_ble_eq_true rfl) rfl (c_MomayGo (n := n) a7 a8 a3 a4 h (b0 c1 c2) (b1 c1 c2) (b2 c1 c2) (b3 c1 c2) (b4 c1 c2) (b5 c1 c2) (b6 c1 c2) (b7 c1 c2)) (fun v h2 hp => ?_)
      rw [hp.1, hp.2]
      show jG E mX8_stepped (n + 4) X Post 53 [some (.ref 52), some (.long l1), none, some (.int a3), some (.int a4), some (.long l5), none, some (.int a7), some (.int a8)] [.int (f_MomayGo (h.1 52 0) (h.1 52 1) (h.1 52 4) (h.1 53) (h.1 54) (h.1 56) a7 a8 a3 a4), .long l5] h
      by_cases c3 : (f_MomayGo (h.1 52 0) (h.1 52 1) (h.1 52 4) (h.1 53) (h.1 54) (h.1 56) a7 a8 a3 a4) = 0
      · refine jr_if_eqT (pc' := 69) dX8_stepped_53 rfl c3 ?_
        refine jr_lconst (pc' := 70) (v := 0) dX8_stepped_69 rfl (by decide) ?_
        refine jr_lor (pc' := 71)  dX8_stepped_70 rfl  ?_
        refine jr_lstore (pc' := 73) (i := 5) (lv' := [some (.ref 52), some (.long l1), none, some (.int a3), some (.int a4), some (.long (l5 ||| 0)), none, some (.int a7), some (.int a8)]) dX8_stepped_71 rfl (by decide) rfl ?_
        refine jr_iinc (pc' := 76) (i := 8) (v := (a8 + 1)) (lv' := [some (.ref 52), some (.long l1), none, some (.int a3), some (.int a4), some (.long (l5 ||| 0)), none, some (.int a7), some (.int (a8 + 1))]) dX8_stepped_73 rfl rfl (congrArg (a8 + ·) (by decide)) (by decide) rfl ?_
        refine jr_goto (pc' := 23) dX8_stepped_76 rfl ?_
        exact jG.weak (lv' := [some (.ref 52), some (.long l1), none, some (.int a3), some (.int a4), some (.long (l5 ||| 0)), none, some (.int a7), some (.int (a8 + 1))]) ⟨rfl, rfl, rfl, rfl, rfl, rfl, rfl, trivial⟩ (k1 c1 c2 c3)
      · refine jr_if_eqF (pc' := 56) (tgt := 69) dX8_stepped_53 rfl rfl c3 ?_
        refine jr_lconst (pc' := 57) (v := 1) dX8_stepped_56 rfl (by decide) ?_
        refine jr_aload_n (pc' := 58) (i := 0) dX8_stepped_57 rfl rfl rfl ?_
        refine jr_iload (pc' := 60) (i := 7) dX8_stepped_58 rfl rfl ?_
        refine jr_iload (pc' := 62) (i := 8) dX8_stepped_60 rfl rfl ?_
        refine jr_callV (pc' := 65) (k := 52) (av := [.int a7, .int a8]) (st := [.long 1, .long l5]) sX8_led wmX8_231 dX8_stepped_62 rfl (by decide) rfl (by decide) rfl rfl rfl (Nat.le_of_ble_eq_true rfl) rfl (c_Moled (n := n + 1) a7 a8 h (b8 c1 c2 c3) (b9 c1 c2 c3) (b10 c1 c2 c3) (b11 c1 c2 c3)) (fun v h2 hp => ?_)
        rw [hp.1, hp.2]
        show jG E mX8_stepped (n + 4) X Post 65 [some (.ref 52), some (.long l1), none, some (.int a3), some (.int a4), some (.long l5), none, some (.int a7), some (.int a8)] [.int (f_Moled (h.1 52 0) (h.1 52 1) a7 a8), .long 1, .long l5] h
        refine jr_lshl (pc' := 66)  dX8_stepped_65 rfl  ?_
        refine jr_goto (pc' := 70) dX8_stepped_66 rfl ?_
        refine jr_lor (pc' := 71)  dX8_stepped_70 rfl  ?_
        refine jr_lstore (pc' := 73) (i := 5) (lv' := [some (.ref 52), some (.long l1), none, some (.int a3), some (.int a4), some (.long (l5 ||| (1 <<< ((f_Moled (h.1 52 0) (h.1 52 1) a7 a8).toInt64 &&& 63)))), none, some (.int a7), some (.int a8)]) dX8_stepped_71 rfl (by decide) rfl ?_
        refine jr_iinc (pc' := 76) (i := 8) (v := (a8 + 1)) (lv' := [some (.ref 52), some (.long l1), none, some (.int a3), some (.int a4), some (.long (l5 ||| (1 <<< ((f_Moled (h.1 52 0) (h.1 52 1) a7 a8).toInt64 &&& 63)))), none, some (.int a7), some (.int (a8 + 1))]) dX8_stepped_73 rfl rfl (congrArg (a8 + ·) (by decide)) (by decide) rfl ?_
        refine jr_goto (pc' := 23) dX8_stepped_76 rfl ?_
        exact jG.weak (lv' := [some (.ref 52), some (.long l1), none, some (.int a3), some (.int a4), some (.long (l5 ||| (1 <<< ((f_Moled (h.1 52 0) (h.1 52 1) a7 a8).toInt64 &&& 63)))), none, some (.int a7), some (.int (a8 + 1))]) ⟨rfl, rfl, rfl, rfl, rfl, rfl, rfl, trivial⟩ (k2 c1 c2 c3)
    · refine jr_if_neT (pc' := 79) dX8_stepped_37 rfl c2 ?_
      refine jr_iinc (pc' := 82) (i := 7) (v := (a7 + 1)) (lv' := [some (.ref 52), some (.long l1), none, some (.int a3), some (.int a4), some (.long l5), none, some (.int (a7 + 1)), some (.int a8)]) dX8_stepped_79 rfl rfl (congrArg (a7 + ·) (by decide)) (by decide) rfl ?_
      refine jr_goto (pc' := 6) dX8_stepped_82 rfl ?_
      exact jG.weak (lv' := [some (.ref 52), some (.long l1), none, some (.int a3), some (.int a4), some (.long l5), none, some (.int (a7 + 1)), none]) ⟨rfl, rfl, rfl, rfl, rfl, rfl, trivial⟩ (k3 c1 c2)

theorem q_MocanHear_0 {E : jEnv} {n : Nat} {X : State → Prop} {Post : Option Value → HP → Prop} (x : Int32) (y : Int32) (h : HP)
    (k0 : ((f_MoisMan (h.1 52 5) x) = 0) → Post (some (.int (-1000000001))) h)
    (k1 : (¬ (f_MoisMan (h.1 52 5) x) = 0) → ((f_MoisNews (h.1 52 6) y) = 0) → Post (some (.int (-1000000001))) h)
    (k2 : (¬ (f_MoisMan (h.1 52 5) x) = 0) → (¬ (f_MoisNews (h.1 52 6) y) = 0) → jCall E mX8_begins (n + 1) [.ref 52, .int y] h (fun v h2 => jG E mX8_canHear (n + 2) X Post 24 [some (.ref 52), some (.int x), some (.int y), none] (v.toList ++ []) h2))
    : jG E mX8_canHear (n + 2) X Post 0 [some (.ref 52), some (.int x), some (.int y), none] [] h := by
  refine jr_aload_n (pc' := 1) (i := 0) dX8_canHear_0 rfl rfl rfl ?_
  refine jr_iload_n (pc' := 2) (i := 1) dX8_canHear_1 rfl rfl rfl ?_
  refine jr_callV (pc' := 5) (k := 52) (av := [.int x]) (st := []) sX8_isMan wmX8_252 dX8_canHear_2 rfl (by decide) rfl (by decide) rfl rfl rfl (Nat.le_of_ble_eq_true rfl) rfl (c_MoisMan (n := n) x h ) (fun v h2 hp => ?_)
  rw [hp.1, hp.2]
  show jG E mX8_canHear (n + 2) X Post 5 [some (.ref 52), some (.int x), some (.int y), none] [.int (f_MoisMan (h.1 52 5) x)] h
  by_cases c1 : (f_MoisMan (h.1 52 5) x) = 0
  · refine jr_if_eqT (pc' := 16) dX8_canHear_5 rfl c1 ?_
    refine jr_ldc (pc' := 18) (v := (-1000000001)) dX8_canHear_16 rfl wcX8_249 ?_
    exact jr_iret dX8_canHear_18 rfl rfl (k0 c1)
  · refine jr_if_eqF (pc' := 8) (tgt := 16) dX8_canHear_5 rfl rfl c1 ?_
    refine jr_aload_n (pc' := 9) (i := 0) dX8_canHear_8 rfl rfl rfl ?_
    refine jr_iload_n (pc' := 10) (i := 2) dX8_canHear_9 rfl rfl rfl ?_
    refine jr_callV (pc' := 13) (k := 52) (av := [.int y]) (st := []) sX8_isNews wmX8_281 dX8_canHear_10 rfl (by decide) rfl (by decide) rfl rfl rfl (Nat.le_of_ble_eq_true rfl) rfl (c_MoisNews (n := n) y h ) (fun v h2 hp => ?_)
    rw [hp.1, hp.2]
    show jG E mX8_canHear (n + 2) X Post 13 [some (.ref 52), some (.int x), some (.int y), none] [.int (f_MoisNews (h.1 52 6) y)] h
    by_cases c2 : (f_MoisNews (h.1 52 6) y) = 0
    · refine jr_if_neF (pc' := 16) (tgt := 19) dX8_canHear_13 rfl rfl c2 ?_
      refine jr_ldc (pc' := 18) (v := (-1000000001)) dX8_canHear_16 rfl wcX8_249 ?_
      exact jr_iret dX8_canHear_18 rfl rfl (k1 c1 c2)
    · refine jr_if_neT (pc' := 19) dX8_canHear_13 rfl c2 ?_
      refine jr_aload_n (pc' := 20) (i := 0) dX8_canHear_19 rfl rfl rfl ?_
      refine jr_iload_n (pc' := 21) (i := 2) dX8_canHear_20 rfl rfl rfl ?_
      obtain ⟨P1, hC1, hK1⟩ := k2 c1 c2
      exact jr_callV (pc' := 24) (k := 52) (av := [.int y]) (st := []) sX8_begins wmX8_284 dX8_canHear_21 rfl (by decide) rfl (by decide) rfl rfl rfl (Nat.le_of_ble_eq_true rfl) rfl hC1 (fun v h2 hp => jG.weak (lv' := [some (.ref 52), some (.int x), some (.int y), none]) ⟨rfl, rfl, rfl, trivial⟩ (hK1 v h2 hp))

theorem q_MocanHear_24 {E : jEnv} {n : Nat} {X : State → Prop} {Post : Option Value → HP → Prop} (a1 : Int32) (a2 : Int32) (h : HP)
    (k0 : jG E mX8_canHear (n + 2) X Post 26 [some (.ref 52), some (.int a1), some (.int a2), some (.int 0)] [] h)
    : jG E mX8_canHear (n + 2) X Post 24 [some (.ref 52), some (.int a1), some (.int a2), none] [] h := by
  refine jr_iconst (pc' := 25) (v := 0) dX8_canHear_24 rfl (by decide) ?_
  refine jr_istore_n (pc' := 26) (i := 3) (lv' := [some (.ref 52), some (.int a1), some (.int a2), some (.int 0)]) dX8_canHear_25 rfl rfl (by decide) rfl ?_
  exact jG.weak (lv' := [some (.ref 52), some (.int a1), some (.int a2), some (.int 0)]) ⟨rfl, rfl, rfl, rfl, trivial⟩ (k0)

theorem q_MocanHear_26 {E : jEnv} {n : Nat} {X : State → Prop} {Post : Option Value → HP → Prop} (a1 : Int32) (a2 : Int32) (a3 : Int32) (h : HP)
    (k0 : ((40 : Int32) < a3) → Post (some (.int (-1))) h)
    (b0 : (¬ (40 : Int32) < a3) → vp_in a1 4)
    (k1 : (¬ (40 : Int32) < a3) → ((lg_cmp (h.2 67 a1.toNatClampNeg) 0) = 0) → jCall E mX8_comes (n + 1) [.ref 52, .int a2, .int (((h.1 56 0) + a3) + 1)] h (fun v h2 => jG E mX8_canHear (n + 2) X Post 60 [some (.ref 52), some (.int a1), some (.int a2), some (.int a3)] (v.toList ++ []) h2))
    (k2 : (¬ (40 : Int32) < a3) → (¬ (lg_cmp (h.2 67 a1.toNatClampNeg) 0) = 0) → Post (some (.int a3)) h)
    : jG E mX8_canHear (n + 2) X Post 26 [some (.ref 52), some (.int a1), some (.int a2), some (.int a3)] [] h := by
  refine jr_iload_n (pc' := 27) (i := 3) dX8_canHear_26 rfl rfl rfl ?_
  refine jr_bipush (pc' := 29) (v := 40) dX8_canHear_27 rfl (by decide) ?_
  by_cases c1 : (40 : Int32) < a3
  · refine jr_icmp_gtT (pc' := 66) dX8_canHear_29 rfl c1 ?_
    refine jr_iconst (pc' := 67) (v := (-1)) dX8_canHear_66 rfl (by decide) ?_
    exact jr_iret dX8_canHear_67 rfl rfl (k0 c1)
  · refine jr_icmp_gtF (pc' := 32) (tgt := 66) dX8_canHear_29 rfl rfl c1 ?_
    refine jr_aload_n (pc' := 33) (i := 0) dX8_canHear_32 rfl rfl rfl ?_
    refine jr_get (pc' := 36) jK8 (k := 52) (j := 39) (v := .ref 67) wfX8_54 dX8_canHear_33 rfl (by decide) rfl (by decide) rfl ?_
    refine jr_iload_n (pc' := 37) (i := 1) dX8_canHear_36 rfl rfl rfl ?_
    refine jr_lald (pc' := 38) (v := h.2 67 a1.toNatClampNeg) dX8_canHear_37 rfl (by decide) rfl (b0 c1) rfl ?_
    refine jr_lconst (pc' := 39) (v := 0) dX8_canHear_38 rfl (by decide) ?_
    refine jr_lcmp (pc' := 40)  dX8_canHear_39 rfl  ?_
    by_cases c2 : (lg_cmp (h.2 67 a1.toNatClampNeg) 0) = 0
    · refine jr_if_eqT (pc' := 45) dX8_canHear_40 rfl c2 ?_
      refine jr_aload_n (pc' := 46) (i := 0) dX8_canHear_45 rfl rfl rfl ?_
      refine jr_iload_n (pc' := 47) (i := 2) dX8_canHear_46 rfl rfl rfl ?_
      refine jr_aload_n (pc' := 48) (i := 0) dX8_canHear_47 rfl rfl rfl ?_
      refine jr_get (pc' := 51) jK8 (k := 52) (j := 9) (v := .ref 56) wfX8_19 dX8_canHear_48 rfl (by decide) rfl (by decide) rfl ?_
      refine jr_iconst (pc' := 52) (v := 0) dX8_canHear_51 rfl (by decide) ?_
      refine jr_iald (pc' := 53) (v := h.1 56 0) dX8_canHear_52 rfl (by decide) rfl (jvin (by decide)) ((congrArg (h.1 56) (by decide : (0 : Int32).toNatClampNeg = 0)).trans rfl) ?_
      refine jr_iload_n (pc' := 54) (i := 3) dX8_canHear_53 rfl rfl rfl ?_
      refine jr_iadd (pc' := 55)  dX8_canHear_54 rfl  ?_
      refine jr_iconst (pc' := 56) (v := 1) dX8_canHear_55 rfl (by decide) ?_
      refine jr_iadd (pc' := 57)  dX8_canHear_56 rfl  ?_
      obtain ⟨P1, hC1, hK1⟩ := k1 c1 c2
      exact jr_callV (pc' := 60) (k := 52) (av := [.int a2, .int (((h.1 56 0) + a3) + 1)]) (st := []) sX8_comes wmX8_287 dX8_canHear_57 rfl (by decide) rfl (by decide) rfl rfl rfl (Nat.le_of_ble_eq_true rfl) rfl hC1 (fun v h2 hp => jG.weak (lv' := [some (.ref 52), some (.int a1), some (.int a2), some (.int a3)]) ⟨rfl, rfl, rfl, rfl, trivial⟩ (hK1 v h2 hp))
    · refine jr_if_eqF (pc' := 43) (tgt := 45) dX8_canHear_40 rfl rfl c2 ?_
      refine jr_iload_n (pc' := 44) (i := 3) dX8_canHear_43 rfl rfl rfl ?_
      exact jr_iret dX8_canHear_44 rfl rfl (k2 c1 c2)

theorem q_MocanHear_60 {E : jEnv} {n : Nat} {X : State → Prop} {Post : Option Value → HP → Prop} (a1 : Int32) (a2 : Int32) (a3 : Int32) (h : HP)
    (k0 : jG E mX8_canHear (n + 2) X Post 26 [some (.ref 52), some (.int a1), some (.int a2), some (.int (a3 + 1))] [] h)
    : jG E mX8_canHear (n + 2) X Post 60 [some (.ref 52), some (.int a1), some (.int a2), some (.int a3)] [] h := by
  refine jr_iinc (pc' := 63) (i := 3) (v := (a3 + 1)) (lv' := [some (.ref 52), some (.int a1), some (.int a2), some (.int (a3 + 1))]) dX8_canHear_60 rfl rfl (congrArg (a3 + ·) (by decide)) (by decide) rfl ?_
  refine jr_goto (pc' := 26) dX8_canHear_63 rfl ?_
  exact jG.weak (lv' := [some (.ref 52), some (.int a1), some (.int a2), some (.int (a3 + 1))]) ⟨rfl, rfl, rfl, rfl, trivial⟩ (k0)

theorem q_Mobegins_0 {E : jEnv} {n : Nat} {X : State → Prop} {Post : Option Value → HP → Prop} (x : Int32) (h : HP)
    (k0 : jG E mX8_begins (n + 1) X Post 2 [some (.ref 52), some (.int x), some (.int 0)] [] h)
    : jG E mX8_begins (n + 1) X Post 0 [some (.ref 52), some (.int x), none] [] h := by
  refine jr_iconst (pc' := 1) (v := 0) dX8_begins_0 rfl (by decide) ?_
  refine jr_istore_n (pc' := 2) (i := 2) (lv' := [some (.ref 52), some (.int x), some (.int 0)]) dX8_begins_1 rfl rfl (by decide) rfl ?_
  exact jG.weak (lv' := [some (.ref 52), some (.int x), some (.int 0)]) ⟨rfl, rfl, rfl, trivial⟩ (k0)

theorem q_Mobegins_2 {E : jEnv} {n : Nat} {X : State → Prop} {Post : Option Value → HP → Prop} (a1 : Int32) (a2 : Int32) (h : HP)
    (k0 : ((h.1 52 5) ≤ a2) → jCall E mX8_shares n [.ref 52, .int a1] h (fun v h2 => jG E mX8_begins (n + 1) X Post 71 [none, none, none] (v.toList ++ []) h2))
    (b0 : (¬ (h.1 52 5) ≤ a2) → (vp_in ((2 + (6 * a2)) + 1) 62))
    (b1 : (¬ (h.1 52 5) ≤ a2) → (vp_in (2 + (6 * a2)) 62))
    (b2 : (¬ (h.1 52 5) ≤ a2) → vp_in a2 4)
    (b3 : (¬ (h.1 52 5) ≤ a2) → vp_in ((2 + (6 * a2)) + 3) 62)
    (b4 : (¬ (h.1 52 5) ≤ a2) → ((((h.1 56 (((2 + (6 * a2)) + 3).toNatClampNeg)) >>> (a1 &&& 31)) &&& 1) = 1) → vp_in a2 4)
    (b5 : (¬ (h.1 52 5) ≤ a2) → ((((h.1 56 (((2 + (6 * a2)) + 3).toNatClampNeg)) >>> (a1 &&& 31)) &&& 1) = 1) → vp_in a2 4)
    (k1 : (¬ (h.1 52 5) ≤ a2) → ((((h.1 56 (((2 + (6 * a2)) + 3).toNatClampNeg)) >>> (a1 &&& 31)) &&& 1) = 1) → jG E mX8_begins (n + 1) X Post 2 [some (.ref 52), some (.int a1), some (.int (a2 + 1))] [] (jPL (jPL h 66 a2.toNatClampNeg (1 <<< ((f_MospotOf (h.1 52 0) (h.1 56) a2).toInt64 &&& 63))) 67 a2.toNatClampNeg (1 <<< ((f_MospotOf (h.1 52 0) (h.1 56) a2).toInt64 &&& 63))))
    (b6 : (¬ (h.1 52 5) ≤ a2) → (¬ (((h.1 56 (((2 + (6 * a2)) + 3).toNatClampNeg)) >>> (a1 &&& 31)) &&& 1) = 1) → vp_in a2 4)
    (k2 : (¬ (h.1 52 5) ≤ a2) → (¬ (((h.1 56 (((2 + (6 * a2)) + 3).toNatClampNeg)) >>> (a1 &&& 31)) &&& 1) = 1) → jG E mX8_begins (n + 1) X Post 2 [some (.ref 52), some (.int a1), some (.int (a2 + 1))] [] (jPL (jPL h 66 a2.toNatClampNeg (1 <<< ((f_MospotOf (h.1 52 0) (h.1 56) a2).toInt64 &&& 63))) 67 a2.toNatClampNeg 0))
    : jG E mX8_begins (n + 1) X Post 2 [some (.ref 52), some (.int a1), some (.int a2)] [] h := by
  refine jr_iload_n (pc' := 3) (i := 2) dX8_begins_2 rfl rfl rfl ?_
  refine jr_aload_n (pc' := 4) (i := 0) dX8_begins_3 rfl rfl rfl ?_
  refine jr_get (pc' := 7) jK8 (k := 52) (j := 5) (v := .int (h.1 52 5)) wfX8_86 dX8_begins_4 rfl (by decide) rfl (by decide) rfl ?_
  by_cases c1 : (h.1 52 5) ≤ a2
  · refine jr_icmp_geT (pc' := 66) dX8_begins_7 rfl c1 ?_
    refine jr_aload_n (pc' := 67) (i := 0) dX8_begins_66 rfl rfl rfl ?_
    refine jr_iload_n (pc' := 68) (i := 1) dX8_begins_67 rfl rfl rfl ?_
    obtain ⟨P1, hC1, hK1⟩ := k0 c1
    exact jr_callV (pc' := 71) (k := 52) (av := [.int a1]) (st := []) sX8_shares wmX8_270 dX8_begins_68 rfl (by decide) rfl (by decide) rfl rfl rfl (Nat.le_of_ble_eq_true rfl) rfl hC1 (fun v h2 hp => jG.weak (lv' := [none, none, none]) trivial (hK1 v h2 hp))
  · refine jr_icmp_geF (pc' := 10) (tgt := 66) dX8_begins_7 rfl rfl c1 ?_
    refine jr_aload_n (pc' := 11) (i := 0) dX8_begins_10 rfl rfl rfl ?_
    refine jr_get (pc' := 14) jK8 (k := 52) (j := 38) (v := .ref 66) wfX8_50 dX8_begins_11 rfl (by decide) rfl (by decide) rfl ?_
    refine jr_iload_n (pc' := 15) (i := 2) dX8_begins_14 rfl rfl rfl ?_
    refine jr_lconst (pc' := 16) (v := 1) dX8_begins_15 rfl (by decide) ?_
    refine jr_aload_n (pc' := 17) (i := 0) dX8_begins_16 rfl rfl rfl ?_
    refine jr_iload_n (pc' := 18) (i := 2) dX8_begins_17 rfl rfl rfl ?_
    refine jr_callV (pc' := 21) (k := 52) (av := [.int a2]) (st := [.long 1, .int a2, .ref 66]) sX8_spotOf wmX8_223 dX8_begins_18 rfl (by decide) rfl (by decide) rfl rfl rfl (Nat.le_of_ble_eq_true rfl) rfl (c_MospotOf (n := n) a2 h (b0 c1) (b1 c1)) (fun v h2 hp => ?_)
    rw [hp.1, hp.2]
    show jG E mX8_begins (n + 1) X Post 21 [some (.ref 52), some (.int a1), some (.int a2)] [.int (f_MospotOf (h.1 52 0) (h.1 56) a2), .long 1, .int a2, .ref 66] h
    refine jr_lshl (pc' := 22)  dX8_begins_21 rfl  ?_
    refine jr_last (pc' := 23) (j := a2.toNatClampNeg) dX8_begins_22 rfl (by decide) rfl (b2 c1) rfl ?_
    refine jr_aload_n (pc' := 24) (i := 0) dX8_begins_23 rfl rfl rfl ?_
    refine jr_get (pc' := 27) jK8 (k := 52) (j := 39) (v := .ref 67) wfX8_54 dX8_begins_24 rfl (by decide) rfl (by decide) rfl ?_
    refine jr_iload_n (pc' := 28) (i := 2) dX8_begins_27 rfl rfl rfl ?_
    refine jr_aload_n (pc' := 29) (i := 0) dX8_begins_28 rfl rfl rfl ?_
    refine jr_get (pc' := 32) jK8 (k := 52) (j := 9) (v := .ref 56) wfX8_19 dX8_begins_29 rfl (by decide) rfl (by decide) rfl ?_
    refine jr_iconst (pc' := 33) (v := 2) dX8_begins_32 rfl (by decide) ?_
    refine jr_bipush (pc' := 35) (v := 6) dX8_begins_33 rfl (by decide) ?_
    refine jr_iload_n (pc' := 36) (i := 2) dX8_begins_35 rfl rfl rfl ?_
    refine jr_imul (pc' := 37)  dX8_begins_36 rfl  ?_
    refine jr_iadd (pc' := 38)  dX8_begins_37 rfl  ?_
    refine jr_iconst (pc' := 39) (v := 3) dX8_begins_38 rfl (by decide) ?_
    refine jr_iadd (pc' := 40)  dX8_begins_39 rfl  ?_
    refine jr_iald (pc' := 41) (v := h.1 56 (((2 + (6 * a2)) + 3).toNatClampNeg)) dX8_begins_40 rfl (by decide) rfl (b3 c1) rfl ?_
    refine jr_iload_n (pc' := 42) (i := 1) dX8_begins_41 rfl rfl rfl ?_
    refine jr_ishr (pc' := 43)  dX8_begins_42 rfl  ?_
    refine jr_iconst (pc' := 44) (v := 1) dX8_begins_43 rfl (by decide) ?_
    refine jr_iand (pc' := 45)  dX8_begins_44 rfl  ?_
    refine jr_iconst (pc' := 46) (v := 1) dX8_begins_45 rfl (by decide) ?_
    by_cases c2 : (((h.1 56 (((2 + (6 * a2)) + 3).toNatClampNeg)) >>> (a1 &&& 31)) &&& 1) = 1
    · refine jr_icmp_neF (pc' := 49) (tgt := 58) dX8_begins_46 rfl rfl c2 ?_
      refine jr_aload_n (pc' := 50) (i := 0) dX8_begins_49 rfl rfl rfl ?_
      refine jr_get (pc' := 53) jK8 (k := 52) (j := 38) (v := .ref 66) wfX8_50 dX8_begins_50 rfl (by decide) rfl (by decide) rfl ?_
      refine jr_iload_n (pc' := 54) (i := 2) dX8_begins_53 rfl rfl rfl ?_
      refine jr_lald (pc' := 55) (v := (1 <<< ((f_MospotOf (h.1 52 0) (h.1 56) a2).toInt64 &&& 63))) dX8_begins_54 rfl (by decide) rfl (b4 c1 c2) (jPL_at (h := h) (k := 66) (j := a2.toNatClampNeg) (x := (1 <<< ((f_MospotOf (h.1 52 0) (h.1 56) a2).toInt64 &&& 63)))) ?_
      refine jr_goto (pc' := 59) dX8_begins_55 rfl ?_
      refine jr_last (pc' := 60) (j := a2.toNatClampNeg) dX8_begins_59 rfl (by decide) rfl (b5 c1 c2) rfl ?_
      refine jr_iinc (pc' := 63) (i := 2) (v := (a2 + 1)) (lv' := [some (.ref 52), some (.int a1), some (.int (a2 + 1))]) dX8_begins_60 rfl rfl (congrArg (a2 + ·) (by decide)) (by decide) rfl ?_
      refine jr_goto (pc' := 2) dX8_begins_63 rfl ?_
      exact jG.weak (lv' := [some (.ref 52), some (.int a1), some (.int (a2 + 1))]) ⟨rfl, rfl, rfl, trivial⟩ (k1 c1 c2)
    · refine jr_icmp_neT (pc' := 58) dX8_begins_46 rfl c2 ?_
      refine jr_lconst (pc' := 59) (v := 0) dX8_begins_58 rfl (by decide) ?_
      refine jr_last (pc' := 60) (j := a2.toNatClampNeg) dX8_begins_59 rfl (by decide) rfl (b6 c1 c2) rfl ?_
      refine jr_iinc (pc' := 63) (i := 2) (v := (a2 + 1)) (lv' := [some (.ref 52), some (.int a1), some (.int (a2 + 1))]) dX8_begins_60 rfl rfl (congrArg (a2 + ·) (by decide)) (by decide) rfl ?_
      refine jr_goto (pc' := 2) dX8_begins_63 rfl ?_
      exact jG.weak (lv' := [some (.ref 52), some (.int a1), some (.int (a2 + 1))]) ⟨rfl, rfl, rfl, trivial⟩ (k2 c1 c2)

theorem q_Mobegins_71 {E : jEnv} {n : Nat} {X : State → Prop} {Post : Option Value → HP → Prop}  (h : HP)
    (k0 : Post none h)
    : jG E mX8_begins (n + 1) X Post 71 [none, none, none] [] h := by
  exact jr_vret dX8_begins_71 rfl (k0)

theorem q_Moshares_0 {E : jEnv} {n : Nat} {X : State → Prop} {Post : Option Value → HP → Prop} (x : Int32) (h : HP)
    (k0 : jG E mX8_shares n X Post 5 [some (.ref 52), some (.int x), some (.long 0), none, some (.int 0)] [] h)
    : jG E mX8_shares n X Post 0 [some (.ref 52), some (.int x), none, none, none] [] h := by
  refine jr_lconst (pc' := 1) (v := 0) dX8_shares_0 rfl (by decide) ?_
  refine jr_lstore_n (pc' := 2) (i := 2) (lv' := [some (.ref 52), some (.int x), some (.long 0), none, none]) dX8_shares_1 rfl rfl (by decide) rfl ?_
  refine jr_iconst (pc' := 3) (v := 0) dX8_shares_2 rfl (by decide) ?_
  refine jr_istore (pc' := 5) (i := 4) (lv' := [some (.ref 52), some (.int x), some (.long 0), none, some (.int 0)]) dX8_shares_3 rfl (by decide) rfl ?_
  exact jG.weak (lv' := [some (.ref 52), some (.int x), some (.long 0), none, some (.int 0)]) ⟨rfl, rfl, rfl, rfl, trivial⟩ (k0)

theorem q_Moshares_5 {E : jEnv} {n : Nat} {X : State → Prop} {Post : Option Value → HP → Prop} (a1 : Int32) (l2 : Int64) (a4 : Int32) (h : HP)
    (k0 : ((h.1 52 5) ≤ a4) → jG E mX8_shares n X Post 59 [some (.ref 52), none, some (.long l2), none, some (.int 0)] [] h)
    (b0 : (¬ (h.1 52 5) ≤ a4) → vp_in a4 4)
    (b1 : (¬ (h.1 52 5) ≤ a4) → vp_in a4 4)
    (b2 : (¬ (h.1 52 5) ≤ a4) → vp_in a1 4)
    (b3 : (¬ (h.1 52 5) ≤ a4) → vp_in a4 4)
    (b4 : (¬ (h.1 52 5) ≤ a4) → vp_in a4 4)
    (k1 : (¬ (h.1 52 5) ≤ a4) → jG E mX8_shares n X Post 5 [some (.ref 52), some (.int a1), some (.long (l2 ||| ((h.2 67 a4.toNatClampNeg) ||| ((h.2 66 a4.toNatClampNeg) &&& (1 <<< ((h.1 55 a1.toNatClampNeg).toInt64 &&& 63)))))), none, some (.int (a4 + 1))] [] (jPL h 67 a4.toNatClampNeg ((h.2 67 a4.toNatClampNeg) ||| ((h.2 66 a4.toNatClampNeg) &&& (1 <<< ((h.1 55 a1.toNatClampNeg).toInt64 &&& 63))))))
    : jG E mX8_shares n X Post 5 [some (.ref 52), some (.int a1), some (.long l2), none, some (.int a4)] [] h := by
  refine jr_iload (pc' := 7) (i := 4) dX8_shares_5 rfl rfl ?_
  refine jr_aload_n (pc' := 8) (i := 0) dX8_shares_7 rfl rfl rfl ?_
  refine jr_get (pc' := 11) jK8 (k := 52) (j := 5) (v := .int (h.1 52 5)) wfX8_86 dX8_shares_8 rfl (by decide) rfl (by decide) rfl ?_
  by_cases c1 : (h.1 52 5) ≤ a4
  · refine jr_icmp_geT (pc' := 56) dX8_shares_11 rfl c1 ?_
    refine jr_iconst (pc' := 57) (v := 0) dX8_shares_56 rfl (by decide) ?_
    refine jr_istore (pc' := 59) (i := 4) (lv' := [some (.ref 52), some (.int a1), some (.long l2), none, some (.int 0)]) dX8_shares_57 rfl (by decide) rfl ?_
    exact jG.weak (lv' := [some (.ref 52), none, some (.long l2), none, some (.int 0)]) ⟨rfl, rfl, rfl, trivial⟩ (k0 c1)
  · refine jr_icmp_geF (pc' := 14) (tgt := 56) dX8_shares_11 rfl rfl c1 ?_
    refine jr_aload_n (pc' := 15) (i := 0) dX8_shares_14 rfl rfl rfl ?_
    refine jr_get (pc' := 18) jK8 (k := 52) (j := 39) (v := .ref 67) wfX8_54 dX8_shares_15 rfl (by decide) rfl (by decide) rfl ?_
    refine jr_iload (pc' := 20) (i := 4) dX8_shares_18 rfl rfl ?_
    refine jr_dup2 (pc' := 21)  dX8_shares_20 rfl rfl rfl ?_
    refine jr_lald (pc' := 22) (v := h.2 67 a4.toNatClampNeg) dX8_shares_21 rfl (by decide) rfl (b0 c1) rfl ?_
    refine jr_aload_n (pc' := 23) (i := 0) dX8_shares_22 rfl rfl rfl ?_
    refine jr_get (pc' := 26) jK8 (k := 52) (j := 38) (v := .ref 66) wfX8_50 dX8_shares_23 rfl (by decide) rfl (by decide) rfl ?_
    refine jr_iload (pc' := 28) (i := 4) dX8_shares_26 rfl rfl ?_
    refine jr_lald (pc' := 29) (v := h.2 66 a4.toNatClampNeg) dX8_shares_28 rfl (by decide) rfl (b1 c1) rfl ?_
    refine jr_lconst (pc' := 30) (v := 1) dX8_shares_29 rfl (by decide) ?_
    refine jr_aload_n (pc' := 31) (i := 0) dX8_shares_30 rfl rfl rfl ?_
    refine jr_get (pc' := 34) jK8 (k := 52) (j := 7) (v := .ref 55) wfX8_16 dX8_shares_31 rfl (by decide) rfl (by decide) rfl ?_
    refine jr_iload_n (pc' := 35) (i := 1) dX8_shares_34 rfl rfl rfl ?_
    refine jr_iald (pc' := 36) (v := h.1 55 a1.toNatClampNeg) dX8_shares_35 rfl (by decide) rfl (b2 c1) rfl ?_
    refine jr_lshl (pc' := 37)  dX8_shares_36 rfl  ?_
    refine jr_land (pc' := 38)  dX8_shares_37 rfl  ?_
    refine jr_lor (pc' := 39)  dX8_shares_38 rfl  ?_
    refine jr_last (pc' := 40) (j := a4.toNatClampNeg) dX8_shares_39 rfl (by decide) rfl (b3 c1) rfl ?_
    refine jr_lload_n (pc' := 41) (i := 2) dX8_shares_40 rfl rfl rfl ?_
    refine jr_aload_n (pc' := 42) (i := 0) dX8_shares_41 rfl rfl rfl ?_
    refine jr_get (pc' := 45) jK8 (k := 52) (j := 39) (v := .ref 67) wfX8_54 dX8_shares_42 rfl (by decide) rfl (by decide) rfl ?_
    refine jr_iload (pc' := 47) (i := 4) dX8_shares_45 rfl rfl ?_
    refine jr_lald (pc' := 48) (v := ((h.2 67 a4.toNatClampNeg) ||| ((h.2 66 a4.toNatClampNeg) &&& (1 <<< ((h.1 55 a1.toNatClampNeg).toInt64 &&& 63))))) dX8_shares_47 rfl (by decide) rfl (b4 c1) (jPL_at (h := h) (k := 67) (j := a4.toNatClampNeg) (x := ((h.2 67 a4.toNatClampNeg) ||| ((h.2 66 a4.toNatClampNeg) &&& (1 <<< ((h.1 55 a1.toNatClampNeg).toInt64 &&& 63)))))) ?_
    refine jr_lor (pc' := 49)  dX8_shares_48 rfl  ?_
    refine jr_lstore_n (pc' := 50) (i := 2) (lv' := [some (.ref 52), some (.int a1), some (.long (l2 ||| ((h.2 67 a4.toNatClampNeg) ||| ((h.2 66 a4.toNatClampNeg) &&& (1 <<< ((h.1 55 a1.toNatClampNeg).toInt64 &&& 63)))))), none, some (.int a4)]) dX8_shares_49 rfl rfl (by decide) rfl ?_
    refine jr_iinc (pc' := 53) (i := 4) (v := (a4 + 1)) (lv' := [some (.ref 52), some (.int a1), some (.long (l2 ||| ((h.2 67 a4.toNatClampNeg) ||| ((h.2 66 a4.toNatClampNeg) &&& (1 <<< ((h.1 55 a1.toNatClampNeg).toInt64 &&& 63)))))), none, some (.int (a4 + 1))]) dX8_shares_50 rfl rfl (congrArg (a4 + ·) (by decide)) (by decide) rfl ?_
    refine jr_goto (pc' := 5) dX8_shares_53 rfl ?_
    exact jG.weak (lv' := [some (.ref 52), some (.int a1), some (.long (l2 ||| ((h.2 67 a4.toNatClampNeg) ||| ((h.2 66 a4.toNatClampNeg) &&& (1 <<< ((h.1 55 a1.toNatClampNeg).toInt64 &&& 63)))))), none, some (.int (a4 + 1))]) ⟨rfl, rfl, rfl, rfl, trivial⟩ (k1 c1)

theorem q_Moshares_59 {E : jEnv} {n : Nat} {X : State → Prop} {Post : Option Value → HP → Prop} (l2 : Int64) (a4 : Int32) (h : HP)
    (k0 : ((h.1 52 5) ≤ a4) → Post none h)
    (b0 : (¬ (h.1 52 5) ≤ a4) → vp_in a4 4)
    (b1 : (¬ (h.1 52 5) ≤ a4) → vp_in a4 4)
    (b2 : (¬ (h.1 52 5) ≤ a4) → vp_in a4 4)
    (k1 : (¬ (h.1 52 5) ≤ a4) → jG E mX8_shares n X Post 59 [some (.ref 52), none, some (.long l2), none, some (.int (a4 + 1))] [] (jPL h 67 a4.toNatClampNeg ((h.2 67 a4.toNatClampNeg) ||| ((h.2 66 a4.toNatClampNeg) &&& l2))))
    : jG E mX8_shares n X Post 59 [some (.ref 52), none, some (.long l2), none, some (.int a4)] [] h := by
  refine jr_iload (pc' := 61) (i := 4) dX8_shares_59 rfl rfl ?_
  refine jr_aload_n (pc' := 62) (i := 0) dX8_shares_61 rfl rfl rfl ?_
  refine jr_get (pc' := 65) jK8 (k := 52) (j := 5) (v := .int (h.1 52 5)) wfX8_86 dX8_shares_62 rfl (by decide) rfl (by decide) rfl ?_
  by_cases c1 : (h.1 52 5) ≤ a4
  · refine jr_icmp_geT (pc' := 93) dX8_shares_65 rfl c1 ?_
    exact jr_vret dX8_shares_93 rfl (k0 c1)
  · refine jr_icmp_geF (pc' := 68) (tgt := 93) dX8_shares_65 rfl rfl c1 ?_
    refine jr_aload_n (pc' := 69) (i := 0) dX8_shares_68 rfl rfl rfl ?_
    refine jr_get (pc' := 72) jK8 (k := 52) (j := 39) (v := .ref 67) wfX8_54 dX8_shares_69 rfl (by decide) rfl (by decide) rfl ?_
    refine jr_iload (pc' := 74) (i := 4) dX8_shares_72 rfl rfl ?_
    refine jr_dup2 (pc' := 75)  dX8_shares_74 rfl rfl rfl ?_
    refine jr_lald (pc' := 76) (v := h.2 67 a4.toNatClampNeg) dX8_shares_75 rfl (by decide) rfl (b0 c1) rfl ?_
    refine jr_aload_n (pc' := 77) (i := 0) dX8_shares_76 rfl rfl rfl ?_
    refine jr_get (pc' := 80) jK8 (k := 52) (j := 38) (v := .ref 66) wfX8_50 dX8_shares_77 rfl (by decide) rfl (by decide) rfl ?_
    refine jr_iload (pc' := 82) (i := 4) dX8_shares_80 rfl rfl ?_
    refine jr_lald (pc' := 83) (v := h.2 66 a4.toNatClampNeg) dX8_shares_82 rfl (by decide) rfl (b1 c1) rfl ?_
    refine jr_lload_n (pc' := 84) (i := 2) dX8_shares_83 rfl rfl rfl ?_
    refine jr_land (pc' := 85)  dX8_shares_84 rfl  ?_
    refine jr_lor (pc' := 86)  dX8_shares_85 rfl  ?_
    refine jr_last (pc' := 87) (j := a4.toNatClampNeg) dX8_shares_86 rfl (by decide) rfl (b2 c1) rfl ?_
    refine jr_iinc (pc' := 90) (i := 4) (v := (a4 + 1)) (lv' := [some (.ref 52), none, some (.long l2), none, some (.int (a4 + 1))]) dX8_shares_87 rfl rfl (congrArg (a4 + ·) (by decide)) (by decide) rfl ?_
    refine jr_goto (pc' := 59) dX8_shares_90 rfl ?_
    exact jG.weak (lv' := [some (.ref 52), none, some (.long l2), none, some (.int (a4 + 1))]) ⟨rfl, rfl, rfl, trivial⟩ (k1 c1)

theorem q_Mocomes_0 {E : jEnv} {n : Nat} {X : State → Prop} {Post : Option Value → HP → Prop} (x : Int32) (y : Int32) (h : HP)
    (k0 : jG E mX8_comes (n + 1) X Post 2 [some (.ref 52), some (.int x), some (.int y), some (.int 0)] [] h)
    : jG E mX8_comes (n + 1) X Post 0 [some (.ref 52), some (.int x), some (.int y), none] [] h := by
  refine jr_iconst (pc' := 1) (v := 0) dX8_comes_0 rfl (by decide) ?_
  refine jr_istore_n (pc' := 2) (i := 3) (lv' := [some (.ref 52), some (.int x), some (.int y), some (.int 0)]) dX8_comes_1 rfl rfl (by decide) rfl ?_
  exact jG.weak (lv' := [some (.ref 52), some (.int x), some (.int y), some (.int 0)]) ⟨rfl, rfl, rfl, rfl, trivial⟩ (k0)

theorem q_Mocomes_2 {E : jEnv} {n : Nat} {X : State → Prop} {Post : Option Value → HP → Prop} (a1 : Int32) (a2 : Int32) (a3 : Int32) (h : HP)
    (k0 : ((h.1 52 5) ≤ a3) → jCall E mX8_shares n [.ref 52, .int a1] h (fun v h2 => jG E mX8_comes (n + 1) X Post 81 [none, none, none, none] (v.toList ++ []) h2))
    (b0 : (¬ (h.1 52 5) ≤ a3) → vp_in a3 4)
    (b1 : (¬ (h.1 52 5) ≤ a3) → vp_in ((2 + (6 * a3)) + 2) 62)
    (k1 : (¬ (h.1 52 5) ≤ a3) → jCall E mX8_stepped n [.ref 52, .long (h.2 66 a3.toNatClampNeg), .int (h.1 56 (((2 + (6 * a3)) + 2).toNatClampNeg)), .int a2] h (fun v h2 => jG E mX8_comes (n + 1) X Post 39 [some (.ref 52), some (.int a1), some (.int a2), some (.int a3)] (v.toList ++ [.int a3, .ref 66]) h2))
    : jG E mX8_comes (n + 1) X Post 2 [some (.ref 52), some (.int a1), some (.int a2), some (.int a3)] [] h := by
  refine jr_iload_n (pc' := 3) (i := 3) dX8_comes_2 rfl rfl rfl ?_
  refine jr_aload_n (pc' := 4) (i := 0) dX8_comes_3 rfl rfl rfl ?_
  refine jr_get (pc' := 7) jK8 (k := 52) (j := 5) (v := .int (h.1 52 5)) wfX8_86 dX8_comes_4 rfl (by decide) rfl (by decide) rfl ?_
  by_cases c1 : (h.1 52 5) ≤ a3
  · refine jr_icmp_geT (pc' := 76) dX8_comes_7 rfl c1 ?_
    refine jr_aload_n (pc' := 77) (i := 0) dX8_comes_76 rfl rfl rfl ?_
    refine jr_iload_n (pc' := 78) (i := 1) dX8_comes_77 rfl rfl rfl ?_
    obtain ⟨P1, hC1, hK1⟩ := k0 c1
    exact jr_callV (pc' := 81) (k := 52) (av := [.int a1]) (st := []) sX8_shares wmX8_270 dX8_comes_78 rfl (by decide) rfl (by decide) rfl rfl rfl (Nat.le_of_ble_eq_true rfl) rfl hC1 (fun v h2 hp => jG.weak (lv' := [none, none, none, none]) trivial (hK1 v h2 hp))
  · refine jr_icmp_geF (pc' := 10) (tgt := 76) dX8_comes_7 rfl rfl c1 ?_
    refine jr_aload_n (pc' := 11) (i := 0) dX8_comes_10 rfl rfl rfl ?_
    refine jr_get (pc' := 14) jK8 (k := 52) (j := 38) (v := .ref 66) wfX8_50 dX8_comes_11 rfl (by decide) rfl (by decide) rfl ?_
    refine jr_iload_n (pc' := 15) (i := 3) dX8_comes_14 rfl rfl rfl ?_
    refine jr_aload_n (pc' := 16) (i := 0) dX8_comes_15 rfl rfl rfl ?_
    refine jr_aload_n (pc' := 17) (i := 0) dX8_comes_16 rfl rfl rfl ?_
    refine jr_get (pc' := 20) jK8 (k := 52) (j := 38) (v := .ref 66) wfX8_50 dX8_comes_17 rfl (by decide) rfl (by decide) rfl ?_
    refine jr_iload_n (pc' := 21) (i := 3) dX8_comes_20 rfl rfl rfl ?_
    refine jr_lald (pc' := 22) (v := h.2 66 a3.toNatClampNeg) dX8_comes_21 rfl (by decide) rfl (b0 c1) rfl ?_
    refine jr_aload_n (pc' := 23) (i := 0) dX8_comes_22 rfl rfl rfl ?_
    refine jr_get (pc' := 26) jK8 (k := 52) (j := 9) (v := .ref 56) wfX8_19 dX8_comes_23 rfl (by decide) rfl (by decide) rfl ?_
    refine jr_iconst (pc' := 27) (v := 2) dX8_comes_26 rfl (by decide) ?_
    refine jr_bipush (pc' := 29) (v := 6) dX8_comes_27 rfl (by decide) ?_
    refine jr_iload_n (pc' := 30) (i := 3) dX8_comes_29 rfl rfl rfl ?_
    refine jr_imul (pc' := 31)  dX8_comes_30 rfl  ?_
    refine jr_iadd (pc' := 32)  dX8_comes_31 rfl  ?_
    refine jr_iconst (pc' := 33) (v := 2) dX8_comes_32 rfl (by decide) ?_
    refine jr_iadd (pc' := 34)  dX8_comes_33 rfl  ?_
    refine jr_iald (pc' := 35) (v := h.1 56 (((2 + (6 * a3)) + 2).toNatClampNeg)) dX8_comes_34 rfl (by decide) rfl (b1 c1) rfl ?_
    refine jr_iload_n (pc' := 36) (i := 2) dX8_comes_35 rfl rfl rfl ?_
    obtain ⟨P1, hC1, hK1⟩ := k1 c1
    exact jr_callV (pc' := 39) (k := 52) (av := [.long (h.2 66 a3.toNatClampNeg), .int (h.1 56 (((2 + (6 * a3)) + 2).toNatClampNeg)), .int a2]) (st := [.int a3, .ref 66]) sX8_stepped wmX8_274 dX8_comes_36 rfl (by decide) rfl (by decide) rfl rfl rfl (Nat.le_of_ble_eq_true rfl) rfl hC1 (fun v h2 hp => jG.weak (lv' := [some (.ref 52), some (.int a1), some (.int a2), some (.int a3)]) ⟨rfl, rfl, rfl, rfl, trivial⟩ (hK1 v h2 hp))

theorem q_Mocomes_81 {E : jEnv} {n : Nat} {X : State → Prop} {Post : Option Value → HP → Prop}  (h : HP)
    (k0 : Post none h)
    : jG E mX8_comes (n + 1) X Post 81 [none, none, none, none] [] h := by
  exact jr_vret dX8_comes_81 rfl (k0)

theorem q_Mocomes_39 {E : jEnv} {n : Nat} {X : State → Prop} {Post : Option Value → HP → Prop} (a1 : Int32) (a2 : Int32) (a3 : Int32) (t0 : Int64) (s1 : Int32) (h : HP)
    (b0 : vp_in s1 4)
    (b1 : vp_in a3 4)
    (b2 : vp_in ((2 + (6 * a3)) + 2) 62)
    (k0 : jCall E mX8_stepped n [.ref 52, .long (h.2 67 a3.toNatClampNeg), .int (h.1 56 (((2 + (6 * a3)) + 2).toNatClampNeg)), .int a2] (jPL h 66 s1.toNatClampNeg t0) (fun v h2 => jG E mX8_comes (n + 1) X Post 69 [some (.ref 52), some (.int a1), some (.int a2), some (.int a3)] (v.toList ++ [.int a3, .ref 67]) h2))
    : jG E mX8_comes (n + 1) X Post 39 [some (.ref 52), some (.int a1), some (.int a2), some (.int a3)] [.long t0, .int s1, .ref 66] h := by
  refine jr_last (pc' := 40) (j := s1.toNatClampNeg) dX8_comes_39 rfl (by decide) rfl (b0) rfl ?_
  refine jr_aload_n (pc' := 41) (i := 0) dX8_comes_40 rfl rfl rfl ?_
  refine jr_get (pc' := 44) jK8 (k := 52) (j := 39) (v := .ref 67) wfX8_54 dX8_comes_41 rfl (by decide) rfl (by decide) rfl ?_
  refine jr_iload_n (pc' := 45) (i := 3) dX8_comes_44 rfl rfl rfl ?_
  refine jr_aload_n (pc' := 46) (i := 0) dX8_comes_45 rfl rfl rfl ?_
  refine jr_aload_n (pc' := 47) (i := 0) dX8_comes_46 rfl rfl rfl ?_
  refine jr_get (pc' := 50) jK8 (k := 52) (j := 39) (v := .ref 67) wfX8_54 dX8_comes_47 rfl (by decide) rfl (by decide) rfl ?_
  refine jr_iload_n (pc' := 51) (i := 3) dX8_comes_50 rfl rfl rfl ?_
  refine jr_lald (pc' := 52) (v := h.2 67 a3.toNatClampNeg) dX8_comes_51 rfl (by decide) rfl (b1) rfl ?_
  refine jr_aload_n (pc' := 53) (i := 0) dX8_comes_52 rfl rfl rfl ?_
  refine jr_get (pc' := 56) jK8 (k := 52) (j := 9) (v := .ref 56) wfX8_19 dX8_comes_53 rfl (by decide) rfl (by decide) rfl ?_
  refine jr_iconst (pc' := 57) (v := 2) dX8_comes_56 rfl (by decide) ?_
  refine jr_bipush (pc' := 59) (v := 6) dX8_comes_57 rfl (by decide) ?_
  refine jr_iload_n (pc' := 60) (i := 3) dX8_comes_59 rfl rfl rfl ?_
  refine jr_imul (pc' := 61)  dX8_comes_60 rfl  ?_
  refine jr_iadd (pc' := 62)  dX8_comes_61 rfl  ?_
  refine jr_iconst (pc' := 63) (v := 2) dX8_comes_62 rfl (by decide) ?_
  refine jr_iadd (pc' := 64)  dX8_comes_63 rfl  ?_
  refine jr_iald (pc' := 65) (v := h.1 56 (((2 + (6 * a3)) + 2).toNatClampNeg)) dX8_comes_64 rfl (by decide) rfl (b2) rfl ?_
  refine jr_iload_n (pc' := 66) (i := 2) dX8_comes_65 rfl rfl rfl ?_
  obtain ⟨P1, hC1, hK1⟩ := k0
  exact jr_callV (pc' := 69) (k := 52) (av := [.long (h.2 67 a3.toNatClampNeg), .int (h.1 56 (((2 + (6 * a3)) + 2).toNatClampNeg)), .int a2]) (st := [.int a3, .ref 67]) sX8_stepped wmX8_274 dX8_comes_66 rfl (by decide) rfl (by decide) rfl rfl rfl (Nat.le_of_ble_eq_true rfl) rfl hC1 (fun v h2 hp => jG.weak (lv' := [some (.ref 52), some (.int a1), some (.int a2), some (.int a3)]) ⟨rfl, rfl, rfl, rfl, trivial⟩ (hK1 v h2 hp))

theorem q_Mocomes_69 {E : jEnv} {n : Nat} {X : State → Prop} {Post : Option Value → HP → Prop} (a1 : Int32) (a2 : Int32) (a3 : Int32) (t0 : Int64) (s1 : Int32) (h : HP)
    (b0 : vp_in s1 4)
    (k0 : jG E mX8_comes (n + 1) X Post 2 [some (.ref 52), some (.int a1), some (.int a2), some (.int (a3 + 1))] [] (jPL h 67 s1.toNatClampNeg t0))
    : jG E mX8_comes (n + 1) X Post 69 [some (.ref 52), some (.int a1), some (.int a2), some (.int a3)] [.long t0, .int s1, .ref 67] h := by
  refine jr_last (pc' := 70) (j := s1.toNatClampNeg) dX8_comes_69 rfl (by decide) rfl (b0) rfl ?_
  refine jr_iinc (pc' := 73) (i := 3) (v := (a3 + 1)) (lv' := [some (.ref 52), some (.int a1), some (.int a2), some (.int (a3 + 1))]) dX8_comes_70 rfl rfl (congrArg (a3 + ·) (by decide)) (by decide) rfl ?_
  refine jr_goto (pc' := 2) dX8_comes_73 rfl ?_
  exact jG.weak (lv' := [some (.ref 52), some (.int a1), some (.int a2), some (.int (a3 + 1))]) ⟨rfl, rfl, rfl, rfl, trivial⟩ (k0)

