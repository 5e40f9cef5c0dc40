theorem q_Rdread_0 {E : jEnv} {n : Nat} {X : State → Prop} {Post : Option Value → HP → Prop}  (h : HP)
    (k0 : jCall E mX2_clear n [.ref 11] h (fun v h2 => jG E mX3_read (n + 1) X Post 7 [some (.ref 10), none] (v.toList ++ []) h2))
    : jG E mX3_read (n + 1) X Post 0 [some (.ref 10), none] [] h := by
  refine jr_aload_n (pc' := 1) (i := 0) dX3_read_0 rfl rfl rfl ?_
  refine jr_get (pc' := 4) jK3 (k := 10) (j := 1) (v := .ref 11) wfX3_12 dX3_read_1 rfl (by decide) rfl (by decide) rfl ?_
  obtain ⟨P1, hC1, hK1⟩ := k0
  exact jr_callV (pc' := 7) (k := 11) (av := []) (st := []) sX2_clear wmX3_45 dX3_read_4 rfl (by decide) rfl (by decide) rfl rfl rfl (Nat.le_of_ble_eq_true rfl) rfl hC1 (fun v h2 hp => jG.weak (lv' := [some (.ref 10), none]) ⟨rfl, trivial⟩ (hK1 v h2 hp))

theorem q_Rdread_7 {E : jEnv} {n : Nat} {X : State → Prop} {Post : Option Value → HP → Prop}  (h : HP)
    (k0 : jCall E mX3_skipBlanks n [.ref 10] (jPI (jPI (jPI (jPI (jPI (jPI h 10 2 0) 10 3 (-1)) 10 4 0) 10 6 0) 10 7 0) 10 8 0) (fun v h2 => jG E mX3_read (n + 1) X Post 41 [some (.ref 10), none] (v.toList ++ []) h2))
    : jG E mX3_read (n + 1) X Post 7 [some (.ref 10), none] [] h := by
  refine jr_aload_n (pc' := 8) (i := 0) dX3_read_7 rfl rfl rfl ?_
  refine jr_iconst (pc' := 9) (v := 0) dX3_read_8 rfl (by decide) ?_
  refine jr_putI (pc' := 12) jK3 (k := 10) (j := 2) wfX3_18 dX3_read_9 rfl (by decide) rfl (by decide) (by decide) rfl rfl rfl ?_
  refine jr_aload_n (pc' := 13) (i := 0) dX3_read_12 rfl rfl rfl ?_
  refine jr_iconst (pc' := 14) (v := (-1)) dX3_read_13 rfl (by decide) ?_
  refine jr_putI (pc' := 17) jK3 (k := 10) (j := 3) wfX3_22 dX3_read_14 rfl (by decide) rfl (by decide) (by decide) rfl rfl rfl ?_
  refine jr_aload_n (pc' := 18) (i := 0) dX3_read_17 rfl rfl rfl ?_
  refine jr_iconst (pc' := 19) (v := 0) dX3_read_18 rfl (by decide) ?_
  refine jr_putI (pc' := 22) jK3 (k := 10) (j := 4) wfX3_25 dX3_read_19 rfl (by decide) rfl (by decide) (by decide) rfl rfl rfl ?_
  refine jr_aload_n (pc' := 23) (i := 0) dX3_read_22 rfl rfl rfl ?_
  refine jr_iconst (pc' := 24) (v := 0) dX3_read_23 rfl (by decide) ?_
  refine jr_putI (pc' := 27) jK3 (k := 10) (j := 6) wfX3_31 dX3_read_24 rfl (by decide) rfl (by decide) (by decide) rfl rfl rfl ?_
  refine jr_aload_n (pc' := 28) (i := 0) dX3_read_27 rfl rfl rfl ?_
  refine jr_iconst (pc' := 29) (v := 0) dX3_read_28 rfl (by decide) ?_
  refine jr_putI (pc' := 32) jK3 (k := 10) (j := 7) wfX3_34 dX3_read_29 rfl (by decide) rfl (by decide) (by decide) rfl rfl rfl ?_
  refine jr_aload_n (pc' := 33) (i := 0) dX3_read_32 rfl rfl rfl ?_
  refine jr_iconst (pc' := 34) (v := 0) dX3_read_33 rfl (by decide) ?_
  refine jr_putI (pc' := 37) jK3 (k := 10) (j := 8) wfX3_38 dX3_read_34 rfl (by decide) rfl (by decide) (by decide) rfl rfl rfl ?_
  refine jr_aload_n (pc' := 38) (i := 0) dX3_read_37 rfl rfl rfl ?_
  obtain ⟨P1, hC1, hK1⟩ := k0
  exact jr_callV (pc' := 41) (k := 10) (av := []) (st := []) sX3_skipBlanks wmX3_48 dX3_read_38 rfl (by decide) rfl (by decide) rfl rfl rfl (Nat.le_of_ble_eq_true rfl) rfl hC1 (fun v h2 hp => jG.weak (lv' := [some (.ref 10), none]) ⟨rfl, trivial⟩ (hK1 v h2 hp))

theorem q_Rdread_41 {E : jEnv} {n : Nat} {X : State → Prop} {Post : Option Value → HP → Prop}  (h : HP)
    (k0 : ((h.1 1 1) ≤ (h.1 10 4)) → ((f_Rdfailed (h.1 10 2)) = 0) → Post (some (.int 1)) h)
    (k1 : ((h.1 1 1) ≤ (h.1 10 4)) → (¬ (f_Rdfailed (h.1 10 2)) = 0) → Post (some (.int 0)) h)
    (k2 : (¬ (h.1 1 1) ≤ (h.1 10 4)) → jCall E mX3_readLand n [.ref 10] h (fun v h2 => jG E mX3_read (n + 1) X Post 59 [some (.ref 10), none] (v.toList ++ []) h2))
    : jG E mX3_read (n + 1) X Post 41 [some (.ref 10), none] [] h := by
  refine jr_aload_n (pc' := 42) (i := 0) dX3_read_41 rfl rfl rfl ?_
  refine jr_get (pc' := 45) jK3 (k := 10) (j := 4) (v := .int (h.1 10 4)) wfX3_25 dX3_read_42 rfl (by decide) rfl (by decide) rfl ?_
  refine jr_aload_n (pc' := 46) (i := 0) dX3_read_45 rfl rfl rfl ?_
  refine jr_get (pc' := 49) jK3 (k := 10) (j := 0) (v := .ref 1) wfX3_41 dX3_read_46 rfl (by decide) rfl (by decide) rfl ?_
  refine jr_get (pc' := 52) jK6 (k := 1) (j := 1) (v := .int (h.1 1 1)) wfX3_51 dX3_read_49 rfl (by decide) rfl (by decide) rfl ?_
  by_cases c1 : (h.1 1 1) ≤ (h.1 10 4)
  · refine jr_icmp_geT (pc' := 107) dX3_read_52 rfl c1 ?_
    refine jr_aload_n (pc' := 108) (i := 0) dX3_read_107 rfl rfl rfl ?_
    refine jr_callV (pc' := 111) (k := 10) (av := []) (st := []) sX3_failed wmX3_59 dX3_read_108 rfl (by decide) rfl (by decide) rfl rfl rfl (Nat.le_of_ble_eq_true rfl) rfl (c_Rdfailed (n := n)  h ) (fun v h2 hp => ?_)
    rw [hp.1, hp.2]
    show jG E mX3_read (n + 1) X Post 111 [some (.ref 10), none] [.int (f_Rdfailed (h.1 10 2))] h
    by_cases c2 : (f_Rdfailed (h.1 10 2)) = 0
    · refine jr_if_neF (pc' := 114) (tgt := 118) dX3_read_111 rfl rfl c2 ?_
      refine jr_iconst (pc' := 115) (v := 1) dX3_read_114 rfl (by decide) ?_
      refine jr_goto (pc' := 119) dX3_read_115 rfl ?_
      exact jr_iret dX3_read_119 rfl rfl (k0 c1 c2)
    · refine jr_if_neT (pc' := 118) dX3_read_111 rfl c2 ?_
      refine jr_iconst (pc' := 119) (v := 0) dX3_read_118 rfl (by decide) ?_
      exact jr_iret dX3_read_119 rfl rfl (k1 c1 c2)
  · refine jr_icmp_geF (pc' := 55) (tgt := 107) dX3_read_52 rfl rfl c1 ?_
    refine jr_aload_n (pc' := 56) (i := 0) dX3_read_55 rfl rfl rfl ?_
    obtain ⟨P1, hC1, hK1⟩ := k2 c1
    exact jr_callV (pc' := 59) (k := 10) (av := []) (st := []) sX3_readLand wmX3_56 dX3_read_56 rfl (by decide) rfl (by decide) rfl rfl rfl (Nat.le_of_ble_eq_true rfl) rfl hC1 (fun v h2 hp => jG.weak (lv' := [some (.ref 10), none]) ⟨rfl, trivial⟩ (hK1 v h2 hp))

theorem q_Rdread_59 {E : jEnv} {n : Nat} {X : State → Prop} {Post : Option Value → HP → Prop}  (h : HP)
    (k0 : jCall E mX3_skipBlanks n [.ref 10] h (fun v h2 => jG E mX3_read (n + 1) X Post 63 [some (.ref 10), none] (v.toList ++ []) h2))
    : jG E mX3_read (n + 1) X Post 59 [some (.ref 10), none] [] h := by
  refine jr_aload_n (pc' := 60) (i := 0) dX3_read_59 rfl rfl rfl ?_
  obtain ⟨P1, hC1, hK1⟩ := k0
  exact jr_callV (pc' := 63) (k := 10) (av := []) (st := []) sX3_skipBlanks wmX3_48 dX3_read_60 rfl (by decide) rfl (by decide) rfl rfl rfl (Nat.le_of_ble_eq_true rfl) rfl hC1 (fun v h2 hp => jG.weak (lv' := [some (.ref 10), none]) ⟨rfl, trivial⟩ (hK1 v h2 hp))

theorem q_Rdread_63 {E : jEnv} {n : Nat} {X : State → Prop} {Post : Option Value → HP → Prop}  (h : HP)
    (k0 : jG E mX3_read (n + 1) X Post 65 [some (.ref 10), some (.int 0)] [] h)
    : jG E mX3_read (n + 1) X Post 63 [some (.ref 10), none] [] h := by
  refine jr_iconst (pc' := 64) (v := 0) dX3_read_63 rfl (by decide) ?_
  refine jr_istore_n (pc' := 65) (i := 1) (lv' := [some (.ref 10), some (.int 0)]) dX3_read_64 rfl rfl (by decide) rfl ?_
  exact jG.weak (lv' := [some (.ref 10), some (.int 0)]) ⟨rfl, rfl, trivial⟩ (k0)

theorem q_Rdread_65 {E : jEnv} {n : Nat} {X : State → Prop} {Post : Option Value → HP → Prop} (a1 : Int32) (h : HP)
    (k0 : ((500 : Int32) ≤ a1) → ((f_Rdfailed (h.1 10 2)) = 0) → Post (some (.int 1)) h)
    (k1 : ((500 : Int32) ≤ a1) → (¬ (f_Rdfailed (h.1 10 2)) = 0) → Post (some (.int 0)) h)
    (k2 : (¬ (500 : Int32) ≤ a1) → ((f_Rdfailed (h.1 10 2)) = 0) → ((h.1 1 1) ≤ (h.1 10 4)) → ((f_Rdfailed (h.1 10 2)) = 0) → Post (some (.int 1)) h)
    (k3 : (¬ (500 : Int32) ≤ a1) → ((f_Rdfailed (h.1 10 2)) = 0) → ((h.1 1 1) ≤ (h.1 10 4)) → (¬ (f_Rdfailed (h.1 10 2)) = 0) → Post (some (.int 0)) h)
    (k4 : (¬ (500 : Int32) ≤ a1) → ((f_Rdfailed (h.1 10 2)) = 0) → (¬ (h.1 1 1) ≤ (h.1 10 4)) → jCall E mX3_readStatement n [.ref 10] h (fun v h2 => jG E mX3_read (n + 1) X Post 97 [some (.ref 10), some (.int a1)] (v.toList ++ []) h2))
    (k5 : (¬ (500 : Int32) ≤ a1) → (¬ (f_Rdfailed (h.1 10 2)) = 0) → ((f_Rdfailed (h.1 10 2)) = 0) → Post (some (.int 1)) h)
    (k6 : (¬ (500 : Int32) ≤ a1) → (¬ (f_Rdfailed (h.1 10 2)) = 0) → (¬ (f_Rdfailed (h.1 10 2)) = 0) → Post (some (.int 0)) h)
    : jG E mX3_read (n + 1) X Post 65 [some (.ref 10), some (.int a1)] [] h := by
  refine jr_iload_n (pc' := 66) (i := 1) dX3_read_65 rfl rfl rfl ?_
  refine jr_sipush (pc' := 69) (v := 500) dX3_read_66 rfl (by decide) ?_
  by_cases c1 : (500 : Int32) ≤ a1
  · refine jr_icmp_geT (pc' := 107) dX3_read_69 rfl c1 ?_
    refine jr_aload_n (pc' := 108) (i := 0) dX3_read_107 rfl rfl rfl ?_
    refine jr_callV (pc' := 111) (k := 10) (av := []) (st := []) sX3_failed wmX3_59 dX3_read_108 rfl (by decide) rfl (by decide) rfl rfl rfl (Nat.le_of_ble_eq_true rfl) rfl (c_Rdfailed (n := n)  h ) (fun v h2 hp => ?_)
    rw [hp.1, hp.2]
    show jG E mX3_read (n + 1) X Post 111 [some (.ref 10), some (.int a1)] [.int (f_Rdfailed (h.1 10 2))] h
    by_cases c2 : (f_Rdfailed (h.1 10 2)) = 0
    · refine jr_if_neF (pc' := 114) (tgt := 118) dX3_read_111 rfl rfl c2 ?_
      refine jr_iconst (pc' := 115) (v := 1) dX3_read_114 rfl (by decide) ?_
      refine jr_goto (pc' := 119) dX3_read_115 rfl ?_
      exact jr_iret dX3_read_119 rfl rfl (k0 c1 c2)
    · refine jr_if_neT (pc' := 118) dX3_read_111 rfl c2 ?_
      refine jr_iconst (pc' := 119) (v := 0) dX3_read_118 rfl (by decide) ?_
      exact jr_iret dX3_read_119 rfl rfl (k1 c1 c2)
  · refine jr_icmp_geF (pc' := 72) (tgt := 107) dX3_read_69 rfl rfl c1 ?_
    refine jr_aload_n (pc' := 73) (i := 0) dX3_read_72 rfl rfl rfl ?_
    refine jr_callV (pc' := 76) (k := 10) (av := []) (st := []) sX3_failed wmX3_59 dX3_read_73 rfl (by decide) rfl (by decide) rfl rfl rfl (Nat.le_of_ble_eq_true rfl) rfl (c_Rdfailed (n := n)  h ) (fun v h2 hp => ?_)
    rw [hp.1, hp.2]
    show jG E mX3_read (n + 1) X Post 76 [some (.ref 10), some (.int a1)] [.int (f_Rdfailed (h.1 10 2))] h
    by_cases c3 : (f_Rdfailed (h.1 10 2)) = 0
    · refine jr_if_neF (pc' := 79) (tgt := 107) dX3_read_76 rfl rfl c3 ?_
      refine jr_aload_n (pc' := 80) (i := 0) dX3_read_79 rfl rfl rfl ?_
      refine jr_get (pc' := 83) jK3 (k := 10) (j := 4) (v := .int (h.1 10 4)) wfX3_25 dX3_read_80 rfl (by decide) rfl (by decide) rfl ?_
      refine jr_aload_n (pc' := 84) (i := 0) dX3_read_83 rfl rfl rfl ?_
      refine jr_get (pc' := 87) jK3 (k := 10) (j := 0) (v := .ref 1) wfX3_41 dX3_read_84 rfl (by decide) rfl (by decide) rfl ?_
      refine jr_get (pc' := 90) jK6 (k := 1) (j := 1) (v := .int (h.1 1 1)) wfX3_51 dX3_read_87 rfl (by decide) rfl (by decide) rfl ?_
      by_cases c4 : (h.1 1 1) ≤ (h.1 10 4)
      · refine jr_icmp_geT (pc' := 107) dX3_read_90 rfl c4 ?_
        refine jr_aload_n (pc' := 108) (i := 0) dX3_read_107 rfl rfl rfl ?_
        refine jr_callV (pc' := 111) (k := 10) (av := []) (st := []) sX3_failed wmX3_59 dX3_read_108 rfl (by decide) rfl (by decide) rfl rfl rfl (Nat.le_of_ble_eq_true rfl) rfl (c_Rdfailed (n := n)  h ) (fun v h2 hp => ?_)
        rw [hp.1, hp.2]
        show jG E mX3_read (n + 1) X Post 111 [some (.ref 10), some (.int a1)] [.int (f_Rdfailed (h.1 10 2))] h
        by_cases c5 : (f_Rdfailed (h.1 10 2)) = 0
        · refine jr_if_neF (pc' := 114) (tgt := 118) dX3_read_111 rfl rfl c5 ?_
          refine jr_iconst (pc' := 115) (v := 1) dX3_read_114 rfl (by decide) ?_
          refine jr_goto (pc' := 119) dX3_read_115 rfl ?_
          exact jr_iret dX3_read_119 rfl rfl (k2 c1 c3 c4 c5)
        · refine jr_if_neT (pc' := 118) dX3_read_111 rfl c5 ?_
          refine jr_iconst (pc' := 119) (v := 0) dX3_read_118 rfl (by decide) ?_
          exact jr_iret dX3_read_119 rfl rfl (k3 c1 c3 c4 c5)
      · refine jr_icmp_geF (pc' := 93) (tgt := 107) dX3_read_90 rfl rfl c4 ?_
        refine jr_aload_n (pc' := 94) (i := 0) dX3_read_93 rfl rfl rfl ?_
        obtain ⟨P1, hC1, hK1⟩ := k4 c1 c3 c4
        exact jr_callV (pc' := 97) (k := 10) (av := []) (st := []) sX3_readStatement wmX3_63 dX3_read_94 rfl (by decide) rfl (by decide) rfl rfl rfl (Nat.le_of_ble_eq_true rfl) rfl hC1 (fun v h2 hp => jG.weak (lv' := [some (.ref 10), some (.int a1)]) ⟨rfl, rfl, trivial⟩ (hK1 v h2 hp))
    · refine jr_if_neT (pc' := 107) dX3_read_76 rfl c3 ?_
      refine jr_aload_n (pc' := 108) (i := 0) dX3_read_107 rfl rfl rfl ?_
      refine jr_callV (pc' := 111) (k := 10) (av := []) (st := []) sX3_failed wmX3_59 dX3_read_108 rfl (by decide) rfl (by decide) rfl rfl rfl (Nat.le_of_ble_eq_true rfl) rfl (c_Rdfailed (n := n)  h ) (fun v h2 hp => ?_)
      rw [hp.1, hp.2]
      show jG E mX3_read (n + 1) X Post 111 [some (.ref 10), some (.int a1)] [.int (f_Rdfailed (h.1 10 2))] h
      by_cases c6 : (f_Rdfailed (h.1 10 2)) = 0
      · refine jr_if_neF (pc' := 114) (tgt := 118) dX3_read_111 rfl rfl c6 ?_
        refine jr_iconst (pc' := 115) (v := 1) dX3_read_114 rfl (by decide) ?_
        refine jr_goto (pc' := 119) dX3_read_115 rfl ?_
        exact jr_iret dX3_read_119 rfl rfl (k5 c1 c3 c6)
      · refine jr_if_neT (pc' := 118) dX3_read_111 rfl c6 ?_
        refine jr_iconst (pc' := 119) (v := 0) dX3_read_118 rfl (by decide) ?_
        exact jr_iret dX3_read_119 rfl rfl (k6 c1 c3 c6)

theorem q_Rdread_97 {E : jEnv} {n : Nat} {X : State → Prop} {Post : Option Value → HP → Prop} (a1 : Int32) (h : HP)
    (k0 : jCall E mX3_skipBlanks n [.ref 10] h (fun v h2 => jG E mX3_read (n + 1) X Post 101 [some (.ref 10), some (.int a1)] (v.toList ++ []) h2))
    : jG E mX3_read (n + 1) X Post 97 [some (.ref 10), some (.int a1)] [] h := by
  refine jr_aload_n (pc' := 98) (i := 0) dX3_read_97 rfl rfl rfl ?_
  obtain ⟨P1, hC1, hK1⟩ := k0
  exact jr_callV (pc' := 101) (k := 10) (av := []) (st := []) sX3_skipBlanks wmX3_48 dX3_read_98 rfl (by decide) rfl (by decide) rfl rfl rfl (Nat.le_of_ble_eq_true rfl) rfl hC1 (fun v h2 hp => jG.weak (lv' := [some (.ref 10), some (.int a1)]) ⟨rfl, rfl, trivial⟩ (hK1 v h2 hp))

theorem q_Rdread_101 {E : jEnv} {n : Nat} {X : State → Prop} {Post : Option Value → HP → Prop} (a1 : Int32) (h : HP)
    (k0 : jG E mX3_read (n + 1) X Post 65 [some (.ref 10), some (.int (a1 + 1))] [] h)
    : jG E mX3_read (n + 1) X Post 101 [some (.ref 10), some (.int a1)] [] h := by
  refine jr_iinc (pc' := 104) (i := 1) (v := (a1 + 1)) (lv' := [some (.ref 10), some (.int (a1 + 1))]) dX3_read_101 rfl rfl (congrArg (a1 + ·) (by decide)) (by decide) rfl ?_
  refine jr_goto (pc' := 65) dX3_read_104 rfl ?_
  exact jG.weak (lv' := [some (.ref 10), some (.int (a1 + 1))]) ⟨rfl, rfl, trivial⟩ (k0)

theorem q_RdskipBlanks_0 {E : jEnv} {n : Nat} {X : State → Prop} {Post : Option Value → HP → Prop}  (h : HP)
    (k0 : ((h.1 1 1) ≤ (h.1 10 4)) → Post none h)
    (k1 : (¬ (h.1 1 1) ≤ (h.1 10 4)) → ((500 : Int32) ≤ (h.1 10 4)) → Post none h)
    (b0 : (¬ (h.1 1 1) ≤ (h.1 10 4)) → (¬ (500 : Int32) ≤ (h.1 10 4)) → vp_in (h.1 10 4) 500)
    (k2 : (¬ (h.1 1 1) ≤ (h.1 10 4)) → (¬ (500 : Int32) ≤ (h.1 10 4)) → ((h.1 2 ((h.1 10 4).toNatClampNeg)) = 32) → jG E mX3_skipBlanks n X Post 0 [some (.ref 10)] [] (jPI h 10 4 ((h.1 10 4) + 1)))
    (k3 : (¬ (h.1 1 1) ≤ (h.1 10 4)) → (¬ (500 : Int32) ≤ (h.1 10 4)) → (¬ (h.1 2 ((h.1 10 4).toNatClampNeg)) = 32) → Post none h)
    : jG E mX3_skipBlanks n X Post 0 [some (.ref 10)] [] h := by
  refine jr_aload_n (pc' := 1) (i := 0) dX3_skipBlanks_0 rfl rfl rfl ?_
  refine jr_get (pc' := 4) jK3 (k := 10) (j := 4) (v := .int (h.1 10 4)) wfX3_25 dX3_skipBlanks_1 rfl (by decide) rfl (by decide) rfl ?_
  refine jr_aload_n (pc' := 5) (i := 0) dX3_skipBlanks_4 rfl rfl rfl ?_
  refine jr_get (pc' := 8) jK3 (k := 10) (j := 0) (v := .ref 1) wfX3_41 dX3_skipBlanks_5 rfl (by decide) rfl (by decide) rfl ?_
  refine jr_get (pc' := 11) jK6 (k := 1) (j := 1) (v := .int (h.1 1 1)) wfX3_51 dX3_skipBlanks_8 rfl (by decide) rfl (by decide) rfl ?_
  by_cases c1 : (h.1 1 1) ≤ (h.1 10 4)
  · refine jr_icmp_geT (pc' := 59) dX3_skipBlanks_11 rfl c1 ?_
    exact jr_vret dX3_skipBlanks_59 rfl (k0 c1)
  · refine jr_icmp_geF (pc' := 14) (tgt := 59) dX3_skipBlanks_11 rfl rfl c1 ?_
    refine jr_aload_n (pc' := 15) (i := 0) dX3_skipBlanks_14 rfl rfl rfl ?_
    refine jr_get (pc' := 18) jK3 (k := 10) (j := 4) (v := .int (h.1 10 4)) wfX3_25 dX3_skipBlanks_15 rfl (by decide) rfl (by decide) rfl ?_
    refine jr_aload_n (pc' := 19) (i := 0) dX3_skipBlanks_18 rfl rfl rfl ?_
    refine jr_get (pc' := 22) jK3 (k := 10) (j := 0) (v := .ref 1) wfX3_41 dX3_skipBlanks_19 rfl (by decide) rfl (by decide) rfl ?_
    refine jr_get (pc' := 25) jK6 (k := 1) (j := 0) (v := .ref 2) wfX3_163 dX3_skipBlanks_22 rfl (by decide) rfl (by decide) rfl ?_
    refine jr_alen (pc' := 26) (v := 500) dX3_skipBlanks_25 rfl (by decide) (by decide) (by decide) ?_
    by_cases c2 : (500 : Int32) ≤ (h.1 10 4)
    · refine jr_icmp_geT (pc' := 59) dX3_skipBlanks_26 rfl c2 ?_
      exact jr_vret dX3_skipBlanks_59 rfl (k1 c1 c2)
    · refine jr_icmp_geF (pc' := 29) (tgt := 59) dX3_skipBlanks_26 rfl rfl c2 ?_
      refine jr_aload_n (pc' := 30) (i := 0) dX3_skipBlanks_29 rfl rfl rfl ?_
      refine jr_get (pc' := 33) jK3 (k := 10) (j := 0) (v := .ref 1) wfX3_41 dX3_skipBlanks_30 rfl (by decide) rfl (by decide) rfl ?_
      refine jr_get (pc' := 36) jK6 (k := 1) (j := 0) (v := .ref 2) wfX3_163 dX3_skipBlanks_33 rfl (by decide) rfl (by decide) rfl ?_
      refine jr_aload_n (pc' := 37) (i := 0) dX3_skipBlanks_36 rfl rfl rfl ?_
      refine jr_get (pc' := 40) jK3 (k := 10) (j := 4) (v := .int (h.1 10 4)) wfX3_25 dX3_skipBlanks_37 rfl (by decide) rfl (by decide) rfl ?_
      refine jr_bald (pc' := 41) (v := h.1 2 ((h.1 10 4).toNatClampNeg)) dX3_skipBlanks_40 rfl (by decide) rfl (b0 c1 c2) rfl ?_
      refine jr_bipush (pc' := 43) (v := 32) dX3_skipBlanks_41 rfl (by decide) ?_
      by_cases c3 : (h.1 2 ((h.1 10 4).toNatClampNeg)) = 32
      · refine jr_icmp_neF (pc' := 46) (tgt := 59) dX3_skipBlanks_43 rfl rfl c3 ?_
        refine jr_aload_n (pc' := 47) (i := 0) dX3_skipBlanks_46 rfl rfl rfl ?_
        refine jr_dup (pc' := 48)  dX3_skipBlanks_47 rfl rfl ?_
        refine jr_get (pc' := 51) jK3 (k := 10) (j := 4) (v := .int (h.1 10 4)) wfX3_25 dX3_skipBlanks_48 rfl (by decide) rfl (by decide) rfl ?_
        refine jr_iconst (pc' := 52) (v := 1) dX3_skipBlanks_51 rfl (by decide) ?_
        refine jr_iadd (pc' := 53)  dX3_skipBlanks_52 rfl  ?_
        refine jr_putI (pc' := 56) jK3 (k := 10) (j := 4) wfX3_25 dX3_skipBlanks_53 rfl (by decide) rfl (by decide) (by decide) rfl rfl rfl ?_
        refine jr_goto (pc' := 0) dX3_skipBlanks_56 rfl ?_
        exact jG.weak (lv' := [some (.ref 10)]) ⟨rfl, trivial⟩ (k2 c1 c2 c3)
      · refine jr_icmp_neT (pc' := 59) dX3_skipBlanks_43 rfl c3 ?_
        exact jr_vret dX3_skipBlanks_59 rfl (k3 c1 c2 c3)

theorem q_RdreadLand_0 {E : jEnv} {n : Nat} {X : State → Prop} {Post : Option Value → HP → Prop}  (h : HP)
    (k0 : jCall E mX3_takeWord n [.ref 10] h (fun v h2 => jG E mX3_readLand (n + 1) X Post 4 [some (.ref 10), none, none, none] (v.toList ++ []) h2))
    : jG E mX3_readLand (n + 1) X Post 0 [some (.ref 10), none, none, none] [] h := by
  refine jr_aload_n (pc' := 1) (i := 0) dX3_readLand_0 rfl rfl rfl ?_
  obtain ⟨P1, hC1, hK1⟩ := k0
  exact jr_callV (pc' := 4) (k := 10) (av := []) (st := []) sX3_takeWord wmX3_66 dX3_readLand_1 rfl (by decide) rfl (by decide) rfl rfl rfl (Nat.le_of_ble_eq_true rfl) rfl hC1 (fun v h2 hp => jG.weak (lv' := [some (.ref 10), none, none, none]) ⟨rfl, trivial⟩ (hK1 v h2 hp))

theorem q_RdreadLand_4 {E : jEnv} {n : Nat} {X : State → Prop} {Post : Option Value → HP → Prop}  (h : HP)
    (k0 : jCall E mX3_wordIs n [.ref 10, .ref 2000] h (fun v h2 => jG E mX3_readLand (n + 1) X Post 10 [some (.ref 10), none, none, none] (v.toList ++ []) h2))
    : jG E mX3_readLand (n + 1) X Post 4 [some (.ref 10), none, none, none] [] h := by
  refine jr_aload_n (pc' := 5) (i := 0) dX3_readLand_4 rfl rfl rfl ?_
  refine jr_ldcS (pc' := 7) (i := 0) dX3_readLand_5 rfl (by decide) rfl ?_
  obtain ⟨P1, hC1, hK1⟩ := k0
  exact jr_callV (pc' := 10) (k := 10) (av := [.ref 2000]) (st := []) sX3_wordIs wmX3_71 dX3_readLand_7 rfl (by decide) rfl (by decide) rfl rfl rfl (Nat.le_of_ble_eq_true rfl) rfl hC1 (fun v h2 hp => jG.weak (lv' := [some (.ref 10), none, none, none]) ⟨rfl, trivial⟩ (hK1 v h2 hp))

theorem q_RdreadLand_10 {E : jEnv} {n : Nat} {X : State → Prop} {Post : Option Value → HP → Prop} (s0 : Int32) (h : HP)
    (k0 : (s0 = 0) → jCall E mX3_fail n [.ref 10, .int 1, .int (h.1 10 5)] h (fun v h2 => jG E mX3_readLand (n + 1) X Post 22 [some (.ref 10), none, none, none] (v.toList ++ []) h2))
    (k1 : (¬ s0 = 0) → jCall E mX3_takeNumber n [.ref 10, .int 1, .int 9] h (fun v h2 => jG E mX3_readLand (n + 1) X Post 29 [some (.ref 10), none, none, none] (v.toList ++ []) h2))
    : jG E mX3_readLand (n + 1) X Post 10 [some (.ref 10), none, none, none] [.int s0] h := by
  by_cases c1 : s0 = 0
  · refine jr_if_neF (pc' := 13) (tgt := 22) dX3_readLand_10 rfl rfl c1 ?_
    refine jr_aload_n (pc' := 14) (i := 0) dX3_readLand_13 rfl rfl rfl ?_
    refine jr_iconst (pc' := 15) (v := 1) dX3_readLand_14 rfl (by decide) ?_
    refine jr_aload_n (pc' := 16) (i := 0) dX3_readLand_15 rfl rfl rfl ?_
    refine jr_get (pc' := 19) jK3 (k := 10) (j := 5) (v := .int (h.1 10 5)) wfX3_28 dX3_readLand_16 rfl (by decide) rfl (by decide) rfl ?_
    obtain ⟨P1, hC1, hK1⟩ := k0 c1
    exact jr_callV (pc' := 22) (k := 10) (av := [.int 1, .int (h.1 10 5)]) (st := []) sX3_fail wmX3_75 dX3_readLand_19 rfl (by decide) rfl (by decide) rfl rfl rfl (Nat.le_of_ble_eq_true rfl) rfl hC1 (fun v h2 hp => jG.weak (lv' := [some (.ref 10), none, none, none]) ⟨rfl, trivial⟩ (hK1 v h2 hp))
  · refine jr_if_neT (pc' := 22) dX3_readLand_10 rfl c1 ?_
    refine jr_aload_n (pc' := 23) (i := 0) dX3_readLand_22 rfl rfl rfl ?_
    refine jr_iconst (pc' := 24) (v := 1) dX3_readLand_23 rfl (by decide) ?_
    refine jr_bipush (pc' := 26) (v := 9) dX3_readLand_24 rfl (by decide) ?_
    obtain ⟨P1, hC1, hK1⟩ := k1 c1
    exact jr_callV (pc' := 29) (k := 10) (av := [.int 1, .int 9]) (st := []) sX3_takeNumber wmX3_79 dX3_readLand_26 rfl (by decide) rfl (by decide) rfl rfl rfl (Nat.le_of_ble_eq_true rfl) rfl hC1 (fun v h2 hp => jG.weak (lv' := [some (.ref 10), none, none, none]) ⟨rfl, trivial⟩ (hK1 v h2 hp))

theorem q_RdreadLand_22 {E : jEnv} {n : Nat} {X : State → Prop} {Post : Option Value → HP → Prop}  (h : HP)
    (k0 : jCall E mX3_takeNumber n [.ref 10, .int 1, .int 9] h (fun v h2 => jG E mX3_readLand (n + 1) X Post 29 [some (.ref 10), none, none, none] (v.toList ++ []) h2))
    : jG E mX3_readLand (n + 1) X Post 22 [some (.ref 10), none, none, none] [] h := by
  refine jr_aload_n (pc' := 23) (i := 0) dX3_readLand_22 rfl rfl rfl ?_
  refine jr_iconst (pc' := 24) (v := 1) dX3_readLand_23 rfl (by decide) ?_
  refine jr_bipush (pc' := 26) (v := 9) dX3_readLand_24 rfl (by decide) ?_
  obtain ⟨P1, hC1, hK1⟩ := k0
  exact jr_callV (pc' := 29) (k := 10) (av := [.int 1, .int 9]) (st := []) sX3_takeNumber wmX3_79 dX3_readLand_26 rfl (by decide) rfl (by decide) rfl rfl rfl (Nat.le_of_ble_eq_true rfl) rfl hC1 (fun v h2 hp => jG.weak (lv' := [some (.ref 10), none, none, none]) ⟨rfl, trivial⟩ (hK1 v h2 hp))

theorem q_RdreadLand_29 {E : jEnv} {n : Nat} {X : State → Prop} {Post : Option Value → HP → Prop} (s0 : Int32) (h : HP)
    (k0 : (s0 ≤ 0) → jCall E mX3_takeNumber n [.ref 10, .int 1, .int 9] h (fun v h2 => jG E mX3_readLand (n + 1) X Post 55 [some (.ref 10), some (.int s0), none, none] (v.toList ++ []) h2))
    (k1 : (¬ s0 ≤ 0) → jCall E mX3_takeNumber n [.ref 10, .int 1, .int (if (36 / s0) < 9 then (36 / s0) else 9)] h (fun v h2 => jG E mX3_readLand (n + 1) X Post 55 [some (.ref 10), some (.int s0), none, none] (v.toList ++ []) h2))
    : jG E mX3_readLand (n + 1) X Post 29 [some (.ref 10), none, none, none] [.int s0] h := by
  refine jr_istore_n (pc' := 30) (i := 1) (lv' := [some (.ref 10), some (.int s0), none, none]) dX3_readLand_29 rfl rfl (by decide) rfl ?_
  refine jr_iload_n (pc' := 31) (i := 1) dX3_readLand_30 rfl rfl rfl ?_
  by_cases c1 : s0 ≤ 0
  · refine jr_if_leT (pc' := 46) dX3_readLand_31 rfl c1 ?_
    refine jr_bipush (pc' := 48) (v := 9) dX3_readLand_46 rfl (by decide) ?_
    refine jr_istore_n (pc' := 49) (i := 2) (lv' := [some (.ref 10), some (.int s0), some (.int 9), none]) dX3_readLand_48 rfl rfl (by decide) rfl ?_
    refine jr_aload_n (pc' := 50) (i := 0) dX3_readLand_49 rfl rfl rfl ?_
    refine jr_iconst (pc' := 51) (v := 1) dX3_readLand_50 rfl (by decide) ?_
    refine jr_iload_n (pc' := 52) (i := 2) dX3_readLand_51 rfl rfl rfl ?_
    obtain ⟨P1, hC1, hK1⟩ := k0 c1
    exact jr_callV (pc' := 55) (k := 10) (av := [.int 1, .int 9]) (st := []) sX3_takeNumber wmX3_79 dX3_readLand_52 rfl (by decide) rfl (by decide) rfl rfl rfl (Nat.le_of_ble_eq_true rfl) rfl hC1 (fun v h2 hp => jG.weak (lv' := [some (.ref 10), some (.int s0), none, none]) ⟨rfl, rfl, trivial⟩ (hK1 v h2 hp))
  · refine jr_if_leF (pc' := 34) (tgt := 46) dX3_readLand_31 rfl rfl c1 ?_
    refine jr_bipush (pc' := 36) (v := 9) dX3_readLand_34 rfl (by decide) ?_
    refine jr_bipush (pc' := 38) (v := 36) dX3_readLand_36 rfl (by decide) ?_
    refine jr_iload_n (pc' := 39) (i := 1) dX3_readLand_38 rfl rfl rfl ?_
    refine jr_idiv (pc' := 40)  dX3_readLand_39 rfl (jnz c1) ?_
    refine jr_mmin (pc' := 43) wmX3_83 dX3_readLand_40 rfl (by omega) (Nat.le_of_ble_eq_true rfl) ?_
    refine jr_goto (pc' := 48) dX3_readLand_43 rfl ?_
    refine jr_istore_n (pc' := 49) (i := 2) (lv' := [some (.ref 10), some (.int s0), some (.int (if (36 / s0) < 9 then (36 / s0) else 9)), none]) dX3_readLand_48 rfl rfl (by decide) rfl ?_
    refine jr_aload_n (pc' := 50) (i := 0) dX3_readLand_49 rfl rfl rfl ?_
    refine jr_iconst (pc' := 51) (v := 1) dX3_readLand_50 rfl (by decide) ?_
    refine jr_iload_n (pc' := 52) (i := 2) dX3_readLand_51 rfl rfl rfl ?_
    obtain ⟨P1, hC1, hK1⟩ := k1 c1
    exact jr_callV (pc' := 55) (k := 10) (av := [.int 1, .int (if (36 / s0) < 9 then (36 / s0) else 9)]) (st := []) sX3_takeNumber wmX3_79 dX3_readLand_52 rfl (by decide) rfl (by decide) rfl rfl rfl (Nat.le_of_ble_eq_true rfl) rfl hC1 (fun v h2 hp => jG.weak (lv' := [some (.ref 10), some (.int s0), none, none]) ⟨rfl, rfl, trivial⟩ (hK1 v h2 hp))

theorem q_RdreadLand_55 {E : jEnv} {n : Nat} {X : State → Prop} {Post : Option Value → HP → Prop} (a1 : Int32) (s0 : Int32) (h : HP)
    (k0 : jCall E mX3_takeSign n [.ref 10, .int 59] h (fun v h2 => jG E mX3_readLand (n + 1) X Post 62 [some (.ref 10), some (.int a1), none, some (.int s0)] (v.toList ++ []) h2))
    : jG E mX3_readLand (n + 1) X Post 55 [some (.ref 10), some (.int a1), none, none] [.int s0] h := by
  refine jr_istore_n (pc' := 56) (i := 3) (lv' := [some (.ref 10), some (.int a1), none, some (.int s0)]) dX3_readLand_55 rfl rfl (by decide) rfl ?_
  refine jr_aload_n (pc' := 57) (i := 0) dX3_readLand_56 rfl rfl rfl ?_
  refine jr_bipush (pc' := 59) (v := 59) dX3_readLand_57 rfl (by decide) ?_
  obtain ⟨P1, hC1, hK1⟩ := k0
  exact jr_callV (pc' := 62) (k := 10) (av := [.int 59]) (st := []) sX3_takeSign wmX3_88 dX3_readLand_59 rfl (by decide) rfl (by decide) rfl rfl rfl (Nat.le_of_ble_eq_true rfl) rfl hC1 (fun v h2 hp => jG.weak (lv' := [some (.ref 10), some (.int a1), none, some (.int s0)]) ⟨rfl, rfl, rfl, trivial⟩ (hK1 v h2 hp))

theorem q_RdreadLand_62 {E : jEnv} {n : Nat} {X : State → Prop} {Post : Option Value → HP → Prop} (a1 : Int32) (a3 : Int32) (h : HP)
    (k0 : ((f_Rdfailed (h.1 10 2)) = 0) → Post none (jPI (jPI h 11 0 a1) 11 1 a3))
    (k1 : (¬ (f_Rdfailed (h.1 10 2)) = 0) → Post none h)
    : jG E mX3_readLand (n + 1) X Post 62 [some (.ref 10), some (.int a1), none, some (.int a3)] [] h := by
  refine jr_aload_n (pc' := 63) (i := 0) dX3_readLand_62 rfl rfl rfl ?_
  refine jr_callV (pc' := 66) (k := 10) (av := []) (st := []) sX3_failed wmX3_59 dX3_readLand_63 rfl (by decide) rfl (by decide) rfl rfl rfl (Nat.le_of_ble_eq_true rfl) rfl (c_Rdfailed (n := n)  h ) (fun v h2 hp => ?_)
  rw [hp.1, hp.2]
  show jG E mX3_readLand (n + 1) X Post 66 [some (.ref 10), some (.int a1), none, some (.int a3)] [.int (f_Rdfailed (h.1 10 2))] h
  by_cases c1 : (f_Rdfailed (h.1 10 2)) = 0
  · refine jr_if_neF (pc' := 69) (tgt := 85) dX3_readLand_66 rfl rfl c1 ?_
    refine jr_aload_n (pc' := 70) (i := 0) dX3_readLand_69 rfl rfl rfl ?_
    refine jr_get (pc' := 73) jK3 (k := 10) (j := 1) (v := .ref 11) wfX3_12 dX3_readLand_70 rfl (by decide) rfl (by decide) rfl ?_
    refine jr_iload_n (pc' := 74) (i := 1) dX3_readLand_73 rfl rfl rfl ?_
    refine jr_putI (pc' := 77) jK2 (k := 11) (j := 0) wfX3_92 dX3_readLand_74 rfl (by decide) rfl (by decide) (by decide) rfl rfl rfl ?_
    refine jr_aload_n (pc' := 78) (i := 0) dX3_readLand_77 rfl rfl rfl ?_
    refine jr_get (pc' := 81) jK3 (k := 10) (j := 1) (v := .ref 11) wfX3_12 dX3_readLand_78 rfl (by decide) rfl (by decide) rfl ?_
    refine jr_iload_n (pc' := 82) (i := 3) dX3_readLand_81 rfl rfl rfl ?_
    refine jr_putI (pc' := 85) jK2 (k := 11) (j := 1) wfX3_95 dX3_readLand_82 rfl (by decide) rfl (by decide) (by decide) rfl rfl rfl ?_
    exact jr_vret dX3_readLand_85 rfl (k0 c1)
  · refine jr_if_neT (pc' := 85) dX3_readLand_66 rfl c1 ?_
    exact jr_vret dX3_readLand_85 rfl (k1 c1)

theorem q_RdtakeWord_0 {E : jEnv} {n : Nat} {X : State → Prop} {Post : Option Value → HP → Prop}  (h : HP)
    (k0 : jCall E mX3_skipBlanks n [.ref 10] h (fun v h2 => jG E mX3_takeWord (n + 1) X Post 4 [some (.ref 10)] (v.toList ++ []) h2))
    : jG E mX3_takeWord (n + 1) X Post 0 [some (.ref 10)] [] h := by
  refine jr_aload_n (pc' := 1) (i := 0) dX3_takeWord_0 rfl rfl rfl ?_
  obtain ⟨P1, hC1, hK1⟩ := k0
  exact jr_callV (pc' := 4) (k := 10) (av := []) (st := []) sX3_skipBlanks wmX3_48 dX3_takeWord_1 rfl (by decide) rfl (by decide) rfl rfl rfl (Nat.le_of_ble_eq_true rfl) rfl hC1 (fun v h2 hp => jG.weak (lv' := [some (.ref 10)]) ⟨rfl, trivial⟩ (hK1 v h2 hp))

theorem q_RdtakeWord_4 {E : jEnv} {n : Nat} {X : State → Prop} {Post : Option Value → HP → Prop}  (h : HP)
    (k0 : jG E mX3_takeWord (n + 1) X Post 12 [some (.ref 10)] [] (jPI h 10 5 (h.1 10 4)))
    : jG E mX3_takeWord (n + 1) X Post 4 [some (.ref 10)] [] h := by
  refine jr_aload_n (pc' := 5) (i := 0) dX3_takeWord_4 rfl rfl rfl ?_
  refine jr_aload_n (pc' := 6) (i := 0) dX3_takeWord_5 rfl rfl rfl ?_
  refine jr_get (pc' := 9) jK3 (k := 10) (j := 4) (v := .int (h.1 10 4)) wfX3_25 dX3_takeWord_6 rfl (by decide) rfl (by decide) rfl ?_
  refine jr_putI (pc' := 12) jK3 (k := 10) (j := 5) wfX3_28 dX3_takeWord_9 rfl (by decide) rfl (by decide) (by decide) rfl rfl rfl ?_
  exact jG.weak (lv' := [some (.ref 10)]) ⟨rfl, trivial⟩ (k0)

theorem q_RdtakeWord_12 {E : jEnv} {n : Nat} {X : State → Prop} {Post : Option Value → HP → Prop}  (h : HP)
    (k0 : ((h.1 1 1) ≤ (h.1 10 4)) → Post none h)
    (k1 : (¬ (h.1 1 1) ≤ (h.1 10 4)) → ((f_RdisLetter (f_TxbyteAt (h.1 1 1) (h.1 2) (h.1 10 4))) = 0) → Post none h)
    (k2 : (¬ (h.1 1 1) ≤ (h.1 10 4)) → (¬ (f_RdisLetter (f_TxbyteAt (h.1 1 1) (h.1 2) (h.1 10 4))) = 0) → jG E mX3_takeWord (n + 1) X Post 12 [some (.ref 10)] [] (jPI h 10 4 ((h.1 10 4) + 1)))
    : jG E mX3_takeWord (n + 1) X Post 12 [some (.ref 10)] [] h := by
  refine jr_aload_n (pc' := 13) (i := 0) dX3_takeWord_12 rfl rfl rfl ?_
  refine jr_get (pc' := 16) jK3 (k := 10) (j := 4) (v := .int (h.1 10 4)) wfX3_25 dX3_takeWord_13 rfl (by decide) rfl (by decide) rfl ?_
  refine jr_aload_n (pc' := 17) (i := 0) dX3_takeWord_16 rfl rfl rfl ?_
  refine jr_get (pc' := 20) jK3 (k := 10) (j := 0) (v := .ref 1) wfX3_41 dX3_takeWord_17 rfl (by decide) rfl (by decide) rfl ?_
  refine jr_get (pc' := 23) jK6 (k := 1) (j := 1) (v := .int (h.1 1 1)) wfX3_51 dX3_takeWord_20 rfl (by decide) rfl (by decide) rfl ?_
  by_cases c1 : (h.1 1 1) ≤ (h.1 10 4)
  · refine jr_icmp_geT (pc' := 56) dX3_takeWord_23 rfl c1 ?_
    exact jr_vret dX3_takeWord_56 rfl (k0 c1)
  · refine jr_icmp_geF (pc' := 26) (tgt := 56) dX3_takeWord_23 rfl rfl c1 ?_
    refine jr_aload_n (pc' := 27) (i := 0) dX3_takeWord_26 rfl rfl rfl ?_
    refine jr_get (pc' := 30) jK3 (k := 10) (j := 0) (v := .ref 1) wfX3_41 dX3_takeWord_27 rfl (by decide) rfl (by decide) rfl ?_
    refine jr_aload_n (pc' := 31) (i := 0) dX3_takeWord_30 rfl rfl rfl ?_
    refine jr_get (pc' := 34) jK3 (k := 10) (j := 4) (v := .int (h.1 10 4)) wfX3_25 dX3_takeWord_31 rfl (by decide) rfl (by decide) rfl ?_
    refine jr_callV (pc' := 37) (k := 1) (av := [.int (h.1 10 4)]) (st := []) sX6_byteAt wmX3_167 dX3_takeWord_34 rfl (by decide) rfl (by decide) rfl rfl rfl (Nat.le_of_ble_eq_true rfl) rfl (c_TxbyteAt (n := n) (h.1 10 4) h ) (fun v h2 hp => ?_)
    rw [hp.1, hp.2]
    show jG E mX3_takeWord (n + 1) X Post 37 [some (.ref 10)] [.int (f_TxbyteAt (h.1 1 1) (h.1 2) (h.1 10 4))] h
    refine jr_callS (pc' := 40) (av := [.int (f_TxbyteAt (h.1 1 1) (h.1 2) (h.1 10 4))]) (st := []) sX3_isLetter wmX3_171 dX3_takeWord_37 rfl rfl (Nat.le_of_ble_eq_true rfl) rfl (c_RdisLetter (n := n) (f_TxbyteAt (h.1 1 1) (h.1 2) (h.1 10 4)) h ) (fun v h2 hp => ?_)
    rw [hp.1, hp.2]
    show jG E mX3_takeWord (n + 1) X Post 40 [some (.ref 10)] [.int (f_RdisLetter (f_TxbyteAt (h.1 1 1) (h.1 2) (h.1 10 4)))] h
    by_cases c2 : (f_RdisLetter (f_TxbyteAt (h.1 1 1) (h.1 2) (h.1 10 4))) = 0
    · refine jr_if_eqT (pc' := 56) dX3_takeWord_40 rfl c2 ?_
      exact jr_vret dX3_takeWord_56 rfl (k1 c1 c2)
    · refine jr_if_eqF (pc' := 43) (tgt := 56) dX3_takeWord_40 rfl rfl c2 ?_
      refine jr_aload_n (pc' := 44) (i := 0) dX3_takeWord_43 rfl rfl rfl ?_
      refine jr_dup (pc' := 45)  dX3_takeWord_44 rfl rfl ?_
      refine jr_get (pc' := 48) jK3 (k := 10) (j := 4) (v := .int (h.1 10 4)) wfX3_25 dX3_takeWord_45 rfl (by decide) rfl (by decide) rfl ?_
      refine jr_iconst (pc' := 49) (v := 1) dX3_takeWord_48 rfl (by decide) ?_
      refine jr_iadd (pc' := 50)  dX3_takeWord_49 rfl  ?_
      refine jr_putI (pc' := 53) jK3 (k := 10) (j := 4) wfX3_25 dX3_takeWord_50 rfl (by decide) rfl (by decide) (by decide) rfl rfl rfl ?_
      refine jr_goto (pc' := 12) dX3_takeWord_53 rfl ?_
      exact jG.weak (lv' := [some (.ref 10)]) ⟨rfl, trivial⟩ (k2 c1 c2)

theorem q_RdwordIs0_0 {E : jEnv} {n : Nat} {X : State → Prop} {Post : Option Value → HP → Prop}  (h : HP)
    (k0 : (((h.1 10 4) - (h.1 10 5)) = (nI 4)) → jG E mX3_wordIs (n + 2) X Post 20 [some (.ref 10), some (.ref 2000), some (.int 0)] [] h)
    (k1 : (¬ ((h.1 10 4) - (h.1 10 5)) = (nI 4)) → Post (some (.int 0)) h)
    : jG E mX3_wordIs (n + 2) X Post 0 [some (.ref 10), some (.ref 2000), none] [] h := by
  refine jr_aload_n (pc' := 1) (i := 0) dX3_wordIs_0 rfl rfl rfl ?_
  refine jr_get (pc' := 4) jK3 (k := 10) (j := 4) (v := .int (h.1 10 4)) wfX3_25 dX3_wordIs_1 rfl (by decide) rfl (by decide) rfl ?_
  refine jr_aload_n (pc' := 5) (i := 0) dX3_wordIs_4 rfl rfl rfl ?_
  refine jr_get (pc' := 8) jK3 (k := 10) (j := 5) (v := .int (h.1 10 5)) wfX3_28 dX3_wordIs_5 rfl (by decide) rfl (by decide) rfl ?_
  refine jr_isub (pc' := 9)  dX3_wordIs_8 rfl  ?_
  refine jr_aload_n (pc' := 10) (i := 1) dX3_wordIs_9 rfl rfl rfl ?_
  refine jr_callT (pc' := 13) (i := 0) (av := []) (st := [.int ((h.1 10 4) - (h.1 10 5))]) (by decide) sJ0_length_8abf5 rfl wmX3_175 dX3_wordIs_10 rfl rfl (Nat.le_of_ble_eq_true rfl) rfl (c_length (n := n) (by decide) h) (fun v h2 hp => ?_)
  rw [hp.1, hp.2]
  show jG E mX3_wordIs (n + 2) X Post 13 [some (.ref 10), some (.ref 2000), none] [.int (nI 4), .int ((h.1 10 4) - (h.1 10 5))] h
  by_cases c1 : ((h.1 10 4) - (h.1 10 5)) = (nI 4)
  · refine jr_icmp_eqT (pc' := 18) dX3_wordIs_13 rfl c1 ?_
    refine jr_iconst (pc' := 19) (v := 0) dX3_wordIs_18 rfl (by decide) ?_
    refine jr_istore_n (pc' := 20) (i := 2) (lv' := [some (.ref 10), some (.ref 2000), some (.int 0)]) dX3_wordIs_19 rfl rfl (by decide) rfl ?_
    exact jG.weak (lv' := [some (.ref 10), some (.ref 2000), some (.int 0)]) ⟨rfl, rfl, rfl, trivial⟩ (k0 c1)
  · refine jr_icmp_eqF (pc' := 16) (tgt := 18) dX3_wordIs_13 rfl rfl c1 ?_
    refine jr_iconst (pc' := 17) (v := 0) dX3_wordIs_16 rfl (by decide) ?_
    exact jr_iret dX3_wordIs_17 rfl rfl (k1 c1)

theorem q_RdwordIs0_20 {E : jEnv} {n : Nat} {X : State → Prop} {Post : Option Value → HP → Prop} (a2 : Int32) (h : HP)
    (k0 : ((nI 4) ≤ a2) → Post (some (.int 1)) h)
    (k1 : (¬ (nI 4) ≤ a2) → jCall E mJ0_charAt_5068e (n + 1) [.ref 2000, .int a2] h (fun v h2 => jG E mX3_wordIs (n + 2) X Post 46 [some (.ref 10), some (.ref 2000), some (.int a2)] (v.toList ++ [.int (f_TxbyteAt (h.1 1 1) (h.1 2) ((h.1 10 5) + a2))]) h2))
    : jG E mX3_wordIs (n + 2) X Post 20 [some (.ref 10), some (.ref 2000), some (.int a2)] [] h := by
  refine jr_iload_n (pc' := 21) (i := 2) dX3_wordIs_20 rfl rfl rfl ?_
  refine jr_aload_n (pc' := 22) (i := 1) dX3_wordIs_21 rfl rfl rfl ?_
  refine jr_callT (pc' := 25) (i := 0) (av := []) (st := [.int a2]) (by decide) sJ0_length_8abf5 rfl wmX3_175 dX3_wordIs_22 rfl rfl (Nat.le_of_ble_eq_true rfl) rfl (c_length (n := n) (by decide) h) (fun v h2 hp => ?_)
  rw [hp.1, hp.2]
  show jG E mX3_wordIs (n + 2) X Post 25 [some (.ref 10), some (.ref 2000), some (.int a2)] [.int (nI 4), .int a2] h
  by_cases c1 : (nI 4) ≤ a2
  · refine jr_icmp_geT (pc' := 57) dX3_wordIs_25 rfl c1 ?_
    refine jr_iconst (pc' := 58) (v := 1) dX3_wordIs_57 rfl (by decide) ?_
    exact jr_iret dX3_wordIs_58 rfl rfl (k0 c1)
  · refine jr_icmp_geF (pc' := 28) (tgt := 57) dX3_wordIs_25 rfl rfl c1 ?_
    refine jr_aload_n (pc' := 29) (i := 0) dX3_wordIs_28 rfl rfl rfl ?_
    refine jr_get (pc' := 32) jK3 (k := 10) (j := 0) (v := .ref 1) wfX3_41 dX3_wordIs_29 rfl (by decide) rfl (by decide) rfl ?_
    refine jr_aload_n (pc' := 33) (i := 0) dX3_wordIs_32 rfl rfl rfl ?_
    refine jr_get (pc' := 36) jK3 (k := 10) (j := 5) (v := .int (h.1 10 5)) wfX3_28 dX3_wordIs_33 rfl (by decide) rfl (by decide) rfl ?_
    refine jr_iload_n (pc' := 37) (i := 2) dX3_wordIs_36 rfl rfl rfl ?_
    refine jr_iadd (pc' := 38)  dX3_wordIs_37 rfl  ?_
    refine jr_callV (pc' := 41) (k := 1) (av := [.int ((h.1 10 5) + a2)]) (st := []) sX6_byteAt wmX3_167 dX3_wordIs_38 rfl (by decide) rfl (by decide) rfl rfl rfl (Nat.le_of_ble_eq_true rfl) rfl (c_TxbyteAt (n := n + 1) ((h.1 10 5) + a2) h ) (fun v h2 hp => ?_)
    rw [hp.1, hp.2]
    show jG E mX3_wordIs (n + 2) X Post 41 [some (.ref 10), some (.ref 2000), some (.int a2)] [.int (f_TxbyteAt (h.1 1 1) (h.1 2) ((h.1 10 5) + a2))] h
    refine jr_aload_n (pc' := 42) (i := 1) dX3_wordIs_41 rfl rfl rfl ?_
    refine jr_iload_n (pc' := 43) (i := 2) dX3_wordIs_42 rfl rfl rfl ?_
    obtain ⟨P1, hC1, hK1⟩ := k1 c1
    exact jr_callT (pc' := 46) (i := 0) (av := [.int a2]) (st := [.int (f_TxbyteAt (h.1 1 1) (h.1 2) ((h.1 10 5) + a2))]) (by decide) sJ0_charAt_5068e rfl wmX3_179 dX3_wordIs_43 rfl rfl (Nat.le_of_ble_eq_true rfl) rfl hC1 (fun v h2 hp => jG.weak (lv' := [some (.ref 10), some (.ref 2000), some (.int a2)]) ⟨rfl, rfl, rfl, trivial⟩ (hK1 v h2 hp))

theorem q_RdwordIs0_46 {E : jEnv} {n : Nat} {X : State → Prop} {Post : Option Value → HP → Prop} (a2 : Int32) (s0 : Int32) (s1 : Int32) (h : HP)
    (k0 : (s1 = s0) → jG E mX3_wordIs (n + 2) X Post 20 [some (.ref 10), some (.ref 2000), some (.int (a2 + 1))] [] h)
    (k1 : (¬ s1 = s0) → Post (some (.int 0)) h)
    : jG E mX3_wordIs (n + 2) X Post 46 [some (.ref 10), some (.ref 2000), some (.int a2)] [.int s0, .int s1] h := by
  by_cases c1 : s1 = s0
  · refine jr_icmp_eqT (pc' := 51) dX3_wordIs_46 rfl c1 ?_
    refine jr_iinc (pc' := 54) (i := 2) (v := (a2 + 1)) (lv' := [some (.ref 10), some (.ref 2000), some (.int (a2 + 1))]) dX3_wordIs_51 rfl rfl (congrArg (a2 + ·) (by decide)) (by decide) rfl ?_
    refine jr_goto (pc' := 20) dX3_wordIs_54 rfl ?_
    exact jG.weak (lv' := [some (.ref 10), some (.ref 2000), some (.int (a2 + 1))]) ⟨rfl, rfl, rfl, trivial⟩ (k0 c1)
  · refine jr_icmp_eqF (pc' := 49) (tgt := 51) dX3_wordIs_46 rfl rfl c1 ?_
    refine jr_iconst (pc' := 50) (v := 0) dX3_wordIs_49 rfl (by decide) ?_
    exact jr_iret dX3_wordIs_50 rfl rfl (k1 c1)

theorem q_RdwordIs1_0 {E : jEnv} {n : Nat} {X : State → Prop} {Post : Option Value → HP → Prop}  (h : HP)
    (k0 : (((h.1 10 4) - (h.1 10 5)) = (nI 3)) → jG E mX3_wordIs (n + 2) X Post 20 [some (.ref 10), some (.ref 2001), some (.int 0)] [] h)
    (k1 : (¬ ((h.1 10 4) - (h.1 10 5)) = (nI 3)) → Post (some (.int 0)) h)
    : jG E mX3_wordIs (n + 2) X Post 0 [some (.ref 10), some (.ref 2001), none] [] h := by
  refine jr_aload_n (pc' := 1) (i := 0) dX3_wordIs_0 rfl rfl rfl ?_
  refine jr_get (pc' := 4) jK3 (k := 10) (j := 4) (v := .int (h.1 10 4)) wfX3_25 dX3_wordIs_1 rfl (by decide) rfl (by decide) rfl ?_
  refine jr_aload_n (pc' := 5) (i := 0) dX3_wordIs_4 rfl rfl rfl ?_
  refine jr_get (pc' := 8) jK3 (k := 10) (j := 5) (v := .int (h.1 10 5)) wfX3_28 dX3_wordIs_5 rfl (by decide) rfl (by decide) rfl ?_
  refine jr_isub (pc' := 9)  dX3_wordIs_8 rfl  ?_
  refine jr_aload_n (pc' := 10) (i := 1) dX3_wordIs_9 rfl rfl rfl ?_
  refine jr_callT (pc' := 13) (i := 1) (av := []) (st := [.int ((h.1 10 4) - (h.1 10 5))]) (by decide) sJ0_length_8abf5 rfl wmX3_175 dX3_wordIs_10 rfl rfl (Nat.le_of_ble_eq_true rfl) rfl (c_length (n := n) (by decide) h) (fun v h2 hp => ?_)
  rw [hp.1, hp.2]
  show jG E mX3_wordIs (n + 2) X Post 13 [some (.ref 10), some (.ref 2001), none] [.int (nI 3), .int ((h.1 10 4) - (h.1 10 5))] h
  by_cases c1 : ((h.1 10 4) - (h.1 10 5)) = (nI 3)
  · refine jr_icmp_eqT (pc' := 18) dX3_wordIs_13 rfl c1 ?_
    refine jr_iconst (pc' := 19) (v := 0) dX3_wordIs_18 rfl (by decide) ?_
    refine jr_istore_n (pc' := 20) (i := 2) (lv' := [some (.ref 10), some (.ref 2001), some (.int 0)]) dX3_wordIs_19 rfl rfl (by decide) rfl ?_
    exact jG.weak (lv' := [some (.ref 10), some (.ref 2001), some (.int 0)]) ⟨rfl, rfl, rfl, trivial⟩ (k0 c1)
  · refine jr_icmp_eqF (pc' := 16) (tgt := 18) dX3_wordIs_13 rfl rfl c1 ?_
    refine jr_iconst (pc' := 17) (v := 0) dX3_wordIs_16 rfl (by decide) ?_
    exact jr_iret dX3_wordIs_17 rfl rfl (k1 c1)

theorem q_RdwordIs1_20 {E : jEnv} {n : Nat} {X : State → Prop} {Post : Option Value → HP → Prop} (a2 : Int32) (h : HP)
    (k0 : ((nI 3) ≤ a2) → Post (some (.int 1)) h)
    (k1 : (¬ (nI 3) ≤ a2) → jCall E mJ0_charAt_5068e (n + 1) [.ref 2001, .int a2] h (fun v h2 => jG E mX3_wordIs (n + 2) X Post 46 [some (.ref 10), some (.ref 2001), some (.int a2)] (v.toList ++ [.int (f_TxbyteAt (h.1 1 1) (h.1 2) ((h.1 10 5) + a2))]) h2))
    : jG E mX3_wordIs (n + 2) X Post 20 [some (.ref 10), some (.ref 2001), some (.int a2)] [] h := by
  refine jr_iload_n (pc' := 21) (i := 2) dX3_wordIs_20 rfl rfl rfl ?_
  refine jr_aload_n (pc' := 22) (i := 1) dX3_wordIs_21 rfl rfl rfl ?_
  refine jr_callT (pc' := 25) (i := 1) (av := []) (st := [.int a2]) (by decide) sJ0_length_8abf5 rfl wmX3_175 dX3_wordIs_22 rfl rfl (Nat.le_of_ble_eq_true rfl) rfl (c_length (n := n) (by decide) h) (fun v h2 hp => ?_)
  rw [hp.1, hp.2]
  show jG E mX3_wordIs (n + 2) X Post 25 [some (.ref 10), some (.ref 2001), some (.int a2)] [.int (nI 3), .int a2] h
  by_cases c1 : (nI 3) ≤ a2
  · refine jr_icmp_geT (pc' := 57) dX3_wordIs_25 rfl c1 ?_
    refine jr_iconst (pc' := 58) (v := 1) dX3_wordIs_57 rfl (by decide) ?_
    exact jr_iret dX3_wordIs_58 rfl rfl (k0 c1)
  · refine jr_icmp_geF (pc' := 28) (tgt := 57) dX3_wordIs_25 rfl rfl c1 ?_
    refine jr_aload_n (pc' := 29) (i := 0) dX3_wordIs_28 rfl rfl rfl ?_
    refine jr_get (pc' := 32) jK3 (k := 10) (j := 0) (v := .ref 1) wfX3_41 dX3_wordIs_29 rfl (by decide) rfl (by decide) rfl ?_
    refine jr_aload_n (pc' := 33) (i := 0) dX3_wordIs_32 rfl rfl rfl ?_
    refine jr_get (pc' := 36) jK3 (k := 10) (j := 5) (v := .int (h.1 10 5)) wfX3_28 dX3_wordIs_33 rfl (by decide) rfl (by decide) rfl ?_
    refine jr_iload_n (pc' := 37) (i := 2) dX3_wordIs_36 rfl rfl rfl ?_
    refine jr_iadd (pc' := 38)  dX3_wordIs_37 rfl  ?_
    refine jr_callV (pc' := 41) (k := 1) (av := [.int ((h.1 10 5) + a2)]) (st := []) sX6_byteAt wmX3_167 dX3_wordIs_38 rfl (by decide) rfl (by decide) rfl rfl rfl (Nat.le_of_ble_eq_true rfl) rfl (c_TxbyteAt (n := n + 1) ((h.1 10 5) + a2) h ) (fun v h2 hp => ?_)
    rw [hp.1, hp.2]
    show jG E mX3_wordIs (n + 2) X Post 41 [some (.ref 10), some (.ref 2001), some (.int a2)] [.int (f_TxbyteAt (h.1 1 1) (h.1 2) ((h.1 10 5) + a2))] h
    refine jr_aload_n (pc' := 42) (i := 1) dX3_wordIs_41 rfl rfl rfl ?_
    refine jr_iload_n (pc' := 43) (i := 2) dX3_wordIs_42 rfl rfl rfl ?_
    obtain ⟨P1, hC1, hK1⟩ := k1 c1
    exact jr_callT (pc' := 46) (i := 1) (av := [.int a2]) (st := [.int (f_TxbyteAt (h.1 1 1) (h.1 2) ((h.1 10 5) + a2))]) (by decide) sJ0_charAt_5068e rfl wmX3_179 dX3_wordIs_43 rfl rfl (Nat.le_of_ble_eq_true rfl) rfl hC1 (fun v h2 hp => jG.weak (lv' := [some (.ref 10), some (.ref 2001), some (.int a2)]) ⟨rfl, rfl, rfl, trivial⟩ (hK1 v h2 hp))

theorem q_RdwordIs1_46 {E : jEnv} {n : Nat} {X : State → Prop} {Post : Option Value → HP → Prop} (a2 : Int32) (s0 : Int32) (s1 : Int32) (h : HP)
    (k0 : (s1 = s0) → jG E mX3_wordIs (n + 2) X Post 20 [some (.ref 10), some (.ref 2001), some (.int (a2 + 1))] [] h)
    (k1 : (¬ s1 = s0) → Post (some (.int 0)) h)
    : jG E mX3_wordIs (n + 2) X Post 46 [some (.ref 10), some (.ref 2001), some (.int a2)] [.int s0, .int s1] h := by
  by_cases c1 : s1 = s0
  · refine jr_icmp_eqT (pc' := 51) dX3_wordIs_46 rfl c1 ?_
    refine jr_iinc (pc' := 54) (i := 2) (v := (a2 + 1)) (lv' := [some (.ref 10), some (.ref 2001), some (.int (a2 + 1))]) dX3_wordIs_51 rfl rfl (congrArg (a2 + ·) (by decide)) (by decide) rfl ?_
    refine jr_goto (pc' := 20) dX3_wordIs_54 rfl ?_
    exact jG.weak (lv' := [some (.ref 10), some (.ref 2001), some (.int (a2 + 1))]) ⟨rfl, rfl, rfl, trivial⟩ (k0 c1)
  · refine jr_icmp_eqF (pc' := 49) (tgt := 51) dX3_wordIs_46 rfl rfl c1 ?_
    refine jr_iconst (pc' := 50) (v := 0) dX3_wordIs_49 rfl (by decide) ?_
    exact jr_iret dX3_wordIs_50 rfl rfl (k1 c1)

theorem q_RdwordIs2_0 {E : jEnv} {n : Nat} {X : State → Prop} {Post : Option Value → HP → Prop}  (h : HP)
    (k0 : (((h.1 10 4) - (h.1 10 5)) = (nI 4)) → jG E mX3_wordIs (n + 2) X Post 20 [some (.ref 10), some (.ref 2002), some (.int 0)] [] h)
    (k1 : (¬ ((h.1 10 4) - (h.1 10 5)) = (nI 4)) → Post (some (.int 0)) h)
    : jG E mX3_wordIs (n + 2) X Post 0 [some (.ref 10), some (.ref 2002), none] [] h := by
  refine jr_aload_n (pc' := 1) (i := 0) dX3_wordIs_0 rfl rfl rfl ?_
  refine jr_get (pc' := 4) jK3 (k := 10) (j := 4) (v := .int (h.1 10 4)) wfX3_25 dX3_wordIs_1 rfl (by decide) rfl (by decide) rfl ?_
  refine jr_aload_n (pc' := 5) (i := 0) dX3_wordIs_4 rfl rfl rfl ?_
  refine jr_get (pc' := 8) jK3 (k := 10) (j := 5) (v := .int (h.1 10 5)) wfX3_28 dX3_wordIs_5 rfl (by decide) rfl (by decide) rfl ?_
  refine jr_isub (pc' := 9)  dX3_wordIs_8 rfl  ?_
  refine jr_aload_n (pc' := 10) (i := 1) dX3_wordIs_9 rfl rfl rfl ?_
  refine jr_callT (pc' := 13) (i := 2) (av := []) (st := [.int ((h.1 10 4) - (h.1 10 5))]) (by decide) sJ0_length_8abf5 rfl wmX3_175 dX3_wordIs_10 rfl rfl (Nat.le_of_ble_eq_true rfl) rfl (c_length (n := n) (by decide) h) (fun v h2 hp => ?_)
  rw [hp.1, hp.2]
  show jG E mX3_wordIs (n + 2) X Post 13 [some (.ref 10), some (.ref 2002), none] [.int (nI 4), .int ((h.1 10 4) - (h.1 10 5))] h
  by_cases c1 : ((h.1 10 4) - (h.1 10 5)) = (nI 4)
  · refine jr_icmp_eqT (pc' := 18) dX3_wordIs_13 rfl c1 ?_
    refine jr_iconst (pc' := 19) (v := 0) dX3_wordIs_18 rfl (by decide) ?_
    refine jr_istore_n (pc' := 20) (i := 2) (lv' := [some (.ref 10), some (.ref 2002), some (.int 0)]) dX3_wordIs_19 rfl rfl (by decide) rfl ?_
    exact jG.weak (lv' := [some (.ref 10), some (.ref 2002), some (.int 0)]) ⟨rfl, rfl, rfl, trivial⟩ (k0 c1)
  · refine jr_icmp_eqF (pc' := 16) (tgt := 18) dX3_wordIs_13 rfl rfl c1 ?_
    refine jr_iconst (pc' := 17) (v := 0) dX3_wordIs_16 rfl (by decide) ?_
    exact jr_iret dX3_wordIs_17 rfl rfl (k1 c1)

theorem q_RdwordIs2_20 {E : jEnv} {n : Nat} {X : State → Prop} {Post : Option Value → HP → Prop} (a2 : Int32) (h : HP)
    (k0 : ((nI 4) ≤ a2) → Post (some (.int 1)) h)
    (k1 : (¬ (nI 4) ≤ a2) → jCall E mJ0_charAt_5068e (n + 1) [.ref 2002, .int a2] h (fun v h2 => jG E mX3_wordIs (n + 2) X Post 46 [some (.ref 10), some (.ref 2002), some (.int a2)] (v.toList ++ [.int (f_TxbyteAt (h.1 1 1) (h.1 2) ((h.1 10 5) + a2))]) h2))
    : jG E mX3_wordIs (n + 2) X Post 20 [some (.ref 10), some (.ref 2002), some (.int a2)] [] h := by
  refine jr_iload_n (pc' := 21) (i := 2) dX3_wordIs_20 rfl rfl rfl ?_
  refine jr_aload_n (pc' := 22) (i := 1) dX3_wordIs_21 rfl rfl rfl ?_
  refine jr_callT (pc' := 25) (i := 2) (av := []) (st := [.int a2]) (by decide) sJ0_length_8abf5 rfl wmX3_175 dX3_wordIs_22 rfl rfl (Nat.le_of_ble_eq_true rfl) rfl (c_length (n := n) (by decide) h) (fun v h2 hp => ?_)
  rw [hp.1, hp.2]
  show jG E mX3_wordIs (n + 2) X Post 25 [some (.ref 10), some (.ref 2002), some (.int a2)] [.int (nI 4), .int a2] h
  by_cases c1 : (nI 4) ≤ a2
  · refine jr_icmp_geT (pc' := 57) dX3_wordIs_25 rfl c1 ?_
    refine jr_iconst (pc' := 58) (v := 1) dX3_wordIs_57 rfl (by decide) ?_
    exact jr_iret dX3_wordIs_58 rfl rfl (k0 c1)
  · refine jr_icmp_geF (pc' := 28) (tgt := 57) dX3_wordIs_25 rfl rfl c1 ?_
    refine jr_aload_n (pc' := 29) (i := 0) dX3_wordIs_28 rfl rfl rfl ?_
    refine jr_get (pc' := 32) jK3 (k := 10) (j := 0) (v := .ref 1) wfX3_41 dX3_wordIs_29 rfl (by decide) rfl (by decide) rfl ?_
    refine jr_aload_n (pc' := 33) (i := 0) dX3_wordIs_32 rfl rfl rfl ?_
    refine jr_get (pc' := 36) jK3 (k := 10) (j := 5) (v := .int (h.1 10 5)) wfX3_28 dX3_wordIs_33 rfl (by decide) rfl (by decide) rfl ?_
    refine jr_iload_n (pc' := 37) (i := 2) dX3_wordIs_36 rfl rfl rfl ?_
    refine jr_iadd (pc' := 38)  dX3_wordIs_37 rfl  ?_
    refine jr_callV (pc' := 41) (k := 1) (av := [.int ((h.1 10 5) + a2)]) (st := []) sX6_byteAt wmX3_167 dX3_wordIs_38 rfl (by decide) rfl (by decide) rfl rfl rfl (Nat.le_of_ble_eq_true rfl) rfl (c_TxbyteAt (n := n + 1) ((h.1 10 5) + a2) h ) (fun v h2 hp => ?_)
    rw [hp.1, hp.2]
    show jG E mX3_wordIs (n + 2) X Post 41 [some (.ref 10), some (.ref 2002), some (.int a2)] [.int (f_TxbyteAt (h.1 1 1) (h.1 2) ((h.1 10 5) + a2))] h
    refine jr_aload_n (pc' := 42) (i := 1) dX3_wordIs_41 rfl rfl rfl ?_
    refine jr_iload_n (pc' := 43) (i := 2) dX3_wordIs_42 rfl rfl rfl ?_
    obtain ⟨P1, hC1, hK1⟩ := k1 c1
    exact jr_callT (pc' := 46) (i := 2) (av := [.int a2]) (st := [.int (f_TxbyteAt (h.1 1 1) (h.1 2) ((h.1 10 5) + a2))]) (by decide) sJ0_charAt_5068e rfl wmX3_179 dX3_wordIs_43 rfl rfl (Nat.le_of_ble_eq_true rfl) rfl hC1 (fun v h2 hp => jG.weak (lv' := [some (.ref 10), some (.ref 2002), some (.int a2)]) ⟨rfl, rfl, rfl, trivial⟩ (hK1 v h2 hp))

theorem q_RdwordIs2_46 {E : jEnv} {n : Nat} {X : State → Prop} {Post : Option Value → HP → Prop} (a2 : Int32) (s0 : Int32) (s1 : Int32) (h : HP)
    (k0 : (s1 = s0) → jG E mX3_wordIs (n + 2) X Post 20 [some (.ref 10), some (.ref 2002), some (.int (a2 + 1))] [] h)
    (k1 : (¬ s1 = s0) → Post (some (.int 0)) h)
    : jG E mX3_wordIs (n + 2) X Post 46 [some (.ref 10), some (.ref 2002), some (.int a2)] [.int s0, .int s1] h := by
  by_cases c1 : s1 = s0
  · refine jr_icmp_eqT (pc' := 51) dX3_wordIs_46 rfl c1 ?_
    refine jr_iinc (pc' := 54) (i := 2) (v := (a2 + 1)) (lv' := [some (.ref 10), some (.ref 2002), some (.int (a2 + 1))]) dX3_wordIs_51 rfl rfl (congrArg (a2 + ·) (by decide)) (by decide) rfl ?_
    refine jr_goto (pc' := 20) dX3_wordIs_54 rfl ?_
    exact jG.weak (lv' := [some (.ref 10), some (.ref 2002), some (.int (a2 + 1))]) ⟨rfl, rfl, rfl, trivial⟩ (k0 c1)
  · refine jr_icmp_eqF (pc' := 49) (tgt := 51) dX3_wordIs_46 rfl rfl c1 ?_
    refine jr_iconst (pc' := 50) (v := 0) dX3_wordIs_49 rfl (by decide) ?_
    exact jr_iret dX3_wordIs_50 rfl rfl (k1 c1)

theorem q_RdwordIs3_0 {E : jEnv} {n : Nat} {X : State → Prop} {Post : Option Value → HP → Prop}  (h : HP)
    (k0 : (((h.1 10 4) - (h.1 10 5)) = (nI 3)) → jG E mX3_wordIs (n + 2) X Post 20 [some (.ref 10), some (.ref 2003), some (.int 0)] [] h)
    (k1 : (¬ ((h.1 10 4) - (h.1 10 5)) = (nI 3)) → Post (some (.int 0)) h)
    : jG E mX3_wordIs (n + 2) X Post 0 [some (.ref 10), some (.ref 2003), none] [] h := by
  refine jr_aload_n (pc' := 1) (i := 0) dX3_wordIs_0 rfl rfl rfl ?_
  refine jr_get (pc' := 4) jK3 (k := 10) (j := 4) (v := .int (h.1 10 4)) wfX3_25 dX3_wordIs_1 rfl (by decide) rfl (by decide) rfl ?_
  refine jr_aload_n (pc' := 5) (i := 0) dX3_wordIs_4 rfl rfl rfl ?_
  refine jr_get (pc' := 8) jK3 (k := 10) (j := 5) (v := .int (h.1 10 5)) wfX3_28 dX3_wordIs_5 rfl (by decide) rfl (by decide) rfl ?_
  refine jr_isub (pc' := 9)  dX3_wordIs_8 rfl  ?_
  refine jr_aload_n (pc' := 10) (i := 1) dX3_wordIs_9 rfl rfl rfl ?_
  refine jr_callT (pc' := 13) (i := 3) (av := []) (st := [.int ((h.1 10 4) - (h.1 10 5))]) (by decide) sJ0_length_8abf5 rfl wmX3_175 dX3_wordIs_10 rfl rfl (Nat.le_of_ble_eq_true rfl) rfl (c_length (n := n) (by decide) h) (fun v h2 hp => ?_)
  rw [hp.1, hp.2]
  show jG E mX3_wordIs (n + 2) X Post 13 [some (.ref 10), some (.ref 2003), none] [.int (nI 3), .int ((h.1 10 4) - (h.1 10 5))] h
  by_cases c1 : ((h.1 10 4) - (h.1 10 5)) = (nI 3)
  · refine jr_icmp_eqT (pc' := 18) dX3_wordIs_13 rfl c1 ?_
    refine jr_iconst (pc' := 19) (v := 0) dX3_wordIs_18 rfl (by decide) ?_
    refine jr_istore_n (pc' := 20) (i := 2) (lv' := [some (.ref 10), some (.ref 2003), some (.int 0)]) dX3_wordIs_19 rfl rfl (by decide) rfl ?_
    exact jG.weak (lv' := [some (.ref 10), some (.ref 2003), some (.int 0)]) ⟨rfl, rfl, rfl, trivial⟩ (k0 c1)
  · refine jr_icmp_eqF (pc' := 16) (tgt := 18) dX3_wordIs_13 rfl rfl c1 ?_
    refine jr_iconst (pc' := 17) (v := 0) dX3_wordIs_16 rfl (by decide) ?_
    exact jr_iret dX3_wordIs_17 rfl rfl (k1 c1)

theorem q_RdwordIs3_20 {E : jEnv} {n : Nat} {X : State → Prop} {Post : Option Value → HP → Prop} (a2 : Int32) (h : HP)
    (k0 : ((nI 3) ≤ a2) → Post (some (.int 1)) h)
    (k1 : (¬ (nI 3) ≤ a2) → jCall E mJ0_charAt_5068e (n + 1) [.ref 2003, .int a2] h (fun v h2 => jG E mX3_wordIs (n + 2) X Post 46 [some (.ref 10), some (.ref 2003), some (.int a2)] (v.toList ++ [.int (f_TxbyteAt (h.1 1 1) (h.1 2) ((h.1 10 5) + a2))]) h2))
    : jG E mX3_wordIs (n + 2) X Post 20 [some (.ref 10), some (.ref 2003), some (.int a2)] [] h := by
  refine jr_iload_n (pc' := 21) (i := 2) dX3_wordIs_20 rfl rfl rfl ?_
  refine jr_aload_n (pc' := 22) (i := 1) dX3_wordIs_21 rfl rfl rfl ?_
  refine jr_callT (pc' := 25) (i := 3) (av := []) (st := [.int a2]) (by decide) sJ0_length_8abf5 rfl wmX3_175 dX3_wordIs_22 rfl rfl (Nat.le_of_ble_eq_true rfl) rfl (c_length (n := n) (by decide) h) (fun v h2 hp => ?_)
  rw [hp.1, hp.2]
  show jG E mX3_wordIs (n + 2) X Post 25 [some (.ref 10), some (.ref 2003), some (.int a2)] [.int (nI 3), .int a2] h
  by_cases c1 : (nI 3) ≤ a2
  · refine jr_icmp_geT (pc' := 57) dX3_wordIs_25 rfl c1 ?_
    refine jr_iconst (pc' := 58) (v := 1) dX3_wordIs_57 rfl (by decide) ?_
    exact jr_iret dX3_wordIs_58 rfl rfl (k0 c1)
  · refine jr_icmp_geF (pc' := 28) (tgt := 57) dX3_wordIs_25 rfl rfl c1 ?_
    refine jr_aload_n (pc' := 29) (i := 0) dX3_wordIs_28 rfl rfl rfl ?_
    refine jr_get (pc' := 32) jK3 (k := 10) (j := 0) (v := .ref 1) wfX3_41 dX3_wordIs_29 rfl (by decide) rfl (by decide) rfl ?_
    refine jr_aload_n (pc' := 33) (i := 0) dX3_wordIs_32 rfl rfl rfl ?_
    refine jr_get (pc' := 36) jK3 (k := 10) (j := 5) (v := .int (h.1 10 5)) wfX3_28 dX3_wordIs_33 rfl (by decide) rfl (by decide) rfl ?_
    refine jr_iload_n (pc' := 37) (i := 2) dX3_wordIs_36 rfl rfl rfl ?_
    refine jr_iadd (pc' := 38)  dX3_wordIs_37 rfl  ?_
    refine jr_callV (pc' := 41) (k := 1) (av := [.int ((h.1 10 5) + a2)]) (st := []) sX6_byteAt wmX3_167 dX3_wordIs_38 rfl (by decide) rfl (by decide) rfl rfl rfl (Nat.le_of_ble_eq_true rfl) rfl (c_TxbyteAt (n := n + 1) ((h.1 10 5) + a2) h ) (fun v h2 hp => ?_)
    rw [hp.1, hp.2]
    show jG E mX3_wordIs (n + 2) X Post 41 [some (.ref 10), some (.ref 2003), some (.int a2)] [.int (f_TxbyteAt (h.1 1 1) (h.1 2) ((h.1 10 5) + a2))] h
    refine jr_aload_n (pc' := 42) (i := 1) dX3_wordIs_41 rfl rfl rfl ?_
    refine jr_iload_n (pc' := 43) (i := 2) dX3_wordIs_42 rfl rfl rfl ?_
    obtain ⟨P1, hC1, hK1⟩ := k1 c1
    exact jr_callT (pc' := 46) (i := 3) (av := [.int a2]) (st := [.int (f_TxbyteAt (h.1 1 1) (h.1 2) ((h.1 10 5) + a2))]) (by decide) sJ0_charAt_5068e rfl wmX3_179 dX3_wordIs_43 rfl rfl (Nat.le_of_ble_eq_true rfl) rfl hC1 (fun v h2 hp => jG.weak (lv' := [some (.ref 10), some (.ref 2003), some (.int a2)]) ⟨rfl, rfl, rfl, trivial⟩ (hK1 v h2 hp))

theorem q_RdwordIs3_46 {E : jEnv} {n : Nat} {X : State → Prop} {Post : Option Value → HP → Prop} (a2 : Int32) (s0 : Int32) (s1 : Int32) (h : HP)
    (k0 : (s1 = s0) → jG E mX3_wordIs (n + 2) X Post 20 [some (.ref 10), some (.ref 2003), some (.int (a2 + 1))] [] h)
    (k1 : (¬ s1 = s0) → Post (some (.int 0)) h)
    : jG E mX3_wordIs (n + 2) X Post 46 [some (.ref 10), some (.ref 2003), some (.int a2)] [.int s0, .int s1] h := by
  by_cases c1 : s1 = s0
  · refine jr_icmp_eqT (pc' := 51) dX3_wordIs_46 rfl c1 ?_
    refine jr_iinc (pc' := 54) (i := 2) (v := (a2 + 1)) (lv' := [some (.ref 10), some (.ref 2003), some (.int (a2 + 1))]) dX3_wordIs_51 rfl rfl (congrArg (a2 + ·) (by decide)) (by decide) rfl ?_
    refine jr_goto (pc' := 20) dX3_wordIs_54 rfl ?_
    exact jG.weak (lv' := [some (.ref 10), some (.ref 2003), some (.int (a2 + 1))]) ⟨rfl, rfl, rfl, trivial⟩ (k0 c1)
  · refine jr_icmp_eqF (pc' := 49) (tgt := 51) dX3_wordIs_46 rfl rfl c1 ?_
    refine jr_iconst (pc' := 50) (v := 0) dX3_wordIs_49 rfl (by decide) ?_
    exact jr_iret dX3_wordIs_50 rfl rfl (k1 c1)

theorem q_RdwordIs4_0 {E : jEnv} {n : Nat} {X : State → Prop} {Post : Option Value → HP → Prop}  (h : HP)
    (k0 : (((h.1 10 4) - (h.1 10 5)) = (nI 4)) → jG E mX3_wordIs (n + 2) X Post 20 [some (.ref 10), some (.ref 2004), some (.int 0)] [] h)
    (k1 : (¬ ((h.1 10 4) - (h.1 10 5)) = (nI 4)) → Post (some (.int 0)) h)
    : jG E mX3_wordIs (n + 2) X Post 0 [some (.ref 10), some (.ref 2004), none] [] h := by
  refine jr_aload_n (pc' := 1) (i := 0) dX3_wordIs_0 rfl rfl rfl ?_
  refine jr_get (pc' := 4) jK3 (k := 10) (j := 4) (v := .int (h.1 10 4)) wfX3_25 dX3_wordIs_1 rfl (by decide) rfl (by decide) rfl ?_
  refine jr_aload_n (pc' := 5) (i := 0) dX3_wordIs_4 rfl rfl rfl ?_
  refine jr_get (pc' := 8) jK3 (k := 10) (j := 5) (v := .int (h.1 10 5)) wfX3_28 dX3_wordIs_5 rfl (by decide) rfl (by decide) rfl ?_
  refine jr_isub (pc' := 9)  dX3_wordIs_8 rfl  ?_
  refine jr_aload_n (pc' := 10) (i := 1) dX3_wordIs_9 rfl rfl rfl ?_
  refine jr_callT (pc' := 13) (i := 4) (av := []) (st := [.int ((h.1 10 4) - (h.1 10 5))]) (by decide) sJ0_length_8abf5 rfl wmX3_175 dX3_wordIs_10 rfl rfl (Nat.le_of_ble_eq_true rfl) rfl (c_length (n := n) (by decide) h) (fun v h2 hp => ?_)
  rw [hp.1, hp.2]
  show jG E mX3_wordIs (n + 2) X Post 13 [some (.ref 10), some (.ref 2004), none] [.int (nI 4), .int ((h.1 10 4) - (h.1 10 5))] h
  by_cases c1 : ((h.1 10 4) - (h.1 10 5)) = (nI 4)
  · refine jr_icmp_eqT (pc' := 18) dX3_wordIs_13 rfl c1 ?_
    refine jr_iconst (pc' := 19) (v := 0) dX3_wordIs_18 rfl (by decide) ?_
    refine jr_istore_n (pc' := 20) (i := 2) (lv' := [some (.ref 10), some (.ref 2004), some (.int 0)]) dX3_wordIs_19 rfl rfl (by decide) rfl ?_
    exact jG.weak (lv' := [some (.ref 10), some (.ref 2004), some (.int 0)]) ⟨rfl, rfl, rfl, trivial⟩ (k0 c1)
  · refine jr_icmp_eqF (pc' := 16) (tgt := 18) dX3_wordIs_13 rfl rfl c1 ?_
    refine jr_iconst (pc' := 17) (v := 0) dX3_wordIs_16 rfl (by decide) ?_
    exact jr_iret dX3_wordIs_17 rfl rfl (k1 c1)

theorem q_RdwordIs4_20 {E : jEnv} {n : Nat} {X : State → Prop} {Post : Option Value → HP → Prop} (a2 : Int32) (h : HP)
    (k0 : ((nI 4) ≤ a2) → Post (some (.int 1)) h)
    (k1 : (¬ (nI 4) ≤ a2) → jCall E mJ0_charAt_5068e (n + 1) [.ref 2004, .int a2] h (fun v h2 => jG E mX3_wordIs (n + 2) X Post 46 [some (.ref 10), some (.ref 2004), some (.int a2)] (v.toList ++ [.int (f_TxbyteAt (h.1 1 1) (h.1 2) ((h.1 10 5) + a2))]) h2))
    : jG E mX3_wordIs (n + 2) X Post 20 [some (.ref 10), some (.ref 2004), some (.int a2)] [] h := by
  refine jr_iload_n (pc' := 21) (i := 2) dX3_wordIs_20 rfl rfl rfl ?_
  refine jr_aload_n (pc' := 22) (i := 1) dX3_wordIs_21 rfl rfl rfl ?_
  refine jr_callT (pc' := 25) (i := 4) (av := []) (st := [.int a2]) (by decide) sJ0_length_8abf5 rfl wmX3_175 dX3_wordIs_22 rfl rfl (Nat.le_of_ble_eq_true rfl) rfl (c_length (n := n) (by decide) h) (fun v h2 hp => ?_)
  rw [hp.1, hp.2]
  show jG E mX3_wordIs (n + 2) X Post 25 [some (.ref 10), some (.ref 2004), some (.int a2)] [.int (nI 4), .int a2] h
  by_cases c1 : (nI 4) ≤ a2
  · refine jr_icmp_geT (pc' := 57) dX3_wordIs_25 rfl c1 ?_
    refine jr_iconst (pc' := 58) (v := 1) dX3_wordIs_57 rfl (by decide) ?_
    exact jr_iret dX3_wordIs_58 rfl rfl (k0 c1)
  · refine jr_icmp_geF (pc' := 28) (tgt := 57) dX3_wordIs_25 rfl rfl c1 ?_
    refine jr_aload_n (pc' := 29) (i := 0) dX3_wordIs_28 rfl rfl rfl ?_
    refine jr_get (pc' := 32) jK3 (k := 10) (j := 0) (v := .ref 1) wfX3_41 dX3_wordIs_29 rfl (by decide) rfl (by decide) rfl ?_
    refine jr_aload_n (pc' := 33) (i := 0) dX3_wordIs_32 rfl rfl rfl ?_
    refine jr_get (pc' := 36) jK3 (k := 10) (j := 5) (v := .int (h.1 10 5)) wfX3_28 dX3_wordIs_33 rfl (by decide) rfl (by decide) rfl ?_
    refine jr_iload_n (pc' := 37) (i := 2) dX3_wordIs_36 rfl rfl rfl ?_
    refine jr_iadd (pc' := 38)  dX3_wordIs_37 rfl  ?_
    refine jr_callV (pc' := 41) (k := 1) (av := [.int ((h.1 10 5) + a2)]) (st := []) sX6_byteAt wmX3_167 dX3_wordIs_38 rfl (by decide) rfl (by decide) rfl rfl rfl (Nat.le_of_ble_eq_true rfl) rfl (c_TxbyteAt (n := n + 1) ((h.1 10 5) + a2) h ) (fun v h2 hp => ?_)
    rw [hp.1, hp.2]
    show jG E mX3_wordIs (n + 2) X Post 41 [some (.ref 10), some (.ref 2004), some (.int a2)] [.int (f_TxbyteAt (h.1 1 1) (h.1 2) ((h.1 10 5) + a2))] h
    refine jr_aload_n (pc' := 42) (i := 1) dX3_wordIs_41 rfl rfl rfl ?_
    refine jr_iload_n (pc' := 43) (i := 2) dX3_wordIs_42 rfl rfl rfl ?_
    obtain ⟨P1, hC1, hK1⟩ := k1 c1
    exact jr_callT (pc' := 46) (i := 4) (av := [.int a2]) (st := [.int (f_TxbyteAt (h.1 1 1) (h.1 2) ((h.1 10 5) + a2))]) (by decide) sJ0_charAt_5068e rfl wmX3_179 dX3_wordIs_43 rfl rfl (Nat.le_of_ble_eq_true rfl) rfl hC1 (fun v h2 hp => jG.weak (lv' := [some (.ref 10), some (.ref 2004), some (.int a2)]) ⟨rfl, rfl, rfl, trivial⟩ (hK1 v h2 hp))

theorem q_RdwordIs4_46 {E : jEnv} {n : Nat} {X : State → Prop} {Post : Option Value → HP → Prop} (a2 : Int32) (s0 : Int32) (s1 : Int32) (h : HP)
    (k0 : (s1 = s0) → jG E mX3_wordIs (n + 2) X Post 20 [some (.ref 10), some (.ref 2004), some (.int (a2 + 1))] [] h)
    (k1 : (¬ s1 = s0) → Post (some (.int 0)) h)
    : jG E mX3_wordIs (n + 2) X Post 46 [some (.ref 10), some (.ref 2004), some (.int a2)] [.int s0, .int s1] h := by
  by_cases c1 : s1 = s0
  · refine jr_icmp_eqT (pc' := 51) dX3_wordIs_46 rfl c1 ?_
    refine jr_iinc (pc' := 54) (i := 2) (v := (a2 + 1)) (lv' := [some (.ref 10), some (.ref 2004), some (.int (a2 + 1))]) dX3_wordIs_51 rfl rfl (congrArg (a2 + ·) (by decide)) (by decide) rfl ?_
    refine jr_goto (pc' := 20) dX3_wordIs_54 rfl ?_
    exact jG.weak (lv' := [some (.ref 10), some (.ref 2004), some (.int (a2 + 1))]) ⟨rfl, rfl, rfl, trivial⟩ (k0 c1)
  · refine jr_icmp_eqF (pc' := 49) (tgt := 51) dX3_wordIs_46 rfl rfl c1 ?_
    refine jr_iconst (pc' := 50) (v := 0) dX3_wordIs_49 rfl (by decide) ?_
    exact jr_iret dX3_wordIs_50 rfl rfl (k1 c1)

theorem q_RdwordIs5_0 {E : jEnv} {n : Nat} {X : State → Prop} {Post : Option Value → HP → Prop}  (h : HP)
    (k0 : (((h.1 10 4) - (h.1 10 5)) = (nI 6)) → jG E mX3_wordIs (n + 2) X Post 20 [some (.ref 10), some (.ref 2005), some (.int 0)] [] h)
    (k1 : (¬ ((h.1 10 4) - (h.1 10 5)) = (nI 6)) → Post (some (.int 0)) h)
    : jG E mX3_wordIs (n + 2) X Post 0 [some (.ref 10), some (.ref 2005), none] [] h := by
  refine jr_aload_n (pc' := 1) (i := 0) dX3_wordIs_0 rfl rfl rfl ?_
  refine jr_get (pc' := 4) jK3 (k := 10) (j := 4) (v := .int (h.1 10 4)) wfX3_25 dX3_wordIs_1 rfl (by decide) rfl (by decide) rfl ?_
  refine jr_aload_n (pc' := 5) (i := 0) dX3_wordIs_4 rfl rfl rfl ?_
  refine jr_get (pc' := 8) jK3 (k := 10) (j := 5) (v := .int (h.1 10 5)) wfX3_28 dX3_wordIs_5 rfl (by decide) rfl (by decide) rfl ?_
  refine jr_isub (pc' := 9)  dX3_wordIs_8 rfl  ?_
  refine jr_aload_n (pc' := 10) (i := 1) dX3_wordIs_9 rfl rfl rfl ?_
  refine jr_callT (pc' := 13) (i := 5) (av := []) (st := [.int ((h.1 10 4) - (h.1 10 5))]) (by decide) sJ0_length_8abf5 rfl wmX3_175 dX3_wordIs_10 rfl rfl (Nat.le_of_ble_eq_true rfl) rfl (c_length (n := n) (by decide) h) (fun v h2 hp => ?_)
  rw [hp.1, hp.2]
  show jG E mX3_wordIs (n + 2) X Post 13 [some (.ref 10), some (.ref 2005), none] [.int (nI 6), .int ((h.1 10 4) - (h.1 10 5))] h
  by_cases c1 : ((h.1 10 4) - (h.1 10 5)) = (nI 6)
  · refine jr_icmp_eqT (pc' := 18) dX3_wordIs_13 rfl c1 ?_
    refine jr_iconst (pc' := 19) (v := 0) dX3_wordIs_18 rfl (by decide) ?_
    refine jr_istore_n (pc' := 20) (i := 2) (lv' := [some (.ref 10), some (.ref 2005), some (.int 0)]) dX3_wordIs_19 rfl rfl (by decide) rfl ?_
    exact jG.weak (lv' := [some (.ref 10), some (.ref 2005), some (.int 0)]) ⟨rfl, rfl, rfl, trivial⟩ (k0 c1)
  · refine jr_icmp_eqF (pc' := 16) (tgt := 18) dX3_wordIs_13 rfl rfl c1 ?_
    refine jr_iconst (pc' := 17) (v := 0) dX3_wordIs_16 rfl (by decide) ?_
    exact jr_iret dX3_wordIs_17 rfl rfl (k1 c1)

theorem q_RdwordIs5_20 {E : jEnv} {n : Nat} {X : State → Prop} {Post : Option Value → HP → Prop} (a2 : Int32) (h : HP)
    (k0 : ((nI 6) ≤ a2) → Post (some (.int 1)) h)
    (k1 : (¬ (nI 6) ≤ a2) → jCall E mJ0_charAt_5068e (n + 1) [.ref 2005, .int a2] h (fun v h2 => jG E mX3_wordIs (n + 2) X Post 46 [some (.ref 10), some (.ref 2005), some (.int a2)] (v.toList ++ [.int (f_TxbyteAt (h.1 1 1) (h.1 2) ((h.1 10 5) + a2))]) h2))
    : jG E mX3_wordIs (n + 2) X Post 20 [some (.ref 10), some (.ref 2005), some (.int a2)] [] h := by
  refine jr_iload_n (pc' := 21) (i := 2) dX3_wordIs_20 rfl rfl rfl ?_
  refine jr_aload_n (pc' := 22) (i := 1) dX3_wordIs_21 rfl rfl rfl ?_
  refine jr_callT (pc' := 25) (i := 5) (av := []) (st := [.int a2]) (by decide) sJ0_length_8abf5 rfl wmX3_175 dX3_wordIs_22 rfl rfl (Nat.le_of_ble_eq_true rfl) rfl (c_length (n := n) (by decide) h) (fun v h2 hp => ?_)
  rw [hp.1, hp.2]
  show jG E mX3_wordIs (n + 2) X Post 25 [some (.ref 10), some (.ref 2005), some (.int a2)] [.int (nI 6), .int a2] h
  by_cases c1 : (nI 6) ≤ a2
  · refine jr_icmp_geT (pc' := 57) dX3_wordIs_25 rfl c1 ?_
    refine jr_iconst (pc' := 58) (v := 1) dX3_wordIs_57 rfl (by decide) ?_
    exact jr_iret dX3_wordIs_58 rfl rfl (k0 c1)
  · refine jr_icmp_geF (pc' := 28) (tgt := 57) dX3_wordIs_25 rfl rfl c1 ?_
    refine jr_aload_n (pc' := 29) (i := 0) dX3_wordIs_28 rfl rfl rfl ?_
    refine jr_get (pc' := 32) jK3 (k := 10) (j := 0) (v := .ref 1) wfX3_41 dX3_wordIs_29 rfl (by decide) rfl (by decide) rfl ?_
    refine jr_aload_n (pc' := 33) (i := 0) dX3_wordIs_32 rfl rfl rfl ?_
    refine jr_get (pc' := 36) jK3 (k := 10) (j := 5) (v := .int (h.1 10 5)) wfX3_28 dX3_wordIs_33 rfl (by decide) rfl (by decide) rfl ?_
    refine jr_iload_n (pc' := 37) (i := 2) dX3_wordIs_36 rfl rfl rfl ?_
    refine jr_iadd (pc' := 38)  dX3_wordIs_37 rfl  ?_
    refine jr_callV (pc' := 41) (k := 1) (av := [.int ((h.1 10 5) + a2)]) (st := []) sX6_byteAt wmX3_167 dX3_wordIs_38 rfl (by decide) rfl (by decide) rfl rfl rfl (Nat.le_of_ble_eq_true rfl) rfl (c_TxbyteAt (n := n + 1) ((h.1 10 5) + a2) h ) (fun v h2 hp => ?_)
    rw [hp.1, hp.2]
    show jG E mX3_wordIs (n + 2) X Post 41 [some (.ref 10), some (.ref 2005), some (.int a2)] [.int (f_TxbyteAt (h.1 1 1) (h.1 2) ((h.1 10 5) + a2))] h
    refine jr_aload_n (pc' := 42) (i := 1) dX3_wordIs_41 rfl rfl rfl ?_
    refine jr_iload_n (pc' := 43) (i := 2) dX3_wordIs_42 rfl rfl rfl ?_
    obtain ⟨P1, hC1, hK1⟩ := k1 c1
    exact jr_callT (pc' := 46) (i := 5) (av := [.int a2]) (st := [.int (f_TxbyteAt (h.1 1 1) (h.1 2) ((h.1 10 5) + a2))]) (by decide) sJ0_charAt_5068e rfl wmX3_179 dX3_wordIs_43 rfl rfl (Nat.le_of_ble_eq_true rfl) rfl hC1 (fun v h2 hp => jG.weak (lv' := [some (.ref 10), some (.ref 2005), some (.int a2)]) ⟨rfl, rfl, rfl, trivial⟩ (hK1 v h2 hp))

theorem q_RdwordIs5_46 {E : jEnv} {n : Nat} {X : State → Prop} {Post : Option Value → HP → Prop} (a2 : Int32) (s0 : Int32) (s1 : Int32) (h : HP)
    (k0 : (s1 = s0) → jG E mX3_wordIs (n + 2) X Post 20 [some (.ref 10), some (.ref 2005), some (.int (a2 + 1))] [] h)
    (k1 : (¬ s1 = s0) → Post (some (.int 0)) h)
    : jG E mX3_wordIs (n + 2) X Post 46 [some (.ref 10), some (.ref 2005), some (.int a2)] [.int s0, .int s1] h := by
  by_cases c1 : s1 = s0
  · refine jr_icmp_eqT (pc' := 51) dX3_wordIs_46 rfl c1 ?_
    refine jr_iinc (pc' := 54) (i := 2) (v := (a2 + 1)) (lv' := [some (.ref 10), some (.ref 2005), some (.int (a2 + 1))]) dX3_wordIs_51 rfl rfl (congrArg (a2 + ·) (by decide)) (by decide) rfl ?_
    refine jr_goto (pc' := 20) dX3_wordIs_54 rfl ?_
    exact jG.weak (lv' := [some (.ref 10), some (.ref 2005), some (.int (a2 + 1))]) ⟨rfl, rfl, rfl, trivial⟩ (k0 c1)
  · refine jr_icmp_eqF (pc' := 49) (tgt := 51) dX3_wordIs_46 rfl rfl c1 ?_
    refine jr_iconst (pc' := 50) (v := 0) dX3_wordIs_49 rfl (by decide) ?_
    exact jr_iret dX3_wordIs_50 rfl rfl (k1 c1)

theorem q_RdtakeNumber_0 {E : jEnv} {n : Nat} {X : State → Prop} {Post : Option Value → HP → Prop} (x : Int32) (y : Int32) (h : HP)
    (k0 : jCall E mX3_skipBlanks n [.ref 10] h (fun v h2 => jG E mX3_takeNumber (n + 1) X Post 4 [some (.ref 10), some (.int x), some (.int y), none, none] (v.toList ++ []) h2))
    : jG E mX3_takeNumber (n + 1) X Post 0 [some (.ref 10), some (.int x), some (.int y), none, none] [] h := by
  refine jr_aload_n (pc' := 1) (i := 0) dX3_takeNumber_0 rfl rfl rfl ?_
  obtain ⟨P1, hC1, hK1⟩ := k0
  exact jr_callV (pc' := 4) (k := 10) (av := []) (st := []) sX3_skipBlanks wmX3_48 dX3_takeNumber_1 rfl (by decide) rfl (by decide) rfl rfl rfl (Nat.le_of_ble_eq_true rfl) rfl hC1 (fun v h2 hp => jG.weak (lv' := [some (.ref 10), some (.int x), some (.int y), none, none]) ⟨rfl, rfl, rfl, trivial⟩ (hK1 v h2 hp))

theorem q_RdtakeNumber_4 {E : jEnv} {n : Nat} {X : State → Prop} {Post : Option Value → HP → Prop} (a1 : Int32) (a2 : Int32) (h : HP)
    (k0 : jG E mX3_takeNumber (n + 1) X Post 12 [some (.ref 10), some (.int a1), some (.int a2), some (.int (h.1 10 4)), some (.int 0)] [] h)
    : jG E mX3_takeNumber (n + 1) X Post 4 [some (.ref 10), some (.int a1), some (.int a2), none, none] [] h := by
  refine jr_aload_n (pc' := 5) (i := 0) dX3_takeNumber_4 rfl rfl rfl ?_
  refine jr_get (pc' := 8) jK3 (k := 10) (j := 4) (v := .int (h.1 10 4)) wfX3_25 dX3_takeNumber_5 rfl (by decide) rfl (by decide) rfl ?_
  refine jr_istore_n (pc' := 9) (i := 3) (lv' := [some (.ref 10), some (.int a1), some (.int a2), some (.int (h.1 10 4)), none]) dX3_takeNumber_8 rfl rfl (by decide) rfl ?_
  refine jr_iconst (pc' := 10) (v := 0) dX3_takeNumber_9 rfl (by decide) ?_
  refine jr_istore (pc' := 12) (i := 4) (lv' := [some (.ref 10), some (.int a1), some (.int a2), some (.int (h.1 10 4)), some (.int 0)]) dX3_takeNumber_10 rfl (by decide) rfl ?_
  exact jG.weak (lv' := [some (.ref 10), some (.int a1), some (.int a2), some (.int (h.1 10 4)), some (.int 0)]) ⟨rfl, rfl, rfl, rfl, rfl, trivial⟩ (k0)

set_option maxRecDepth 4000 in
theorem q_RdtakeNumber_12 {E : jEnv} {n : Nat} {X : State → Prop} {Post : Option Value → HP → Prop} (a1 : Int32) (a2 : Int32) (a3 : Int32) (a4 : Int32) (h : HP)
    (k0 : ((h.1 1 1) ≤ (h.1 10 4)) → ((h.1 10 4) = a3) → jCall E mX3_fail n [.ref 10, .int 1, .int a3] h (fun v h2 => jG E mX3_takeNumber (n + 1) X Post 107 [some (.ref 10), some (.int a1), none, none, some (.int a4)] (v.toList ++ []) h2))
    (k1 : ((h.1 1 1) ≤ (h.1 10 4)) → (¬ (h.1 10 4) = a3) → ((3 : Int32) < ((h.1 10 4) - a3)) → jCall E mX3_fail n [.ref 10, .int 2, .int a3] h (fun v h2 => jG E mX3_takeNumber (n + 1) X Post 138 [some (.ref 10), some (.int a1), none, none, some (.int a4)] (v.toList ++ []) h2))
    (k2 : ((h.1 1 1) ≤ (h.1 10 4)) → (¬ (h.1 10 4) = a3) → (¬ (3 : Int32) < ((h.1 10 4) - a3)) → (a4 < a1) → jCall E mX3_fail n [.ref 10, .int 2, .int a3] h (fun v h2 => jG E mX3_takeNumber (n + 1) X Post 138 [some (.ref 10), some (.int a1), none, none, some (.int a4)] (v.toList ++ []) h2))
    (k3 : ((h.1 1 1) ≤ (h.1 10 4)) → (¬ (h.1 10 4) = a3) → (¬ (3 : Int32) < ((h.1 10 4) - a3)) → (¬ a4 < a1) → (a4 ≤ a2) → ((f_Rdfailed (h.1 10 2)) = 0) → Post (some (.int a4)) h)
    (k4 : ((h.1 1 1) ≤ (h.1 10 4)) → (¬ (h.1 10 4) = a3) → (¬ (3 : Int32) < ((h.1 10 4) - a3)) → (¬ a4 < a1) → (a4 ≤ a2) → (¬ (f_Rdfailed (h.1 10 2)) = 0) → Post (some (.int (if 0 < a1 then a1 else 0))) h)
    (k5 : ((h.1 1 1) ≤ (h.1 10 4)) → (¬ (h.1 10 4) = a3) → (¬ (3 : Int32) < ((h.1 10 4) - a3)) → (¬ a4 < a1) → (¬ a4 ≤ a2) → jCall E mX3_fail n [.ref 10, .int 2, .int a3] h (fun v h2 => jG E mX3_takeNumber (n + 1) X Post 138 [some (.ref 10), some (.int a1), none, none, some (.int a4)] (v.toList ++ []) h2))
    (k6 : (¬ (h.1 1 1) ≤ (h.1 10 4)) → ((f_RdisFigure (f_TxbyteAt (h.1 1 1) (h.1 2) (h.1 10 4))) = 0) → ((h.1 10 4) = a3) → jCall E mX3_fail n [.ref 10, .int 1, .int a3] h (fun v h2 => jG E mX3_takeNumber (n + 1) X Post 107 [some (.ref 10), some (.int a1), none, none, some (.int a4)] (v.toList ++ []) h2))
    (k7 : (¬ (h.1 1 1) ≤ (h.1 10 4)) → ((f_RdisFigure (f_TxbyteAt (h.1 1 1) (h.1 2) (h.1 10 4))) = 0) → (¬ (h.1 10 4) = a3) → ((3 : Int32) < ((h.1 10 4) - a3)) → jCall E mX3_fail n [.ref 10, .int 2, .int a3] h (fun v h2 => jG E mX3_takeNumber (n + 1) X Post 138 [some (.ref 10), some (.int a1), none, none, some (.int a4)] (v.toList ++ []) h2))
    (k8 : (¬ (h.1 1 1) ≤ (h.1 10 4)) → ((f_RdisFigure (f_TxbyteAt (h.1 1 1) (h.1 2) (h.1 10 4))) = 0) → (¬ (h.1 10 4) = a3) → (¬ (3 : Int32) < ((h.1 10 4) - a3)) → (a4 < a1) → jCall E mX3_fail n [.ref 10, .int 2, .int a3] h (fun v h2 => jG E mX3_takeNumber (n + 1) X Post 138 [some (.ref 10), some (.int a1), none, none, some (.int a4)] (v.toList ++ []) h2))
    (k9 : (¬ (h.1 1 1) ≤ (h.1 10 4)) → ((f_RdisFigure (f_TxbyteAt (h.1 1 1) (h.1 2) (h.1 10 4))) = 0) → (¬ (h.1 10 4) = a3) → (¬ (3 : Int32) < ((h.1 10 4) - a3)) → (¬ a4 < a1) → (a4 ≤ a2) → ((f_Rdfailed (h.1 10 2)) = 0) → Post (some (.int a4)) h)
    (k10 : (¬ (h.1 1 1) ≤ (h.1 10 4)) → ((f_RdisFigure (f_TxbyteAt (h.1 1 1) (h.1 2) (h.1 10 4))) = 0) → (¬ (h.1 10 4) = a3) → (¬ (3 : Int32) < ((h.1 10 4) - a3)) → (¬ a4 < a1) → (a4 ≤ a2) → (¬ (f_Rdfailed (h.1 10 2)) = 0) → Post (some (.int (if 0 < a1 then a1 else 0))) h)
    (k11 : (¬ (h.1 1 1) ≤ (h.1 10 4)) → ((f_RdisFigure (f_TxbyteAt (h.1 1 1) (h.1 2) (h.1 10 4))) = 0) → (¬ (h.1 10 4) = a3) → (¬ (3 : Int32) < ((h.1 10 4) - a3)) → (¬ a4 < a1) → (¬ a4 ≤ a2) → jCall E mX3_fail n [.ref 10, .int 2, .int a3] h (fun v h2 => jG E mX3_takeNumber (n + 1) X Post 138 [some (.ref 10), some (.int a1), none, none, some (.int a4)] (v.toList ++ []) h2))
    (k12 : (¬ (h.1 1 1) ≤ (h.1 10 4)) → (¬ (f_RdisFigure (f_TxbyteAt (h.1 1 1) (h.1 2) (h.1 10 4))) = 0) → ((3 : Int32) ≤ ((h.1 10 4) - a3)) → jG E mX3_takeNumber (n + 1) X Post 12 [some (.ref 10), some (.int a1), some (.int a2), some (.int a3), some (.int a4)] [] (jPI h 10 4 ((h.1 10 4) + 1)))
    (k13 : (¬ (h.1 1 1) ≤ (h.1 10 4)) → (¬ (f_RdisFigure (f_TxbyteAt (h.1 1 1) (h.1 2) (h.1 10 4))) = 0) → (¬ (3 : Int32) ≤ ((h.1 10 4) - a3)) → jG E mX3_takeNumber (n + 1) X Post 12 [some (.ref 10), some (.int a1), some (.int a2), some (.int a3), some (.int (((a4 * 10) + (f_TxbyteAt (h.1 1 1) (h.1 2) (h.1 10 4))) - 48))] [] (jPI h 10 4 ((h.1 10 4) + 1)))
    : jG E mX3_takeNumber (n + 1) X Post 12 [some (.ref 10), some (.int a1), some (.int a2), some (.int a3), some (.int a4)] [] h := by
  refine jr_aload_n (pc' := 13) (i := 0) dX3_takeNumber_12 rfl rfl rfl ?_
  refine jr_get (pc' := 16) jK3 (k := 10) (j := 4) (v := .int (h.1 10 4)) wfX3_25 dX3_takeNumber_13 rfl (by decide) rfl (by decide) rfl ?_
  refine jr_aload_n (pc' := 17) (i := 0) dX3_takeNumber_16 rfl rfl rfl ?_
  refine jr_get (pc' := 20) jK3 (k := 10) (j := 0) (v := .ref 1) wfX3_41 dX3_takeNumber_17 rfl (by decide) rfl (by decide) rfl ?_
  refine jr_get (pc' := 23) jK6 (k := 1) (j := 1) (v := .int (h.1 1 1)) wfX3_51 dX3_takeNumber_20 rfl (by decide) rfl (by decide) rfl ?_
  by_cases c1 : (h.1 1 1) ≤ (h.1 10 4)
  · refine jr_icmp_geT (pc' := 93) dX3_takeNumber_23 rfl c1 ?_
    refine jr_aload_n (pc' := 94) (i := 0) dX3_takeNumber_93 rfl rfl rfl ?_
    refine jr_get (pc' := 97) jK3 (k := 10) (j := 4) (v := .int (h.1 10 4)) wfX3_25 dX3_takeNumber_94 rfl (by decide) rfl (by decide) rfl ?_
    refine jr_iload_n (pc' := 98) (i := 3) dX3_takeNumber_97 rfl rfl rfl ?_
    by_cases c2 : (h.1 10 4) = a3
    · refine jr_icmp_neF (pc' := 101) (tgt := 110) dX3_takeNumber_98 rfl rfl c2 ?_
      refine jr_aload_n (pc' := 102) (i := 0) dX3_takeNumber_101 rfl rfl rfl ?_
      refine jr_iconst (pc' := 103) (v := 1) dX3_takeNumber_102 rfl (by decide) ?_
      refine jr_iload_n (pc' := 104) (i := 3) dX3_takeNumber_103 rfl rfl rfl ?_
      obtain ⟨P1, hC1, hK1⟩ := k0 c1 c2
      exact jr_callV (pc' := 107) (k := 10) (av := [.int 1, .int a3]) (st := []) sX3_fail wmX3_75 dX3_takeNumber_104 rfl (by decide) rfl (by decide) rfl rfl rfl (Nat.le_of_ble_eq_true rfl) rfl hC1 (fun v h2 hp => jG.weak (lv' := [some (.ref 10), some (.int a1), none, none, some (.int a4)]) ⟨rfl, rfl, rfl, trivial⟩ (hK1 v h2 hp))
    · refine jr_icmp_neT (pc' := 110) dX3_takeNumber_98 rfl c2 ?_
      refine jr_aload_n (pc' := 111) (i := 0) dX3_takeNumber_110 rfl rfl rfl ?_
      refine jr_get (pc' := 114) jK3 (k := 10) (j := 4) (v := .int (h.1 10 4)) wfX3_25 dX3_takeNumber_111 rfl (by decide) rfl (by decide) rfl ?_
      refine jr_iload_n (pc' := 115) (i := 3) dX3_takeNumber_114 rfl rfl rfl ?_
      refine jr_isub (pc' := 116)  dX3_takeNumber_115 rfl  ?_
      refine jr_iconst (pc' := 117) (v := 3) dX3_takeNumber_116 rfl (by decide) ?_
      by_cases c3 : (3 : Int32) < ((h.1 10 4) - a3)
      · refine jr_icmp_gtT (pc' := 132) dX3_takeNumber_117 rfl c3 ?_
        refine jr_aload_n (pc' := 133) (i := 0) dX3_takeNumber_132 rfl rfl rfl ?_
        refine jr_iconst (pc' := 134) (v := 2) dX3_takeNumber_133 rfl (by decide) ?_
        refine jr_iload_n (pc' := 135) (i := 3) dX3_takeNumber_134 rfl rfl rfl ?_
        obtain ⟨P1, hC1, hK1⟩ := k1 c1 c2 c3
        exact jr_callV (pc' := 138) (k := 10) (av := [.int 2, .int a3]) (st := []) sX3_fail wmX3_75 dX3_takeNumber_135 rfl (by decide) rfl (by decide) rfl rfl rfl (Nat.le_of_ble_eq_true rfl) rfl hC1 (fun v h2 hp => jG.weak (lv' := [some (.ref 10), some (.int a1), none, none, some (.int a4)]) ⟨rfl, rfl, rfl, trivial⟩ (hK1 v h2 hp))
      · refine jr_icmp_gtF (pc' := 120) (tgt := 132) dX3_takeNumber_117 rfl rfl c3 ?_
        refine jr_iload (pc' := 122) (i := 4) dX3_takeNumber_120 rfl rfl ?_
        refine jr_iload_n (pc' := 123) (i := 1) dX3_takeNumber_122 rfl rfl rfl ?_
        by_cases c4 : a4 < a1
        · refine jr_icmp_ltT (pc' := 132) dX3_takeNumber_123 rfl c4 ?_
          refine jr_aload_n (pc' := 133) (i := 0) dX3_takeNumber_132 rfl rfl rfl ?_
          refine jr_iconst (pc' := 134) (v := 2) dX3_takeNumber_133 rfl (by decide) ?_
          refine jr_iload_n (pc' := 135) (i := 3) dX3_takeNumber_134 rfl rfl rfl ?_
          obtain ⟨P1, hC1, hK1⟩ := k2 c1 c2 c3 c4
          exact jr_callV (pc' := 138) (k := 10) (av := [.int 2, .int a3]) (st := []) sX3_fail wmX3_75 dX3_takeNumber_135 rfl (by decide) rfl (by decide) rfl rfl rfl (Nat.le_of_ble_eq_true rfl) rfl hC1 (fun v h2 hp => jG.weak (lv' := [some (.ref 10), some (.int a1), none, none, some (.int a4)]) ⟨rfl, rfl, rfl, trivial⟩ (hK1 v h2 hp))
        · refine jr_icmp_ltF (pc' := 126) (tgt := 132) dX3_takeNumber_123 rfl rfl c4 ?_
          refine jr_iload (pc' := 128) (i := 4) dX3_takeNumber_126 rfl rfl ?_
          refine jr_iload_n (pc' := 129) (i := 2) dX3_takeNumber_128 rfl rfl rfl ?_
          by_cases c5 : a4 ≤ a2
          · refine jr_icmp_leT (pc' := 138) dX3_takeNumber_129 rfl c5 ?_
            refine jr_aload_n (pc' := 139) (i := 0) dX3_takeNumber_138 rfl rfl rfl ?_
            refine jr_callV (pc' := 142) (k := 10) (av := []) (st := []) sX3_failed wmX3_59 dX3_takeNumber_139 rfl (by decide) rfl (by decide) rfl rfl rfl (Nat.le_of_ble_eq_true rfl) rfl (c_Rdfailed (n := n)  h ) (fun v h2 hp => ?_)
            rw [hp.1, hp.2]
            show jG E mX3_takeNumber (n + 1) X Post 142 [some (.ref 10), some (.int a1), some (.int a2), some (.int a3), some (.int a4)] [.int (f_Rdfailed (h.1 10 2))] h
            by_cases c6 : (f_Rdfailed (h.1 10 2)) = 0
            · refine jr_if_eqT (pc' := 153) dX3_takeNumber_142 rfl c6 ?_
              refine jr_iload (pc' := 155) (i := 4) dX3_takeNumber_153 rfl rfl ?_
              exact jr_iret dX3_takeNumber_155 rfl rfl (k3 c1 c2 c3 c4 c5 c6)
            · refine jr_if_eqF (pc' := 145) (tgt := 153) dX3_takeNumber_142 rfl rfl c6 ?_
              refine jr_iconst (pc' := 146) (v := 0) dX3_takeNumber_145 rfl (by decide) ?_
              refine jr_iload_n (pc' := 147) (i := 1) dX3_takeNumber_146 rfl rfl rfl ?_
              refine jr_mmax (pc' := 150) wmX3_186 dX3_takeNumber_147 rfl (by omega) (Nat.le_of_ble_eq_true rfl) ?_
              refine jr_goto (pc' := 155) dX3_takeNumber_150 rfl ?_
              exact jr_iret dX3_takeNumber_155 rfl rfl (k4 c1 c2 c3 c4 c5 c6)
          · refine jr_icmp_leF (pc' := 132) (tgt := 138) dX3_takeNumber_129 rfl rfl c5 ?_
            refine jr_aload_n (pc' := 133) (i := 0) dX3_takeNumber_132 rfl rfl rfl ?_
            refine jr_iconst (pc' := 134) (v := 2) dX3_takeNumber_133 rfl (by decide) ?_
            refine jr_iload_n (pc' := 135) (i := 3) dX3_takeNumber_134 rfl rfl rfl ?_
            obtain ⟨P1, hC1, hK1⟩ := k5 c1 c2 c3 c4 c5
            exact jr_callV (pc' := 138) (k := 10) (av := [.int 2, .int a3]) (st := []) sX3_fail wmX3_75 dX3_takeNumber_135 rfl (by decide) rfl (by decide) rfl rfl rfl (Nat.le_of_ble_eq_true rfl) rfl hC1 (fun v h2 hp => jG.weak (lv' := [some (.ref 10), some (.int a1), none, none, some (.int a4)]) ⟨rfl, rfl, rfl, trivial⟩ (hK1 v h2 hp))
  · refine jr_icmp_geF (pc' := 26) (tgt := 93) dX3_takeNumber_23 rfl rfl c1 ?_
    refine jr_aload_n (pc' := 27) (i := 0) dX3_takeNumber_26 rfl rfl rfl ?_
    refine jr_get (pc' := 30) jK3 (k := 10) (j := 0) (v := .ref 1) wfX3_41 dX3_takeNumber_27 rfl (by decide) rfl (by decide) rfl ?_
    refine jr_aload_n (pc' := 31) (i := 0) dX3_takeNumber_30 rfl rfl rfl ?_
    refine jr_get (pc' := 34) jK3 (k := 10) (j := 4) (v := .int (h.1 10 4)) wfX3_25 dX3_takeNumber_31 rfl (by decide) rfl (by decide) rfl ?_
    refine jr_callV (pc' := 37) (k := 1) (av := [.int (h.1 10 4)]) (st := []) sX6_byteAt wmX3_167 dX3_takeNumber_34 rfl (by decide) rfl (by decide) rfl rfl rfl (Nat.le_of_ble_eq_true rfl) rfl (c_TxbyteAt (n := n) (h.1 10 4) h ) (fun v h2 hp => ?_)
    rw [hp.1, hp.2]
    show jG E mX3_takeNumber (n + 1) X Post 37 [some (.ref 10), some (.int a1), some (.int a2), some (.int a3), some (.int a4)] [.int (f_TxbyteAt (h.1 1 1) (h.1 2) (h.1 10 4))] h
    refine jr_callS (pc' := 40) (av := [.int (f_TxbyteAt (h.1 1 1) (h.1 2) (h.1 10 4))]) (st := []) sX3_isFigure wmX3_183 dX3_takeNumber_37 rfl rfl (Nat.le_of_ble_eq_true rfl) rfl (c_RdisFigure (n := n) (f_TxbyteAt (h.1 1 1) (h.1 2) (h.1 10 4)) h ) (fun v h2 hp => ?_)
    rw [hp.1, hp.2]
    show jG E mX3_takeNumber (n + 1) X Post 40 [some (.ref 10), some (.int a1), some (.int a2), some (.int a3), some (.int a4)] [.int (f_RdisFigure (f_TxbyteAt (h.1 1 1) (h.1 2) (h.1 10 4)))] h
    by_cases c7 : (f_RdisFigure (f_TxbyteAt (h.1 1 1) (h.1 2) (h.1 10 4))) = 0
    · refine jr_if_eqT (pc' := 93) dX3_takeNumber_40 rfl c7 ?_
      refine jr_aload_n (pc' := 94) (i := 0) dX3_takeNumber_93 rfl rfl rfl ?_
      refine jr_get (pc' := 97) jK3 (k := 10) (j := 4) (v := .int (h.1 10 4)) wfX3_25 dX3_takeNumber_94 rfl (by decide) rfl (by decide) rfl ?_
      refine jr_iload_n (pc' := 98) (i := 3) dX3_takeNumber_97 rfl rfl rfl ?_
      by_cases c8 : (h.1 10 4) = a3
      · refine jr_icmp_neF (pc' := 101) (tgt := 110) dX3_takeNumber_98 rfl rfl c8 ?_
        refine jr_aload_n (pc' := 102) (i := 0) dX3_takeNumber_101 rfl rfl rfl ?_
        refine jr_iconst (pc' := 103) (v := 1) dX3_takeNumber_102 rfl (by decide) ?_
        refine jr_iload_n (pc' := 104) (i := 3) dX3_takeNumber_103 rfl rfl rfl ?_
        obtain ⟨P1, hC1, hK1⟩ := k6 c1 c7 c8
        exact jr_callV (pc' := 107) (k := 10) (av := [.int 1, .int a3]) (st := []) sX3_fail wmX3_75 dX3_takeNumber_104 rfl (by decide) rfl (by decide) rfl rfl rfl (Nat.le_of_ble_eq_true rfl) rfl hC1 (fun v h2 hp => jG.weak (lv' := [some (.ref 10), some (.int a1), none, none, some (.int a4)]) ⟨rfl, rfl, rfl, trivial⟩ (hK1 v h2 hp))
      · refine jr_icmp_neT (pc' := 110) dX3_takeNumber_98 rfl c8 ?_
        refine jr_aload_n (pc' := 111) (i := 0) dX3_takeNumber_110 rfl rfl rfl ?_
        refine jr_get (pc' := 114) jK3 (k := 10) (j := 4) (v := .int (h.1 10 4)) wfX3_25 dX3_takeNumber_111 rfl (by decide) rfl (by decide) rfl ?_
        refine jr_iload_n (pc' := 115) (i := 3) dX3_takeNumber_114 rfl rfl rfl ?_
        refine jr_isub (pc' := 116)  dX3_takeNumber_115 rfl  ?_
        refine jr_iconst (pc' := 117) (v := 3) dX3_takeNumber_116 rfl (by decide) ?_
        by_cases c9 : (3 : Int32) < ((h.1 10 4) - a3)
        · refine jr_icmp_gtT (pc' := 132) dX3_takeNumber_117 rfl c9 ?_
          refine jr_aload_n (pc' := 133) (i := 0) dX3_takeNumber_132 rfl rfl rfl ?_
          refine jr_iconst (pc' := 134) (v := 2) dX3_takeNumber_133 rfl (by decide) ?_
          refine jr_iload_n (pc' := 135) (i := 3) dX3_takeNumber_134 rfl rfl rfl ?_
          obtain ⟨P1, hC1, hK1⟩ := k7 c1 c7 c8 c9
          exact jr_callV (pc' := 138) (k := 10) (av := [.int 2, .int a3]) (st := []) sX3_fail wmX3_75 dX3_takeNumber_135 rfl (by decide) rfl (by decide) rfl rfl rfl (Nat.le_of_ble_eq_true rfl) rfl hC1 (fun v h2 hp => jG.weak (lv' := [some (.ref 10), some (.int a1), none, none, some (.int a4)]) ⟨rfl, rfl, rfl, trivial⟩ (hK1 v h2 hp))
        · refine jr_icmp_gtF (pc' := 120) (tgt := 132) dX3_takeNumber_117 rfl rfl c9 ?_
          refine jr_iload (pc' := 122) (i := 4) dX3_takeNumber_120 rfl rfl ?_
          refine jr_iload_n (pc' := 123) (i := 1) dX3_takeNumber_122 rfl rfl rfl ?_
          by_cases c10 : a4 < a1
          · refine jr_icmp_ltT (pc' := 132) dX3_takeNumber_123 rfl c10 ?_
            refine jr_aload_n (pc' := 133) (i := 0) dX3_takeNumber_132 rfl rfl rfl ?_
            refine jr_iconst (pc' := 134) (v := 2) dX3_takeNumber_133 rfl (by decide) ?_
            refine jr_iload_n (pc' := 135) (i := 3) dX3_takeNumber_134 rfl rfl rfl ?_
            obtain ⟨P1, hC1, hK1⟩ := k8 c1 c7 c8 c9 c10
            exact jr_callV (pc' := 138) (k := 10) (av := [.int 2, .int a3]) (st := []) sX3_fail wmX3_75 dX3_takeNumber_135 rfl (by decide) rfl (by decide) rfl rfl rfl (Nat.le_of_ble_eq_true rfl) rfl hC1 (fun v h2 hp => jG.weak (lv' := [some (.ref 10), some (.int a1), none, none, some (.int a4)]) ⟨rfl, rfl, rfl, trivial⟩ (hK1 v h2 hp))
          · refine jr_icmp_ltF (pc' := 126) (tgt := 132) dX3_takeNumber_123 rfl rfl c10 ?_
            refine jr_iload (pc' := 128) (i := 4) dX3_takeNumber_126 rfl rfl ?_
            refine jr_iload_n (pc' := 129) (i := 2) dX3_takeNumber_128 rfl rfl rfl ?_
            by_cases c11 : a4 ≤ a2
            · refine jr_icmp_leT (pc' := 138) dX3_takeNumber_129 rfl c11 ?_
              refine jr_aload_n (pc' := 139) (i := 0) dX3_takeNumber_138 rfl rfl rfl ?_
              refine jr_callV (pc' := 142) (k := 10) (av := []) (st := []) sX3_failed wmX3_59 dX3_takeNumber_139 rfl (by decide) rfl (by decide) rfl rfl rfl (Nat.le_of_ble_eq_true rfl) rfl (c_Rdfailed (n := n)  h ) (fun v h2 hp => ?_)
              rw [hp.1, hp.2]
              show jG E mX3_takeNumber (n + 1) X Post 142 [some (.ref 10), some (.int a1), some (.int a2), some (.int a3), some (.int a4)] [.int (f_Rdfailed (h.1 10 2))] h
              by_cases c12 : (f_Rdfailed (h.1 10 2)) = 0
              · refine jr_if_eqT (pc' := 153) dX3_takeNumber_142 rfl c12 ?_
                refine jr_iload (pc' := 155) (i := 4) dX3_takeNumber_153 rfl rfl ?_
                exact jr_iret dX3_takeNumber_155 rfl rfl (k9 c1 c7 c8 c9 c10 c11 c12)
              · refine jr_if_eqF (pc' := 145) (tgt := 153) dX3_takeNumber_142 rfl rfl c12 ?_
                refine jr_iconst (pc' := 146) (v := 0) dX3_takeNumber_145 rfl (by decide) ?_
                refine jr_iload_n (pc' := 147) (i := 1) dX3_takeNumber_146 rfl rfl rfl ?_
                refine jr_mmax (pc' := 150) wmX3_186 dX3_takeNumber_147 rfl (by omega) (Nat.le_of_ble_eq_true rfl) ?_
                refine jr_goto (pc' := 155) dX3_takeNumber_150 rfl ?_
                exact jr_iret dX3_takeNumber_155 rfl rfl (k10 c1 c7 c8 c9 c10 c11 c12)
            · refine jr_icmp_leF (pc' := 132) (tgt := 138) dX3_takeNumber_129 rfl rfl c11 ?_
              refine jr_aload_n (pc' := 133) (i := 0) dX3_takeNumber_132 rfl rfl rfl ?_
              refine jr_iconst (pc' := 134) (v := 2) dX3_takeNumber_133 rfl (by decide) ?_
              refine jr_iload_n (pc' := 135) (i := 3) dX3_takeNumber_134 rfl rfl rfl ?_
              obtain ⟨P1, hC1, hK1⟩ := k11 c1 c7 c8 c9 c10 c11
              exact jr_callV (pc' := 138) (k := 10) (av := [.int 2, .int a3]) (st := []) sX3_fail wmX3_75 dX3_takeNumber_135 rfl (by decide) rfl (by decide) rfl rfl rfl (Nat.le_of_ble_eq_true rfl) rfl hC1 (fun v h2 hp => jG.weak (lv' := [some (.ref 10), some (.int a1), none, none, some (.int a4)]) ⟨rfl, rfl, rfl, trivial⟩ (hK1 v h2 hp))
    · refine jr_if_eqF (pc' := 43) (tgt := 93) dX3_takeNumber_40 rfl rfl c7 ?_
      refine jr_aload_n (pc' := 44) (i := 0) dX3_takeNumber_43 rfl rfl rfl ?_
      refine jr_get (pc' := 47) jK3 (k := 10) (j := 4) (v := .int (h.1 10 4)) wfX3_25 dX3_takeNumber_44 rfl (by decide) rfl (by decide) rfl ?_
      refine jr_iload_n (pc' := 48) (i := 3) dX3_takeNumber_47 rfl rfl rfl ?_
      refine jr_isub (pc' := 49)  dX3_takeNumber_48 rfl  ?_
      refine jr_iconst (pc' := 50) (v := 3) dX3_takeNumber_49 rfl (by decide) ?_
      by_cases c13 : (3 : Int32) ≤ ((h.1 10 4) - a3)
      · refine jr_icmp_geT (pc' := 76) dX3_takeNumber_50 rfl c13 ?_
        refine jr_iload (pc' := 78) (i := 4) dX3_takeNumber_76 rfl rfl ?_
        refine jr_istore (pc' := 80) (i := 4) (lv' := [some (.ref 10), some (.int a1), some (.int a2), some (.int a3), some (.int a4)]) dX3_takeNumber_78 rfl (by decide) rfl ?_
        refine jr_aload_n (pc' := 81) (i := 0) dX3_takeNumber_80 rfl rfl rfl ?_
        refine jr_dup (pc' := 82)  dX3_takeNumber_81 rfl rfl ?_
        refine jr_get (pc' := 85) jK3 (k := 10) (j := 4) (v := .int (h.1 10 4)) wfX3_25 dX3_takeNumber_82 rfl (by decide) rfl (by decide) rfl ?_
        refine jr_iconst (pc' := 86) (v := 1) dX3_takeNumber_85 rfl (by decide) ?_
        refine jr_iadd (pc' := 87)  dX3_takeNumber_86 rfl  ?_
        refine jr_putI (pc' := 90) jK3 (k := 10) (j := 4) wfX3_25 dX3_takeNumber_87 rfl (by decide) rfl (by decide) (by decide) rfl rfl rfl ?_
        refine jr_goto (pc' := 12) dX3_takeNumber_90 rfl ?_
        exact jG.weak (lv' := [some (.ref 10), some (.int a1), some (.int a2), some (.int a3), some (.int a4)]) ⟨rfl, rfl, rfl, rfl, rfl, trivial⟩ (k12 c1 c7 c13)
      · refine jr_icmp_geF (pc' := 53) (tgt := 76) dX3_takeNumber_50 rfl rfl c13 ?_
        refine jr_iload (pc' := 55) (i := 4) dX3_takeNumber_53 rfl rfl ?_
        refine jr_bipush (pc' := 57) (v := 10) dX3_takeNumber_55 rfl (by decide) ?_
        refine jr_imul (pc' := 58)  dX3_takeNumber_57 rfl  ?_
        refine jr_aload_n (pc' := 59) (i := 0) dX3_takeNumber_58 rfl rfl rfl ?_
        refine jr_get (pc' := 62) jK3 (k := 10) (j := 0) (v := .ref 1) wfX3_41 dX3_takeNumber_59 rfl (by decide) rfl (by decide) rfl ?_
        refine jr_aload_n (pc' := 63) (i := 0) dX3_takeNumber_62 rfl rfl rfl ?_
        refine jr_get (pc' := 66) jK3 (k := 10) (j := 4) (v := .int (h.1 10 4)) wfX3_25 dX3_takeNumber_63 rfl (by decide) rfl (by decide) rfl ?_
        refine jr_callV (pc' := 69) (k := 1) (av := [.int (h.1 10 4)]) (st := [.int (a4 * 10)]) sX6_byteAt wmX3_167 dX3_takeNumber_66 rfl (by decide) rfl (by decide) rfl rfl rfl (Nat.le_of_ble_eq_true rfl) rfl (c_TxbyteAt (n := n) (h.1 10 4) h ) (fun v h2 hp => ?_)
        rw [hp.1, hp.2]
        show jG E mX3_takeNumber (n + 1) X Post 69 [some (.ref 10), some (.int a1), some (.int a2), some (.int a3), some (.int a4)] [.int (f_TxbyteAt (h.1 1 1) (h.1 2) (h.1 10 4)), .int (a4 * 10)] h
        refine jr_iadd (pc' := 70)  dX3_takeNumber_69 rfl  ?_
        refine jr_bipush (pc' := 72) (v := 48) dX3_takeNumber_70 rfl (by decide) ?_
        refine jr_isub (pc' := 73)  dX3_takeNumber_72 rfl  ?_
        refine jr_goto (pc' := 78) dX3_takeNumber_73 rfl ?_
        refine jr_istore (pc' := 80) (i := 4) (lv' := [some (.ref 10), some (.int a1), some (.int a2), some (.int a3), some (.int (((a4 * 10) + (f_TxbyteAt (h.1 1 1) (h.1 2) (h.1 10 4))) - 48))]) dX3_takeNumber_78 rfl (by decide) rfl ?_
        refine jr_aload_n (pc' := 81) (i := 0) dX3_takeNumber_80 rfl rfl rfl ?_
        refine jr_dup (pc' := 82)  dX3_takeNumber_81 rfl rfl ?_
        refine jr_get (pc' := 85) jK3 (k := 10) (j := 4) (v := .int (h.1 10 4)) wfX3_25 dX3_takeNumber_82 rfl (by decide) rfl (by decide) rfl ?_
        refine jr_iconst (pc' := 86) (v := 1) dX3_takeNumber_85 rfl (by decide) ?_
        refine jr_iadd (pc' := 87)  dX3_takeNumber_86 rfl  ?_
        refine jr_putI (pc' := 90) jK3 (k := 10) (j := 4) wfX3_25 dX3_takeNumber_87 rfl (by decide) rfl (by decide) (by decide) rfl rfl rfl ?_
        refine jr_goto (pc' := 12) dX3_takeNumber_90 rfl ?_
        exact jG.weak (lv' := [some (.ref 10), some (.int a1), some (.int a2), some (.int a3), some (.int (((a4 * 10) + (f_TxbyteAt (h.1 1 1) (h.1 2) (h.1 10 4))) - 48))]) ⟨rfl, rfl, rfl, rfl, rfl, trivial⟩ (k13 c1 c7 c13)

theorem q_RdtakeNumber_107 {E : jEnv} {n : Nat} {X : State → Prop} {Post : Option Value → HP → Prop} (a1 : Int32) (a4 : Int32) (h : HP)
    (k0 : ((f_Rdfailed (h.1 10 2)) = 0) → Post (some (.int a4)) h)
    (k1 : (¬ (f_Rdfailed (h.1 10 2)) = 0) → Post (some (.int (if 0 < a1 then a1 else 0))) h)
    : jG E mX3_takeNumber (n + 1) X Post 107 [some (.ref 10), some (.int a1), none, none, some (.int a4)] [] h := by
  refine jr_goto (pc' := 138) dX3_takeNumber_107 rfl ?_
  refine jr_aload_n (pc' := 139) (i := 0) dX3_takeNumber_138 rfl rfl rfl ?_
  refine jr_callV (pc' := 142) (k := 10) (av := []) (st := []) sX3_failed wmX3_59 dX3_takeNumber_139 rfl (by decide) rfl (by decide) rfl rfl rfl (Nat.le_of_ble_eq_true rfl) rfl (c_Rdfailed (n := n)  h ) (fun v h2 hp => ?_)
  rw [hp.1, hp.2]
  show jG E mX3_takeNumber (n + 1) X Post 142 [some (.ref 10), some (.int a1), none, none, some (.int a4)] [.int (f_Rdfailed (h.1 10 2))] h
  by_cases c1 : (f_Rdfailed (h.1 10 2)) = 0
  · refine jr_if_eqT (pc' := 153) dX3_takeNumber_142 rfl c1 ?_
    refine jr_iload (pc' := 155) (i := 4) dX3_takeNumber_153 rfl rfl ?_
    exact jr_iret dX3_takeNumber_155 rfl rfl (k0 c1)
  · refine jr_if_eqF (pc' := 145) (tgt := 153) dX3_takeNumber_142 rfl rfl c1 ?_
    refine jr_iconst (pc' := 146) (v := 0) dX3_takeNumber_145 rfl (by decide) ?_
    refine jr_iload_n (pc' := 147) (i := 1) dX3_takeNumber_146 rfl rfl rfl ?_
    refine jr_mmax (pc' := 150) wmX3_186 dX3_takeNumber_147 rfl (by omega) (Nat.le_of_ble_eq_true rfl) ?_
    refine jr_goto (pc' := 155) dX3_takeNumber_150 rfl ?_
    exact jr_iret dX3_takeNumber_155 rfl rfl (k1 c1)

theorem q_RdtakeNumber_138 {E : jEnv} {n : Nat} {X : State → Prop} {Post : Option Value → HP → Prop} (a1 : Int32) (a4 : Int32) (h : HP)
    (k0 : ((f_Rdfailed (h.1 10 2)) = 0) → Post (some (.int a4)) h)
    (k1 : (¬ (f_Rdfailed (h.1 10 2)) = 0) → Post (some (.int (if 0 < a1 then a1 else 0))) h)
    : jG E mX3_takeNumber (n + 1) X Post 138 [some (.ref 10), some (.int a1), none, none, some (.int a4)] [] h := by
  refine jr_aload_n (pc' := 139) (i := 0) dX3_takeNumber_138 rfl rfl rfl ?_
  refine jr_callV (pc' := 142) (k := 10) (av := []) (st := []) sX3_failed wmX3_59 dX3_takeNumber_139 rfl (by decide) rfl (by decide) rfl rfl rfl (Nat.le_of_ble_eq_true rfl) rfl (c_Rdfailed (n := n)  h ) (fun v h2 hp => ?_)
  rw [hp.1, hp.2]
  show jG E mX3_takeNumber (n + 1) X Post 142 [some (.ref 10), some (.int a1), none, none, some (.int a4)] [.int (f_Rdfailed (h.1 10 2))] h
  by_cases c1 : (f_Rdfailed (h.1 10 2)) = 0
  · refine jr_if_eqT (pc' := 153) dX3_takeNumber_142 rfl c1 ?_
    refine jr_iload (pc' := 155) (i := 4) dX3_takeNumber_153 rfl rfl ?_
    exact jr_iret dX3_takeNumber_155 rfl rfl (k0 c1)
  · refine jr_if_eqF (pc' := 145) (tgt := 153) dX3_takeNumber_142 rfl rfl c1 ?_
    refine jr_iconst (pc' := 146) (v := 0) dX3_takeNumber_145 rfl (by decide) ?_
    refine jr_iload_n (pc' := 147) (i := 1) dX3_takeNumber_146 rfl rfl rfl ?_
    refine jr_mmax (pc' := 150) wmX3_186 dX3_takeNumber_147 rfl (by omega) (Nat.le_of_ble_eq_true rfl) ?_
    refine jr_goto (pc' := 155) dX3_takeNumber_150 rfl ?_
    exact jr_iret dX3_takeNumber_155 rfl rfl (k1 c1)

theorem q_RdtakeSign_0 {E : jEnv} {n : Nat} {X : State → Prop} {Post : Option Value → HP → Prop} (x : Int32) (h : HP)
    (k0 : jCall E mX3_skipBlanks n [.ref 10] h (fun v h2 => jG E mX3_takeSign (n + 1) X Post 4 [some (.ref 10), some (.int x)] (v.toList ++ []) h2))
    : jG E mX3_takeSign (n + 1) X Post 0 [some (.ref 10), some (.int x)] [] h := by
  refine jr_aload_n (pc' := 1) (i := 0) dX3_takeSign_0 rfl rfl rfl ?_
  obtain ⟨P1, hC1, hK1⟩ := k0
  exact jr_callV (pc' := 4) (k := 10) (av := []) (st := []) sX3_skipBlanks wmX3_48 dX3_takeSign_1 rfl (by decide) rfl (by decide) rfl rfl rfl (Nat.le_of_ble_eq_true rfl) rfl hC1 (fun v h2 hp => jG.weak (lv' := [some (.ref 10), some (.int x)]) ⟨rfl, rfl, trivial⟩ (hK1 v h2 hp))

theorem q_RdtakeSign_4 {E : jEnv} {n : Nat} {X : State → Prop} {Post : Option Value → HP → Prop} (a1 : Int32) (h : HP)
    (k0 : ((f_TxbyteAt (h.1 1 1) (h.1 2) (h.1 10 4)) = a1) → Post none (jPI h 10 4 ((h.1 10 4) + 1)))
    (k1 : (¬ (f_TxbyteAt (h.1 1 1) (h.1 2) (h.1 10 4)) = a1) → jCall E mX3_fail n [.ref 10, .int 1, .int (h.1 10 4)] h (fun v h2 => jG E mX3_takeSign (n + 1) X Post 41 [none, none] (v.toList ++ []) h2))
    : jG E mX3_takeSign (n + 1) X Post 4 [some (.ref 10), some (.int a1)] [] h := by
  refine jr_aload_n (pc' := 5) (i := 0) dX3_takeSign_4 rfl rfl rfl ?_
  refine jr_get (pc' := 8) jK3 (k := 10) (j := 0) (v := .ref 1) wfX3_41 dX3_takeSign_5 rfl (by decide) rfl (by decide) rfl ?_
  refine jr_aload_n (pc' := 9) (i := 0) dX3_takeSign_8 rfl rfl rfl ?_
  refine jr_get (pc' := 12) jK3 (k := 10) (j := 4) (v := .int (h.1 10 4)) wfX3_25 dX3_takeSign_9 rfl (by decide) rfl (by decide) rfl ?_
  refine jr_callV (pc' := 15) (k := 1) (av := [.int (h.1 10 4)]) (st := []) sX6_byteAt wmX3_167 dX3_takeSign_12 rfl (by decide) rfl (by decide) rfl rfl rfl (Nat.le_of_ble_eq_true rfl) rfl (c_TxbyteAt (n := n) (h.1 10 4) h ) (fun v h2 hp => ?_)
  rw [hp.1, hp.2]
  show jG E mX3_takeSign (n + 1) X Post 15 [some (.ref 10), some (.int a1)] [.int (f_TxbyteAt (h.1 1 1) (h.1 2) (h.1 10 4))] h
  refine jr_iload_n (pc' := 16) (i := 1) dX3_takeSign_15 rfl rfl rfl ?_
  by_cases c1 : (f_TxbyteAt (h.1 1 1) (h.1 2) (h.1 10 4)) = a1
  · refine jr_icmp_neF (pc' := 19) (tgt := 32) dX3_takeSign_16 rfl rfl c1 ?_
    refine jr_aload_n (pc' := 20) (i := 0) dX3_takeSign_19 rfl rfl rfl ?_
    refine jr_dup (pc' := 21)  dX3_takeSign_20 rfl rfl ?_
    refine jr_get (pc' := 24) jK3 (k := 10) (j := 4) (v := .int (h.1 10 4)) wfX3_25 dX3_takeSign_21 rfl (by decide) rfl (by decide) rfl ?_
    refine jr_iconst (pc' := 25) (v := 1) dX3_takeSign_24 rfl (by decide) ?_
    refine jr_iadd (pc' := 26)  dX3_takeSign_25 rfl  ?_
    refine jr_putI (pc' := 29) jK3 (k := 10) (j := 4) wfX3_25 dX3_takeSign_26 rfl (by decide) rfl (by decide) (by decide) rfl rfl rfl ?_
    refine jr_goto (pc' := 41) dX3_takeSign_29 rfl ?_
    exact jr_vret dX3_takeSign_41 rfl (k0 c1)
  · refine jr_icmp_neT (pc' := 32) dX3_takeSign_16 rfl c1 ?_
    refine jr_aload_n (pc' := 33) (i := 0) dX3_takeSign_32 rfl rfl rfl ?_
    refine jr_iconst (pc' := 34) (v := 1) dX3_takeSign_33 rfl (by decide) ?_
    refine jr_aload_n (pc' := 35) (i := 0) dX3_takeSign_34 rfl rfl rfl ?_
    refine jr_get (pc' := 38) jK3 (k := 10) (j := 4) (v := .int (h.1 10 4)) wfX3_25 dX3_takeSign_35 rfl (by decide) rfl (by decide) rfl ?_
    obtain ⟨P1, hC1, hK1⟩ := k1 c1
    exact jr_callV (pc' := 41) (k := 10) (av := [.int 1, .int (h.1 10 4)]) (st := []) sX3_fail wmX3_75 dX3_takeSign_38 rfl (by decide) rfl (by decide) rfl rfl rfl (Nat.le_of_ble_eq_true rfl) rfl hC1 (fun v h2 hp => jG.weak (lv' := [none, none]) trivial (hK1 v h2 hp))

theorem q_RdtakeSign_41 {E : jEnv} {n : Nat} {X : State → Prop} {Post : Option Value → HP → Prop}  (h : HP)
    (k0 : Post none h)
    : jG E mX3_takeSign (n + 1) X Post 41 [none, none] [] h := by
  exact jr_vret dX3_takeSign_41 rfl (k0)

theorem q_RdreadStatement_0 {E : jEnv} {n : Nat} {X : State → Prop} {Post : Option Value → HP → Prop}  (h : HP)
    (k0 : jCall E mX3_takeWord n [.ref 10] h (fun v h2 => jG E mX3_readStatement (n + 1) X Post 4 [some (.ref 10)] (v.toList ++ []) h2))
    : jG E mX3_readStatement (n + 1) X Post 0 [some (.ref 10)] [] h := by
  refine jr_aload_n (pc' := 1) (i := 0) dX3_readStatement_0 rfl rfl rfl ?_
  obtain ⟨P1, hC1, hK1⟩ := k0
  exact jr_callV (pc' := 4) (k := 10) (av := []) (st := []) sX3_takeWord wmX3_66 dX3_readStatement_1 rfl (by decide) rfl (by decide) rfl rfl rfl (Nat.le_of_ble_eq_true rfl) rfl hC1 (fun v h2 hp => jG.weak (lv' := [some (.ref 10)]) ⟨rfl, trivial⟩ (hK1 v h2 hp))

theorem q_RdreadStatement_4 {E : jEnv} {n : Nat} {X : State → Prop} {Post : Option Value → HP → Prop}  (h : HP)
    (k0 : jCall E mX3_wordIs n [.ref 10, .ref 2001] h (fun v h2 => jG E mX3_readStatement (n + 1) X Post 10 [some (.ref 10)] (v.toList ++ []) h2))
    : jG E mX3_readStatement (n + 1) X Post 4 [some (.ref 10)] [] h := by
  refine jr_aload_n (pc' := 5) (i := 0) dX3_readStatement_4 rfl rfl rfl ?_
  refine jr_ldcS (pc' := 7) (i := 1) dX3_readStatement_5 rfl (by decide) rfl ?_
  obtain ⟨P1, hC1, hK1⟩ := k0
  exact jr_callV (pc' := 10) (k := 10) (av := [.ref 2001]) (st := []) sX3_wordIs wmX3_71 dX3_readStatement_7 rfl (by decide) rfl (by decide) rfl rfl rfl (Nat.le_of_ble_eq_true rfl) rfl hC1 (fun v h2 hp => jG.weak (lv' := [some (.ref 10)]) ⟨rfl, trivial⟩ (hK1 v h2 hp))

theorem q_RdreadStatement_10 {E : jEnv} {n : Nat} {X : State → Prop} {Post : Option Value → HP → Prop} (s0 : Int32) (h : HP)
    (k0 : (s0 = 0) → jCall E mX3_wordIs n [.ref 10, .ref 2002] h (fun v h2 => jG E mX3_readStatement (n + 1) X Post 26 [some (.ref 10)] (v.toList ++ []) h2))
    (k1 : (¬ s0 = 0) → jCall E mX3_readRow n [.ref 10] h (fun v h2 => jG E mX3_readStatement (n + 1) X Post 17 [none] (v.toList ++ []) h2))
    : jG E mX3_readStatement (n + 1) X Post 10 [some (.ref 10)] [.int s0] h := by
  by_cases c1 : s0 = 0
  · refine jr_if_eqT (pc' := 20) dX3_readStatement_10 rfl c1 ?_
    refine jr_aload_n (pc' := 21) (i := 0) dX3_readStatement_20 rfl rfl rfl ?_
    refine jr_ldcS (pc' := 23) (i := 2) dX3_readStatement_21 rfl (by decide) rfl ?_
    obtain ⟨P1, hC1, hK1⟩ := k0 c1
    exact jr_callV (pc' := 26) (k := 10) (av := [.ref 2002]) (st := []) sX3_wordIs wmX3_71 dX3_readStatement_23 rfl (by decide) rfl (by decide) rfl rfl rfl (Nat.le_of_ble_eq_true rfl) rfl hC1 (fun v h2 hp => jG.weak (lv' := [some (.ref 10)]) ⟨rfl, trivial⟩ (hK1 v h2 hp))
  · refine jr_if_eqF (pc' := 13) (tgt := 20) dX3_readStatement_10 rfl rfl c1 ?_
    refine jr_aload_n (pc' := 14) (i := 0) dX3_readStatement_13 rfl rfl rfl ?_
    obtain ⟨P1, hC1, hK1⟩ := k1 c1
    exact jr_callV (pc' := 17) (k := 10) (av := []) (st := []) sX3_readRow wmX3_100 dX3_readStatement_14 rfl (by decide) rfl (by decide) rfl rfl rfl (Nat.le_of_ble_eq_true rfl) rfl hC1 (fun v h2 hp => jG.weak (lv' := [none]) trivial (hK1 v h2 hp))

theorem q_RdreadStatement_26 {E : jEnv} {n : Nat} {X : State → Prop} {Post : Option Value → HP → Prop} (s0 : Int32) (h : HP)
    (k0 : (s0 = 0) → jCall E mX3_wordIs n [.ref 10, .ref 2003] h (fun v h2 => jG E mX3_readStatement (n + 1) X Post 42 [some (.ref 10)] (v.toList ++ []) h2))
    (k1 : (¬ s0 = 0) → jCall E mX3_readTide n [.ref 10] h (fun v h2 => jG E mX3_readStatement (n + 1) X Post 33 [none] (v.toList ++ []) h2))
    : jG E mX3_readStatement (n + 1) X Post 26 [some (.ref 10)] [.int s0] h := by
  by_cases c1 : s0 = 0
  · refine jr_if_eqT (pc' := 36) dX3_readStatement_26 rfl c1 ?_
    refine jr_aload_n (pc' := 37) (i := 0) dX3_readStatement_36 rfl rfl rfl ?_
    refine jr_ldcS (pc' := 39) (i := 3) dX3_readStatement_37 rfl (by decide) rfl ?_
    obtain ⟨P1, hC1, hK1⟩ := k0 c1
    exact jr_callV (pc' := 42) (k := 10) (av := [.ref 2003]) (st := []) sX3_wordIs wmX3_71 dX3_readStatement_39 rfl (by decide) rfl (by decide) rfl rfl rfl (Nat.le_of_ble_eq_true rfl) rfl hC1 (fun v h2 hp => jG.weak (lv' := [some (.ref 10)]) ⟨rfl, trivial⟩ (hK1 v h2 hp))
  · refine jr_if_eqF (pc' := 29) (tgt := 36) dX3_readStatement_26 rfl rfl c1 ?_
    refine jr_aload_n (pc' := 30) (i := 0) dX3_readStatement_29 rfl rfl rfl ?_
    obtain ⟨P1, hC1, hK1⟩ := k1 c1
    exact jr_callV (pc' := 33) (k := 10) (av := []) (st := []) sX3_readTide wmX3_105 dX3_readStatement_30 rfl (by decide) rfl (by decide) rfl rfl rfl (Nat.le_of_ble_eq_true rfl) rfl hC1 (fun v h2 hp => jG.weak (lv' := [none]) trivial (hK1 v h2 hp))

theorem q_RdreadStatement_17 {E : jEnv} {n : Nat} {X : State → Prop} {Post : Option Value → HP → Prop}  (h : HP)
    (k0 : Post none h)
    : jG E mX3_readStatement (n + 1) X Post 17 [none] [] h := by
  refine jr_goto (pc' := 106) dX3_readStatement_17 rfl ?_
  exact jr_vret dX3_readStatement_106 rfl (k0)

theorem q_RdreadStatement_42 {E : jEnv} {n : Nat} {X : State → Prop} {Post : Option Value → HP → Prop} (s0 : Int32) (h : HP)
    (k0 : (s0 = 0) → jCall E mX3_wordIs n [.ref 10, .ref 2004] h (fun v h2 => jG E mX3_readStatement (n + 1) X Post 58 [some (.ref 10)] (v.toList ++ []) h2))
    (k1 : (¬ s0 = 0) → jCall E mX3_readMan n [.ref 10] h (fun v h2 => jG E mX3_readStatement (n + 1) X Post 49 [none] (v.toList ++ []) h2))
    : jG E mX3_readStatement (n + 1) X Post 42 [some (.ref 10)] [.int s0] h := by
  by_cases c1 : s0 = 0
  · refine jr_if_eqT (pc' := 52) dX3_readStatement_42 rfl c1 ?_
    refine jr_aload_n (pc' := 53) (i := 0) dX3_readStatement_52 rfl rfl rfl ?_
    refine jr_ldcS (pc' := 55) (i := 4) dX3_readStatement_53 rfl (by decide) rfl ?_
    obtain ⟨P1, hC1, hK1⟩ := k0 c1
    exact jr_callV (pc' := 58) (k := 10) (av := [.ref 2004]) (st := []) sX3_wordIs wmX3_71 dX3_readStatement_55 rfl (by decide) rfl (by decide) rfl rfl rfl (Nat.le_of_ble_eq_true rfl) rfl hC1 (fun v h2 hp => jG.weak (lv' := [some (.ref 10)]) ⟨rfl, trivial⟩ (hK1 v h2 hp))
  · refine jr_if_eqF (pc' := 45) (tgt := 52) dX3_readStatement_42 rfl rfl c1 ?_
    refine jr_aload_n (pc' := 46) (i := 0) dX3_readStatement_45 rfl rfl rfl ?_
    obtain ⟨P1, hC1, hK1⟩ := k1 c1
    exact jr_callV (pc' := 49) (k := 10) (av := []) (st := []) sX3_readMan wmX3_110 dX3_readStatement_46 rfl (by decide) rfl (by decide) rfl rfl rfl (Nat.le_of_ble_eq_true rfl) rfl hC1 (fun v h2 hp => jG.weak (lv' := [none]) trivial (hK1 v h2 hp))

theorem q_RdreadStatement_33 {E : jEnv} {n : Nat} {X : State → Prop} {Post : Option Value → HP → Prop}  (h : HP)
    (k0 : Post none h)
    : jG E mX3_readStatement (n + 1) X Post 33 [none] [] h := by
  refine jr_goto (pc' := 106) dX3_readStatement_33 rfl ?_
  exact jr_vret dX3_readStatement_106 rfl (k0)

theorem q_RdreadStatement_58 {E : jEnv} {n : Nat} {X : State → Prop} {Post : Option Value → HP → Prop} (s0 : Int32) (h : HP)
    (k0 : (s0 = 0) → jCall E mX3_wordIs n [.ref 10, .ref 2005] h (fun v h2 => jG E mX3_readStatement (n + 1) X Post 74 [some (.ref 10)] (v.toList ++ []) h2))
    (k1 : (¬ s0 = 0) → jCall E mX3_readNews n [.ref 10] h (fun v h2 => jG E mX3_readStatement (n + 1) X Post 65 [none] (v.toList ++ []) h2))
    : jG E mX3_readStatement (n + 1) X Post 58 [some (.ref 10)] [.int s0] h := by
  by_cases c1 : s0 = 0
  · refine jr_if_eqT (pc' := 68) dX3_readStatement_58 rfl c1 ?_
    refine jr_aload_n (pc' := 69) (i := 0) dX3_readStatement_68 rfl rfl rfl ?_
    refine jr_ldcS (pc' := 71) (i := 5) dX3_readStatement_69 rfl (by decide) rfl ?_
    obtain ⟨P1, hC1, hK1⟩ := k0 c1
    exact jr_callV (pc' := 74) (k := 10) (av := [.ref 2005]) (st := []) sX3_wordIs wmX3_71 dX3_readStatement_71 rfl (by decide) rfl (by decide) rfl rfl rfl (Nat.le_of_ble_eq_true rfl) rfl hC1 (fun v h2 hp => jG.weak (lv' := [some (.ref 10)]) ⟨rfl, trivial⟩ (hK1 v h2 hp))
  · refine jr_if_eqF (pc' := 61) (tgt := 68) dX3_readStatement_58 rfl rfl c1 ?_
    refine jr_aload_n (pc' := 62) (i := 0) dX3_readStatement_61 rfl rfl rfl ?_
    obtain ⟨P1, hC1, hK1⟩ := k1 c1
    exact jr_callV (pc' := 65) (k := 10) (av := []) (st := []) sX3_readNews wmX3_115 dX3_readStatement_62 rfl (by decide) rfl (by decide) rfl rfl rfl (Nat.le_of_ble_eq_true rfl) rfl hC1 (fun v h2 hp => jG.weak (lv' := [none]) trivial (hK1 v h2 hp))

theorem q_RdreadStatement_49 {E : jEnv} {n : Nat} {X : State → Prop} {Post : Option Value → HP → Prop}  (h : HP)
    (k0 : Post none h)
    : jG E mX3_readStatement (n + 1) X Post 49 [none] [] h := by
  refine jr_goto (pc' := 106) dX3_readStatement_49 rfl ?_
  exact jr_vret dX3_readStatement_106 rfl (k0)

theorem q_RdreadStatement_74 {E : jEnv} {n : Nat} {X : State → Prop} {Post : Option Value → HP → Prop} (s0 : Int32) (h : HP)
    (k0 : (s0 = 0) → jCall E mX3_wordIs n [.ref 10, .ref 2000] h (fun v h2 => jG E mX3_readStatement (n + 1) X Post 91 [some (.ref 10)] (v.toList ++ [.ref 10]) h2))
    (k1 : (¬ s0 = 0) → jCall E mX3_readCastle n [.ref 10] h (fun v h2 => jG E mX3_readStatement (n + 1) X Post 81 [none] (v.toList ++ []) h2))
    : jG E mX3_readStatement (n + 1) X Post 74 [some (.ref 10)] [.int s0] h := by
  by_cases c1 : s0 = 0
  · refine jr_if_eqT (pc' := 84) dX3_readStatement_74 rfl c1 ?_
    refine jr_aload_n (pc' := 85) (i := 0) dX3_readStatement_84 rfl rfl rfl ?_
    refine jr_aload_n (pc' := 86) (i := 0) dX3_readStatement_85 rfl rfl rfl ?_
    refine jr_ldcS (pc' := 88) (i := 0) dX3_readStatement_86 rfl (by decide) rfl ?_
    obtain ⟨P1, hC1, hK1⟩ := k0 c1
    exact jr_callV (pc' := 91) (k := 10) (av := [.ref 2000]) (st := [.ref 10]) sX3_wordIs wmX3_71 dX3_readStatement_88 rfl (by decide) rfl (by decide) rfl rfl rfl (Nat.le_of_ble_eq_true rfl) rfl hC1 (fun v h2 hp => jG.weak (lv' := [some (.ref 10)]) ⟨rfl, trivial⟩ (hK1 v h2 hp))
  · refine jr_if_eqF (pc' := 77) (tgt := 84) dX3_readStatement_74 rfl rfl c1 ?_
    refine jr_aload_n (pc' := 78) (i := 0) dX3_readStatement_77 rfl rfl rfl ?_
    obtain ⟨P1, hC1, hK1⟩ := k1 c1
    exact jr_callV (pc' := 81) (k := 10) (av := []) (st := []) sX3_readCastle wmX3_120 dX3_readStatement_78 rfl (by decide) rfl (by decide) rfl rfl rfl (Nat.le_of_ble_eq_true rfl) rfl hC1 (fun v h2 hp => jG.weak (lv' := [none]) trivial (hK1 v h2 hp))

theorem q_RdreadStatement_65 {E : jEnv} {n : Nat} {X : State → Prop} {Post : Option Value → HP → Prop}  (h : HP)
    (k0 : Post none h)
    : jG E mX3_readStatement (n + 1) X Post 65 [none] [] h := by
  refine jr_goto (pc' := 106) dX3_readStatement_65 rfl ?_
  exact jr_vret dX3_readStatement_106 rfl (k0)

theorem q_RdreadStatement_91 {E : jEnv} {n : Nat} {X : State → Prop} {Post : Option Value → HP → Prop} (s0 : Int32) (h : HP)
    (k0 : (s0 = 0) → jCall E mX3_fail n [.ref 10, .int 1, .int (h.1 10 5)] h (fun v h2 => jG E mX3_readStatement (n + 1) X Post 106 [none] (v.toList ++ []) h2))
    (k1 : (¬ s0 = 0) → jCall E mX3_fail n [.ref 10, .int 3, .int (h.1 10 5)] h (fun v h2 => jG E mX3_readStatement (n + 1) X Post 106 [none] (v.toList ++ []) h2))
    : jG E mX3_readStatement (n + 1) X Post 91 [some (.ref 10)] [.int s0, .ref 10] h := by
  by_cases c1 : s0 = 0
  · refine jr_if_eqT (pc' := 98) dX3_readStatement_91 rfl c1 ?_
    refine jr_iconst (pc' := 99) (v := 1) dX3_readStatement_98 rfl (by decide) ?_
    refine jr_aload_n (pc' := 100) (i := 0) dX3_readStatement_99 rfl rfl rfl ?_
    refine jr_get (pc' := 103) jK3 (k := 10) (j := 5) (v := .int (h.1 10 5)) wfX3_28 dX3_readStatement_100 rfl (by decide) rfl (by decide) rfl ?_
    obtain ⟨P1, hC1, hK1⟩ := k0 c1
    exact jr_callV (pc' := 106) (k := 10) (av := [.int 1, .int (h.1 10 5)]) (st := []) sX3_fail wmX3_75 dX3_readStatement_103 rfl (by decide) rfl (by decide) rfl rfl rfl (Nat.le_of_ble_eq_true rfl) rfl hC1 (fun v h2 hp => jG.weak (lv' := [none]) trivial (hK1 v h2 hp))
  · refine jr_if_eqF (pc' := 94) (tgt := 98) dX3_readStatement_91 rfl rfl c1 ?_
    refine jr_iconst (pc' := 95) (v := 3) dX3_readStatement_94 rfl (by decide) ?_
    refine jr_goto (pc' := 99) dX3_readStatement_95 rfl ?_
    refine jr_aload_n (pc' := 100) (i := 0) dX3_readStatement_99 rfl rfl rfl ?_
    refine jr_get (pc' := 103) jK3 (k := 10) (j := 5) (v := .int (h.1 10 5)) wfX3_28 dX3_readStatement_100 rfl (by decide) rfl (by decide) rfl ?_
    obtain ⟨P1, hC1, hK1⟩ := k1 c1
    exact jr_callV (pc' := 106) (k := 10) (av := [.int 3, .int (h.1 10 5)]) (st := []) sX3_fail wmX3_75 dX3_readStatement_103 rfl (by decide) rfl (by decide) rfl rfl rfl (Nat.le_of_ble_eq_true rfl) rfl hC1 (fun v h2 hp => jG.weak (lv' := [none]) trivial (hK1 v h2 hp))

theorem q_RdreadStatement_81 {E : jEnv} {n : Nat} {X : State → Prop} {Post : Option Value → HP → Prop}  (h : HP)
    (k0 : Post none h)
    : jG E mX3_readStatement (n + 1) X Post 81 [none] [] h := by
  refine jr_goto (pc' := 106) dX3_readStatement_81 rfl ?_
  exact jr_vret dX3_readStatement_106 rfl (k0)

theorem q_RdreadStatement_106 {E : jEnv} {n : Nat} {X : State → Prop} {Post : Option Value → HP → Prop}  (h : HP)
    (k0 : Post none h)
    : jG E mX3_readStatement (n + 1) X Post 106 [none] [] h := by
  exact jr_vret dX3_readStatement_106 rfl (k0)

theorem q_RdreadRow_0 {E : jEnv} {n : Nat} {X : State → Prop} {Post : Option Value → HP → Prop}  (h : HP)
    (k0 : jCall E mX3_skipBlanks n [.ref 10] h (fun v h2 => jG E mX3_readRow (n + 1) X Post 4 [some (.ref 10), none, none, none] (v.toList ++ []) h2))
    : jG E mX3_readRow (n + 1) X Post 0 [some (.ref 10), none, none, none] [] h := by
  refine jr_aload_n (pc' := 1) (i := 0) dX3_readRow_0 rfl rfl rfl ?_
  obtain ⟨P1, hC1, hK1⟩ := k0
  exact jr_callV (pc' := 4) (k := 10) (av := []) (st := []) sX3_skipBlanks wmX3_48 dX3_readRow_1 rfl (by decide) rfl (by decide) rfl rfl rfl (Nat.le_of_ble_eq_true rfl) rfl hC1 (fun v h2 hp => jG.weak (lv' := [some (.ref 10), none, none, none]) ⟨rfl, trivial⟩ (hK1 v h2 hp))

theorem q_RdreadRow_4 {E : jEnv} {n : Nat} {X : State → Prop} {Post : Option Value → HP → Prop}  (h : HP)
    (k0 : jCall E mX3_takeNumber n [.ref 10, .int 0, .int ((h.1 11 1) - 1)] h (fun v h2 => jG E mX3_readRow (n + 1) X Post 23 [some (.ref 10), some (.int (h.1 10 4)), none, none] (v.toList ++ []) h2))
    : jG E mX3_readRow (n + 1) X Post 4 [some (.ref 10), none, none, none] [] h := by
  refine jr_aload_n (pc' := 5) (i := 0) dX3_readRow_4 rfl rfl rfl ?_
  refine jr_get (pc' := 8) jK3 (k := 10) (j := 4) (v := .int (h.1 10 4)) wfX3_25 dX3_readRow_5 rfl (by decide) rfl (by decide) rfl ?_
  refine jr_istore_n (pc' := 9) (i := 1) (lv' := [some (.ref 10), some (.int (h.1 10 4)), none, none]) dX3_readRow_8 rfl rfl (by decide) rfl ?_
  refine jr_aload_n (pc' := 10) (i := 0) dX3_readRow_9 rfl rfl rfl ?_
  refine jr_iconst (pc' := 11) (v := 0) dX3_readRow_10 rfl (by decide) ?_
  refine jr_aload_n (pc' := 12) (i := 0) dX3_readRow_11 rfl rfl rfl ?_
  refine jr_get (pc' := 15) jK3 (k := 10) (j := 1) (v := .ref 11) wfX3_12 dX3_readRow_12 rfl (by decide) rfl (by decide) rfl ?_
  refine jr_get (pc' := 18) jK2 (k := 11) (j := 1) (v := .int (h.1 11 1)) wfX3_95 dX3_readRow_15 rfl (by decide) rfl (by decide) rfl ?_
  refine jr_iconst (pc' := 19) (v := 1) dX3_readRow_18 rfl (by decide) ?_
  refine jr_isub (pc' := 20)  dX3_readRow_19 rfl  ?_
  obtain ⟨P1, hC1, hK1⟩ := k0
  exact jr_callV (pc' := 23) (k := 10) (av := [.int 0, .int ((h.1 11 1) - 1)]) (st := []) sX3_takeNumber wmX3_79 dX3_readRow_20 rfl (by decide) rfl (by decide) rfl rfl rfl (Nat.le_of_ble_eq_true rfl) rfl hC1 (fun v h2 hp => jG.weak (lv' := [some (.ref 10), some (.int (h.1 10 4)), none, none]) ⟨rfl, rfl, trivial⟩ (hK1 v h2 hp))

theorem q_RdreadRow_23 {E : jEnv} {n : Nat} {X : State → Prop} {Post : Option Value → HP → Prop} (a1 : Int32) (s0 : Int32) (h : HP)
    (k0 : ((f_Shhas ((h.1 10 6).toInt64) s0) = 0) → jG E mX3_readRow (n + 1) X Post 56 [some (.ref 10), none, some (.int s0), some (.int 0)] [] (jPI h 10 6 ((h.1 10 6) ||| (1 <<< (s0 &&& 31)))))
    (k1 : (¬ (f_Shhas ((h.1 10 6).toInt64) s0) = 0) → jCall E mX3_fail n [.ref 10, .int 4, .int a1] h (fun v h2 => jG E mX3_readRow (n + 1) X Post 42 [some (.ref 10), none, some (.int s0), none] (v.toList ++ []) h2))
    : jG E mX3_readRow (n + 1) X Post 23 [some (.ref 10), some (.int a1), none, none] [.int s0] h := by
  refine jr_istore_n (pc' := 24) (i := 2) (lv' := [some (.ref 10), some (.int a1), some (.int s0), none]) dX3_readRow_23 rfl rfl (by decide) rfl ?_
  refine jr_aload_n (pc' := 25) (i := 0) dX3_readRow_24 rfl rfl rfl ?_
  refine jr_get (pc' := 28) jK3 (k := 10) (j := 6) (v := .int (h.1 10 6)) wfX3_31 dX3_readRow_25 rfl (by decide) rfl (by decide) rfl ?_
  refine jr_i2l (pc' := 29)  dX3_readRow_28 rfl  ?_
  refine jr_iload_n (pc' := 30) (i := 2) dX3_readRow_29 rfl rfl rfl ?_
  refine jr_callSN (pc' := 33) (av := [.long ((h.1 10 6).toInt64), .int s0]) (st := []) sX7_has (host := "StiltHeralds") (by decide +kernel) dX3_readRow_30 rfl rfl (Nat.le_of_ble_eq_true rfl) rfl (c_Shhas (n := n) ((h.1 10 6).toInt64) s0 h ) (fun v h2 hp => ?_)
  rw [hp.1, hp.2]
  show jG E mX3_readRow (n + 1) X Post 33 [some (.ref 10), some (.int a1), some (.int s0), none] [.int (f_Shhas ((h.1 10 6).toInt64) s0)] h
  by_cases c1 : (f_Shhas ((h.1 10 6).toInt64) s0) = 0
  · refine jr_if_eqT (pc' := 42) dX3_readRow_33 rfl c1 ?_
    refine jr_aload_n (pc' := 43) (i := 0) dX3_readRow_42 rfl rfl rfl ?_
    refine jr_dup (pc' := 44)  dX3_readRow_43 rfl rfl ?_
    refine jr_get (pc' := 47) jK3 (k := 10) (j := 6) (v := .int (h.1 10 6)) wfX3_31 dX3_readRow_44 rfl (by decide) rfl (by decide) rfl ?_
    refine jr_iconst (pc' := 48) (v := 1) dX3_readRow_47 rfl (by decide) ?_
    refine jr_iload_n (pc' := 49) (i := 2) dX3_readRow_48 rfl rfl rfl ?_
    refine jr_ishl (pc' := 50)  dX3_readRow_49 rfl  ?_
    refine jr_ior (pc' := 51)  dX3_readRow_50 rfl  ?_
    refine jr_putI (pc' := 54) jK3 (k := 10) (j := 6) wfX3_31 dX3_readRow_51 rfl (by decide) rfl (by decide) (by decide) rfl rfl rfl ?_
    refine jr_iconst (pc' := 55) (v := 0) dX3_readRow_54 rfl (by decide) ?_
    refine jr_istore_n (pc' := 56) (i := 3) (lv' := [some (.ref 10), some (.int a1), some (.int s0), some (.int 0)]) dX3_readRow_55 rfl rfl (by decide) rfl ?_
    exact jG.weak (lv' := [some (.ref 10), none, some (.int s0), some (.int 0)]) ⟨rfl, rfl, rfl, trivial⟩ (k0 c1)
  · refine jr_if_eqF (pc' := 36) (tgt := 42) dX3_readRow_33 rfl rfl c1 ?_
    refine jr_aload_n (pc' := 37) (i := 0) dX3_readRow_36 rfl rfl rfl ?_
    refine jr_iconst (pc' := 38) (v := 4) dX3_readRow_37 rfl (by decide) ?_
    refine jr_iload_n (pc' := 39) (i := 1) dX3_readRow_38 rfl rfl rfl ?_
    obtain ⟨P1, hC1, hK1⟩ := k1 c1
    exact jr_callV (pc' := 42) (k := 10) (av := [.int 4, .int a1]) (st := []) sX3_fail wmX3_75 dX3_readRow_39 rfl (by decide) rfl (by decide) rfl rfl rfl (Nat.le_of_ble_eq_true rfl) rfl hC1 (fun v h2 hp => jG.weak (lv' := [some (.ref 10), none, some (.int s0), none]) ⟨rfl, rfl, trivial⟩ (hK1 v h2 hp))

theorem q_RdreadRow_56 {E : jEnv} {n : Nat} {X : State → Prop} {Post : Option Value → HP → Prop} (a2 : Int32) (a3 : Int32) (h : HP)
    (k0 : ((h.1 11 0) ≤ a3) → jCall E mX3_takeSign n [.ref 10, .int 59] h (fun v h2 => jG E mX3_readRow (n + 1) X Post 120 [none, none, none, none] (v.toList ++ []) h2))
    (k1 : (¬ (h.1 11 0) ≤ a3) → ((f_Rdfailed (h.1 10 2)) = 0) → (a3 ≤ 0) → jCall E mX3_takeNumber n [.ref 10, .int 0, .int 9] h (fun v h2 => jG E mX3_readRow (n + 1) X Post 107 [some (.ref 10), none, some (.int a2), some (.int a3)] (v.toList ++ [.int (f_LdcellOf11 (h.1 11 0) a3 a2), .ref 12]) h2))
    (k2 : (¬ (h.1 11 0) ≤ a3) → ((f_Rdfailed (h.1 10 2)) = 0) → (¬ a3 ≤ 0) → jCall E mX3_takeSign n [.ref 10, .int 44] h (fun v h2 => jG E mX3_readRow (n + 1) X Post 84 [some (.ref 10), none, some (.int a2), some (.int a3)] (v.toList ++ []) h2))
    (k3 : (¬ (h.1 11 0) ≤ a3) → (¬ (f_Rdfailed (h.1 10 2)) = 0) → jCall E mX3_takeSign n [.ref 10, .int 59] h (fun v h2 => jG E mX3_readRow (n + 1) X Post 120 [none, none, none, none] (v.toList ++ []) h2))
    : jG E mX3_readRow (n + 1) X Post 56 [some (.ref 10), none, some (.int a2), some (.int a3)] [] h := by
  refine jr_iload_n (pc' := 57) (i := 3) dX3_readRow_56 rfl rfl rfl ?_
  refine jr_aload_n (pc' := 58) (i := 0) dX3_readRow_57 rfl rfl rfl ?_
  refine jr_get (pc' := 61) jK3 (k := 10) (j := 1) (v := .ref 11) wfX3_12 dX3_readRow_58 rfl (by decide) rfl (by decide) rfl ?_
  refine jr_get (pc' := 64) jK2 (k := 11) (j := 0) (v := .int (h.1 11 0)) wfX3_92 dX3_readRow_61 rfl (by decide) rfl (by decide) rfl ?_
  by_cases c1 : (h.1 11 0) ≤ a3
  · refine jr_icmp_geT (pc' := 114) dX3_readRow_64 rfl c1 ?_
    refine jr_aload_n (pc' := 115) (i := 0) dX3_readRow_114 rfl rfl rfl ?_
    refine jr_bipush (pc' := 117) (v := 59) dX3_readRow_115 rfl (by decide) ?_
    obtain ⟨P1, hC1, hK1⟩ := k0 c1
    exact jr_callV (pc' := 120) (k := 10) (av := [.int 59]) (st := []) sX3_takeSign wmX3_88 dX3_readRow_117 rfl (by decide) rfl (by decide) rfl rfl rfl (Nat.le_of_ble_eq_true rfl) rfl hC1 (fun v h2 hp => jG.weak (lv' := [none, none, none, none]) trivial (hK1 v h2 hp))
  · refine jr_icmp_geF (pc' := 67) (tgt := 114) dX3_readRow_64 rfl rfl c1 ?_
    refine jr_aload_n (pc' := 68) (i := 0) dX3_readRow_67 rfl rfl rfl ?_
    refine jr_callV (pc' := 71) (k := 10) (av := []) (st := []) sX3_failed wmX3_59 dX3_readRow_68 rfl (by decide) rfl (by decide) rfl rfl rfl (Nat.le_of_ble_eq_true rfl) rfl (c_Rdfailed (n := n)  h ) (fun v h2 hp => ?_)
    rw [hp.1, hp.2]
    show jG E mX3_readRow (n + 1) X Post 71 [some (.ref 10), none, some (.int a2), some (.int a3)] [.int (f_Rdfailed (h.1 10 2))] h
    by_cases c2 : (f_Rdfailed (h.1 10 2)) = 0
    · refine jr_if_neF (pc' := 74) (tgt := 114) dX3_readRow_71 rfl rfl c2 ?_
      refine jr_iload_n (pc' := 75) (i := 3) dX3_readRow_74 rfl rfl rfl ?_
      by_cases c3 : a3 ≤ 0
      · refine jr_if_leT (pc' := 84) dX3_readRow_75 rfl c3 ?_
        refine jr_aload_n (pc' := 85) (i := 0) dX3_readRow_84 rfl rfl rfl ?_
        refine jr_get (pc' := 88) jK3 (k := 10) (j := 1) (v := .ref 11) wfX3_12 dX3_readRow_85 rfl (by decide) rfl (by decide) rfl ?_
        refine jr_get (pc' := 91) jK2 (k := 11) (j := 9) (v := .ref 12) wfX3_127 dX3_readRow_88 rfl (by decide) rfl (by decide) rfl ?_
        refine jr_aload_n (pc' := 92) (i := 0) dX3_readRow_91 rfl rfl rfl ?_
        refine jr_get (pc' := 95) jK3 (k := 10) (j := 1) (v := .ref 11) wfX3_12 dX3_readRow_92 rfl (by decide) rfl (by decide) rfl ?_
        refine jr_iload_n (pc' := 96) (i := 3) dX3_readRow_95 rfl rfl rfl ?_
        refine jr_iload_n (pc' := 97) (i := 2) dX3_readRow_96 rfl rfl rfl ?_
        refine jr_callV (pc' := 100) (k := 11) (av := [.int a3, .int a2]) (st := [.ref 12]) sX2_cellOf wmX3_131 dX3_readRow_97 rfl (by decide) rfl (by decide) rfl rfl rfl (Nat.le_of_ble_eq_true rfl) rfl (c_LdcellOf11 (n := n) a3 a2 h ) (fun v h2 hp => ?_)
        rw [hp.1, hp.2]
        show jG E mX3_readRow (n + 1) X Post 100 [some (.ref 10), none, some (.int a2), some (.int a3)] [.int (f_LdcellOf11 (h.1 11 0) a3 a2), .ref 12] h
        refine jr_aload_n (pc' := 101) (i := 0) dX3_readRow_100 rfl rfl rfl ?_
        refine jr_iconst (pc' := 102) (v := 0) dX3_readRow_101 rfl (by decide) ?_
        refine jr_bipush (pc' := 104) (v := 9) dX3_readRow_102 rfl (by decide) ?_
        obtain ⟨P1, hC1, hK1⟩ := k1 c1 c2 c3
        exact jr_callV (pc' := 107) (k := 10) (av := [.int 0, .int 9]) (st := [.int (f_LdcellOf11 (h.1 11 0) a3 a2), .ref 12]) sX3_takeNumber wmX3_79 dX3_readRow_104 rfl (by decide) rfl (by decide) rfl rfl rfl (Nat.le_of_ble_eq_true rfl) rfl hC1 (fun v h2 hp => jG.weak (lv' := [some (.ref 10), none, some (.int a2), some (.int a3)]) ⟨rfl, rfl, rfl, trivial⟩ (hK1 v h2 hp))
      · refine jr_if_leF (pc' := 78) (tgt := 84) dX3_readRow_75 rfl rfl c3 ?_
        refine jr_aload_n (pc' := 79) (i := 0) dX3_readRow_78 rfl rfl rfl ?_
        refine jr_bipush (pc' := 81) (v := 44) dX3_readRow_79 rfl (by decide) ?_
        obtain ⟨P1, hC1, hK1⟩ := k2 c1 c2 c3
        exact jr_callV (pc' := 84) (k := 10) (av := [.int 44]) (st := []) sX3_takeSign wmX3_88 dX3_readRow_81 rfl (by decide) rfl (by decide) rfl rfl rfl (Nat.le_of_ble_eq_true rfl) rfl hC1 (fun v h2 hp => jG.weak (lv' := [some (.ref 10), none, some (.int a2), some (.int a3)]) ⟨rfl, rfl, rfl, trivial⟩ (hK1 v h2 hp))
    · refine jr_if_neT (pc' := 114) dX3_readRow_71 rfl c2 ?_
      refine jr_aload_n (pc' := 115) (i := 0) dX3_readRow_114 rfl rfl rfl ?_
      refine jr_bipush (pc' := 117) (v := 59) dX3_readRow_115 rfl (by decide) ?_
      obtain ⟨P1, hC1, hK1⟩ := k3 c1 c2
      exact jr_callV (pc' := 120) (k := 10) (av := [.int 59]) (st := []) sX3_takeSign wmX3_88 dX3_readRow_117 rfl (by decide) rfl (by decide) rfl rfl rfl (Nat.le_of_ble_eq_true rfl) rfl hC1 (fun v h2 hp => jG.weak (lv' := [none, none, none, none]) trivial (hK1 v h2 hp))

theorem q_RdreadRow_42 {E : jEnv} {n : Nat} {X : State → Prop} {Post : Option Value → HP → Prop} (a2 : Int32) (h : HP)
    (k0 : jG E mX3_readRow (n + 1) X Post 56 [some (.ref 10), none, some (.int a2), some (.int 0)] [] (jPI h 10 6 ((h.1 10 6) ||| (1 <<< (a2 &&& 31)))))
    : jG E mX3_readRow (n + 1) X Post 42 [some (.ref 10), none, some (.int a2), none] [] h := by
  refine jr_aload_n (pc' := 43) (i := 0) dX3_readRow_42 rfl rfl rfl ?_
  refine jr_dup (pc' := 44)  dX3_readRow_43 rfl rfl ?_
  refine jr_get (pc' := 47) jK3 (k := 10) (j := 6) (v := .int (h.1 10 6)) wfX3_31 dX3_readRow_44 rfl (by decide) rfl (by decide) rfl ?_
  refine jr_iconst (pc' := 48) (v := 1) dX3_readRow_47 rfl (by decide) ?_
  refine jr_iload_n (pc' := 49) (i := 2) dX3_readRow_48 rfl rfl rfl ?_
  refine jr_ishl (pc' := 50)  dX3_readRow_49 rfl  ?_
  refine jr_ior (pc' := 51)  dX3_readRow_50 rfl  ?_
  refine jr_putI (pc' := 54) jK3 (k := 10) (j := 6) wfX3_31 dX3_readRow_51 rfl (by decide) rfl (by decide) (by decide) rfl rfl rfl ?_
  refine jr_iconst (pc' := 55) (v := 0) dX3_readRow_54 rfl (by decide) ?_
  refine jr_istore_n (pc' := 56) (i := 3) (lv' := [some (.ref 10), none, some (.int a2), some (.int 0)]) dX3_readRow_55 rfl rfl (by decide) rfl ?_
  exact jG.weak (lv' := [some (.ref 10), none, some (.int a2), some (.int 0)]) ⟨rfl, rfl, rfl, trivial⟩ (k0)

theorem q_RdreadRow_120 {E : jEnv} {n : Nat} {X : State → Prop} {Post : Option Value → HP → Prop}  (h : HP)
    (k0 : Post none h)
    : jG E mX3_readRow (n + 1) X Post 120 [none, none, none, none] [] h := by
  exact jr_vret dX3_readRow_120 rfl (k0)

theorem q_RdreadRow_107 {E : jEnv} {n : Nat} {X : State → Prop} {Post : Option Value → HP → Prop} (a2 : Int32) (a3 : Int32) (s0 : Int32) (s1 : Int32) (h : HP)
    (b0 : vp_in s1 36)
    (k0 : jG E mX3_readRow (n + 1) X Post 56 [some (.ref 10), none, some (.int a2), some (.int (a3 + 1))] [] (jPI h 12 s1.toNatClampNeg s0))
    : jG E mX3_readRow (n + 1) X Post 107 [some (.ref 10), none, some (.int a2), some (.int a3)] [.int s0, .int s1, .ref 12] h := by
  refine jr_iast (pc' := 108) (j := s1.toNatClampNeg) dX3_readRow_107 rfl (by decide) rfl (b0) rfl ?_
  refine jr_iinc (pc' := 111) (i := 3) (v := (a3 + 1)) (lv' := [some (.ref 10), none, some (.int a2), some (.int (a3 + 1))]) dX3_readRow_108 rfl rfl (congrArg (a3 + ·) (by decide)) (by decide) rfl ?_
  refine jr_goto (pc' := 56) dX3_readRow_111 rfl ?_
  exact jG.weak (lv' := [some (.ref 10), none, some (.int a2), some (.int (a3 + 1))]) ⟨rfl, rfl, rfl, trivial⟩ (k0)

theorem q_RdreadRow_84 {E : jEnv} {n : Nat} {X : State → Prop} {Post : Option Value → HP → Prop} (a2 : Int32) (a3 : Int32) (h : HP)
    (k0 : jCall E mX3_takeNumber n [.ref 10, .int 0, .int 9] h (fun v h2 => jG E mX3_readRow (n + 1) X Post 107 [some (.ref 10), none, some (.int a2), some (.int a3)] (v.toList ++ [.int (f_LdcellOf11 (h.1 11 0) a3 a2), .ref 12]) h2))
    : jG E mX3_readRow (n + 1) X Post 84 [some (.ref 10), none, some (.int a2), some (.int a3)] [] h := by
  refine jr_aload_n (pc' := 85) (i := 0) dX3_readRow_84 rfl rfl rfl ?_
  refine jr_get (pc' := 88) jK3 (k := 10) (j := 1) (v := .ref 11) wfX3_12 dX3_readRow_85 rfl (by decide) rfl (by decide) rfl ?_
  refine jr_get (pc' := 91) jK2 (k := 11) (j := 9) (v := .ref 12) wfX3_127 dX3_readRow_88 rfl (by decide) rfl (by decide) rfl ?_
  refine jr_aload_n (pc' := 92) (i := 0) dX3_readRow_91 rfl rfl rfl ?_
  refine jr_get (pc' := 95) jK3 (k := 10) (j := 1) (v := .ref 11) wfX3_12 dX3_readRow_92 rfl (by decide) rfl (by decide) rfl ?_
  refine jr_iload_n (pc' := 96) (i := 3) dX3_readRow_95 rfl rfl rfl ?_
  refine jr_iload_n (pc' := 97) (i := 2) dX3_readRow_96 rfl rfl rfl ?_
  refine jr_callV (pc' := 100) (k := 11) (av := [.int a3, .int a2]) (st := [.ref 12]) sX2_cellOf wmX3_131 dX3_readRow_97 rfl (by decide) rfl (by decide) rfl rfl rfl (Nat.le_of_ble_eq_true rfl) rfl (c_LdcellOf11 (n := n) a3 a2 h ) (fun v h2 hp => ?_)
  rw [hp.1, hp.2]
  show jG E mX3_readRow (n + 1) X Post 100 [some (.ref 10), none, some (.int a2), some (.int a3)] [.int (f_LdcellOf11 (h.1 11 0) a3 a2), .ref 12] h
  refine jr_aload_n (pc' := 101) (i := 0) dX3_readRow_100 rfl rfl rfl ?_
  refine jr_iconst (pc' := 102) (v := 0) dX3_readRow_101 rfl (by decide) ?_
  refine jr_bipush (pc' := 104) (v := 9) dX3_readRow_102 rfl (by decide) ?_
  obtain ⟨P1, hC1, hK1⟩ := k0
  exact jr_callV (pc' := 107) (k := 10) (av := [.int 0, .int 9]) (st := [.int (f_LdcellOf11 (h.1 11 0) a3 a2), .ref 12]) sX3_takeNumber wmX3_79 dX3_readRow_104 rfl (by decide) rfl (by decide) rfl rfl rfl (Nat.le_of_ble_eq_true rfl) rfl hC1 (fun v h2 hp => jG.weak (lv' := [some (.ref 10), none, some (.int a2), some (.int a3)]) ⟨rfl, rfl, rfl, trivial⟩ (hK1 v h2 hp))

theorem q_RdreadTide_0 {E : jEnv} {n : Nat} {X : State → Prop} {Post : Option Value → HP → Prop}  (h : HP)
    (k0 : ((h.1 10 7) = 0) → jCall E mX3_takeNumber n [.ref 10, .int 0, .int 9] (jPI h 10 7 1) (fun v h2 => jG E mX3_readTide (n + 1) X Post 36 [some (.ref 10), none] (v.toList ++ [.int 0, .ref 13]) h2))
    (k1 : (¬ (h.1 10 7) = 0) → jCall E mX3_fail n [.ref 10, .int 3, .int (h.1 10 5)] h (fun v h2 => jG E mX3_readTide (n + 1) X Post 16 [some (.ref 10), none] (v.toList ++ []) h2))
    : jG E mX3_readTide (n + 1) X Post 0 [some (.ref 10), none] [] h := by
  refine jr_aload_n (pc' := 1) (i := 0) dX3_readTide_0 rfl rfl rfl ?_
  refine jr_get (pc' := 4) jK3 (k := 10) (j := 7) (v := .int (h.1 10 7)) wfX3_34 dX3_readTide_1 rfl (by decide) rfl (by decide) rfl ?_
  by_cases c1 : (h.1 10 7) = 0
  · refine jr_if_eqT (pc' := 16) dX3_readTide_4 rfl c1 ?_
    refine jr_aload_n (pc' := 17) (i := 0) dX3_readTide_16 rfl rfl rfl ?_
    refine jr_iconst (pc' := 18) (v := 1) dX3_readTide_17 rfl (by decide) ?_
    refine jr_putI (pc' := 21) jK3 (k := 10) (j := 7) wfX3_34 dX3_readTide_18 rfl (by decide) rfl (by decide) (by decide) rfl rfl rfl ?_
    refine jr_aload_n (pc' := 22) (i := 0) dX3_readTide_21 rfl rfl rfl ?_
    refine jr_get (pc' := 25) jK3 (k := 10) (j := 1) (v := .ref 11) wfX3_12 dX3_readTide_22 rfl (by decide) rfl (by decide) rfl ?_
    refine jr_get (pc' := 28) jK2 (k := 11) (j := 10) (v := .ref 13) wfX3_134 dX3_readTide_25 rfl (by decide) rfl (by decide) rfl ?_
    refine jr_iconst (pc' := 29) (v := 0) dX3_readTide_28 rfl (by decide) ?_
    refine jr_aload_n (pc' := 30) (i := 0) dX3_readTide_29 rfl rfl rfl ?_
    refine jr_iconst (pc' := 31) (v := 0) dX3_readTide_30 rfl (by decide) ?_
    refine jr_bipush (pc' := 33) (v := 9) dX3_readTide_31 rfl (by decide) ?_
    obtain ⟨P1, hC1, hK1⟩ := k0 c1
    exact jr_callV (pc' := 36) (k := 10) (av := [.int 0, .int 9]) (st := [.int 0, .ref 13]) sX3_takeNumber wmX3_79 dX3_readTide_33 rfl (by decide) rfl (by decide) rfl rfl rfl (Nat.le_of_ble_eq_true rfl) rfl hC1 (fun v h2 hp => jG.weak (lv' := [some (.ref 10), none]) ⟨rfl, trivial⟩ (hK1 v h2 hp))
  · refine jr_if_eqF (pc' := 7) (tgt := 16) dX3_readTide_4 rfl rfl c1 ?_
    refine jr_aload_n (pc' := 8) (i := 0) dX3_readTide_7 rfl rfl rfl ?_
    refine jr_iconst (pc' := 9) (v := 3) dX3_readTide_8 rfl (by decide) ?_
    refine jr_aload_n (pc' := 10) (i := 0) dX3_readTide_9 rfl rfl rfl ?_
    refine jr_get (pc' := 13) jK3 (k := 10) (j := 5) (v := .int (h.1 10 5)) wfX3_28 dX3_readTide_10 rfl (by decide) rfl (by decide) rfl ?_
    obtain ⟨P1, hC1, hK1⟩ := k1 c1
    exact jr_callV (pc' := 16) (k := 10) (av := [.int 3, .int (h.1 10 5)]) (st := []) sX3_fail wmX3_75 dX3_readTide_13 rfl (by decide) rfl (by decide) rfl rfl rfl (Nat.le_of_ble_eq_true rfl) rfl hC1 (fun v h2 hp => jG.weak (lv' := [some (.ref 10), none]) ⟨rfl, trivial⟩ (hK1 v h2 hp))

theorem q_RdreadTide_36 {E : jEnv} {n : Nat} {X : State → Prop} {Post : Option Value → HP → Prop} (s0 : Int32) (s1 : Int32) (h : HP)
    (b0 : vp_in s1 6)
    (k0 : jG E mX3_readTide (n + 1) X Post 39 [some (.ref 10), some (.int 1)] [] (jPI h 13 s1.toNatClampNeg s0))
    : jG E mX3_readTide (n + 1) X Post 36 [some (.ref 10), none] [.int s0, .int s1, .ref 13] h := by
  refine jr_iast (pc' := 37) (j := s1.toNatClampNeg) dX3_readTide_36 rfl (by decide) rfl (b0) rfl ?_
  refine jr_iconst (pc' := 38) (v := 1) dX3_readTide_37 rfl (by decide) ?_
  refine jr_istore_n (pc' := 39) (i := 1) (lv' := [some (.ref 10), some (.int 1)]) dX3_readTide_38 rfl rfl (by decide) rfl ?_
  exact jG.weak (lv' := [some (.ref 10), some (.int 1)]) ⟨rfl, rfl, trivial⟩ (k0)

theorem q_RdreadTide_16 {E : jEnv} {n : Nat} {X : State → Prop} {Post : Option Value → HP → Prop}  (h : HP)
    (k0 : jCall E mX3_takeNumber n [.ref 10, .int 0, .int 9] (jPI h 10 7 1) (fun v h2 => jG E mX3_readTide (n + 1) X Post 36 [some (.ref 10), none] (v.toList ++ [.int 0, .ref 13]) h2))
    : jG E mX3_readTide (n + 1) X Post 16 [some (.ref 10), none] [] h := by
  refine jr_aload_n (pc' := 17) (i := 0) dX3_readTide_16 rfl rfl rfl ?_
  refine jr_iconst (pc' := 18) (v := 1) dX3_readTide_17 rfl (by decide) ?_
  refine jr_putI (pc' := 21) jK3 (k := 10) (j := 7) wfX3_34 dX3_readTide_18 rfl (by decide) rfl (by decide) (by decide) rfl rfl rfl ?_
  refine jr_aload_n (pc' := 22) (i := 0) dX3_readTide_21 rfl rfl rfl ?_
  refine jr_get (pc' := 25) jK3 (k := 10) (j := 1) (v := .ref 11) wfX3_12 dX3_readTide_22 rfl (by decide) rfl (by decide) rfl ?_
  refine jr_get (pc' := 28) jK2 (k := 11) (j := 10) (v := .ref 13) wfX3_134 dX3_readTide_25 rfl (by decide) rfl (by decide) rfl ?_
  refine jr_iconst (pc' := 29) (v := 0) dX3_readTide_28 rfl (by decide) ?_
  refine jr_aload_n (pc' := 30) (i := 0) dX3_readTide_29 rfl rfl rfl ?_
  refine jr_iconst (pc' := 31) (v := 0) dX3_readTide_30 rfl (by decide) ?_
  refine jr_bipush (pc' := 33) (v := 9) dX3_readTide_31 rfl (by decide) ?_
  obtain ⟨P1, hC1, hK1⟩ := k0
  exact jr_callV (pc' := 36) (k := 10) (av := [.int 0, .int 9]) (st := [.int 0, .ref 13]) sX3_takeNumber wmX3_79 dX3_readTide_33 rfl (by decide) rfl (by decide) rfl rfl rfl (Nat.le_of_ble_eq_true rfl) rfl hC1 (fun v h2 hp => jG.weak (lv' := [some (.ref 10), none]) ⟨rfl, trivial⟩ (hK1 v h2 hp))

theorem q_RdreadTide_39 {E : jEnv} {n : Nat} {X : State → Prop} {Post : Option Value → HP → Prop} (a1 : Int32) (h : HP)
    (k0 : ((6 : Int32) ≤ a1) → jCall E mX3_takeSign n [.ref 10, .int 59] h (fun v h2 => jG E mX3_readTide (n + 1) X Post 95 [some (.ref 10), some (.int a1)] (v.toList ++ []) h2))
    (k1 : (¬ (6 : Int32) ≤ a1) → ((f_Rdfailed (h.1 10 2)) = 0) → jCall E mX3_nextIs n [.ref 10, .int 44] h (fun v h2 => jG E mX3_readTide (n + 1) X Post 58 [some (.ref 10), some (.int a1)] (v.toList ++ []) h2))
    (k2 : (¬ (6 : Int32) ≤ a1) → (¬ (f_Rdfailed (h.1 10 2)) = 0) → jCall E mX3_takeSign n [.ref 10, .int 59] h (fun v h2 => jG E mX3_readTide (n + 1) X Post 95 [some (.ref 10), some (.int a1)] (v.toList ++ []) h2))
    : jG E mX3_readTide (n + 1) X Post 39 [some (.ref 10), some (.int a1)] [] h := by
  refine jr_iload_n (pc' := 40) (i := 1) dX3_readTide_39 rfl rfl rfl ?_
  refine jr_bipush (pc' := 42) (v := 6) dX3_readTide_40 rfl (by decide) ?_
  by_cases c1 : (6 : Int32) ≤ a1
  · refine jr_icmp_geT (pc' := 89) dX3_readTide_42 rfl c1 ?_
    refine jr_aload_n (pc' := 90) (i := 0) dX3_readTide_89 rfl rfl rfl ?_
    refine jr_bipush (pc' := 92) (v := 59) dX3_readTide_90 rfl (by decide) ?_
    obtain ⟨P1, hC1, hK1⟩ := k0 c1
    exact jr_callV (pc' := 95) (k := 10) (av := [.int 59]) (st := []) sX3_takeSign wmX3_88 dX3_readTide_92 rfl (by decide) rfl (by decide) rfl rfl rfl (Nat.le_of_ble_eq_true rfl) rfl hC1 (fun v h2 hp => jG.weak (lv' := [some (.ref 10), some (.int a1)]) ⟨rfl, rfl, trivial⟩ (hK1 v h2 hp))
  · refine jr_icmp_geF (pc' := 45) (tgt := 89) dX3_readTide_42 rfl rfl c1 ?_
    refine jr_aload_n (pc' := 46) (i := 0) dX3_readTide_45 rfl rfl rfl ?_
    refine jr_callV (pc' := 49) (k := 10) (av := []) (st := []) sX3_failed wmX3_59 dX3_readTide_46 rfl (by decide) rfl (by decide) rfl rfl rfl (Nat.le_of_ble_eq_true rfl) rfl (c_Rdfailed (n := n)  h ) (fun v h2 hp => ?_)
    rw [hp.1, hp.2]
    show jG E mX3_readTide (n + 1) X Post 49 [some (.ref 10), some (.int a1)] [.int (f_Rdfailed (h.1 10 2))] h
    by_cases c2 : (f_Rdfailed (h.1 10 2)) = 0
    · refine jr_if_neF (pc' := 52) (tgt := 89) dX3_readTide_49 rfl rfl c2 ?_
      refine jr_aload_n (pc' := 53) (i := 0) dX3_readTide_52 rfl rfl rfl ?_
      refine jr_bipush (pc' := 55) (v := 44) dX3_readTide_53 rfl (by decide) ?_
      obtain ⟨P1, hC1, hK1⟩ := k1 c1 c2
      exact jr_callV (pc' := 58) (k := 10) (av := [.int 44]) (st := []) sX3_nextIs wmX3_136 dX3_readTide_55 rfl (by decide) rfl (by decide) rfl rfl rfl (Nat.le_of_ble_eq_true rfl) rfl hC1 (fun v h2 hp => jG.weak (lv' := [some (.ref 10), some (.int a1)]) ⟨rfl, rfl, trivial⟩ (hK1 v h2 hp))
    · refine jr_if_neT (pc' := 89) dX3_readTide_49 rfl c2 ?_
      refine jr_aload_n (pc' := 90) (i := 0) dX3_readTide_89 rfl rfl rfl ?_
      refine jr_bipush (pc' := 92) (v := 59) dX3_readTide_90 rfl (by decide) ?_
      obtain ⟨P1, hC1, hK1⟩ := k2 c1 c2
      exact jr_callV (pc' := 95) (k := 10) (av := [.int 59]) (st := []) sX3_takeSign wmX3_88 dX3_readTide_92 rfl (by decide) rfl (by decide) rfl rfl rfl (Nat.le_of_ble_eq_true rfl) rfl hC1 (fun v h2 hp => jG.weak (lv' := [some (.ref 10), some (.int a1)]) ⟨rfl, rfl, trivial⟩ (hK1 v h2 hp))

theorem q_RdreadTide_95 {E : jEnv} {n : Nat} {X : State → Prop} {Post : Option Value → HP → Prop} (a1 : Int32) (h : HP)
    (k0 : Post none (jPI h 11 2 a1))
    : jG E mX3_readTide (n + 1) X Post 95 [some (.ref 10), some (.int a1)] [] h := by
  refine jr_aload_n (pc' := 96) (i := 0) dX3_readTide_95 rfl rfl rfl ?_
  refine jr_get (pc' := 99) jK3 (k := 10) (j := 1) (v := .ref 11) wfX3_12 dX3_readTide_96 rfl (by decide) rfl (by decide) rfl ?_
  refine jr_iload_n (pc' := 100) (i := 1) dX3_readTide_99 rfl rfl rfl ?_
  refine jr_putI (pc' := 103) jK2 (k := 11) (j := 2) wfX3_140 dX3_readTide_100 rfl (by decide) rfl (by decide) (by decide) rfl rfl rfl ?_
  exact jr_vret dX3_readTide_103 rfl (k0)

theorem q_RdreadTide_58 {E : jEnv} {n : Nat} {X : State → Prop} {Post : Option Value → HP → Prop} (a1 : Int32) (s0 : Int32) (h : HP)
    (k0 : (s0 = 0) → jCall E mX3_takeSign n [.ref 10, .int 59] h (fun v h2 => jG E mX3_readTide (n + 1) X Post 95 [some (.ref 10), some (.int a1)] (v.toList ++ []) h2))
    (k1 : (¬ s0 = 0) → jCall E mX3_takeSign n [.ref 10, .int 44] h (fun v h2 => jG E mX3_readTide (n + 1) X Post 67 [some (.ref 10), some (.int a1)] (v.toList ++ []) h2))
    : jG E mX3_readTide (n + 1) X Post 58 [some (.ref 10), some (.int a1)] [.int s0] h := by
  by_cases c1 : s0 = 0
  · refine jr_if_eqT (pc' := 89) dX3_readTide_58 rfl c1 ?_
    refine jr_aload_n (pc' := 90) (i := 0) dX3_readTide_89 rfl rfl rfl ?_
    refine jr_bipush (pc' := 92) (v := 59) dX3_readTide_90 rfl (by decide) ?_
    obtain ⟨P1, hC1, hK1⟩ := k0 c1
    exact jr_callV (pc' := 95) (k := 10) (av := [.int 59]) (st := []) sX3_takeSign wmX3_88 dX3_readTide_92 rfl (by decide) rfl (by decide) rfl rfl rfl (Nat.le_of_ble_eq_true rfl) rfl hC1 (fun v h2 hp => jG.weak (lv' := [some (.ref 10), some (.int a1)]) ⟨rfl, rfl, trivial⟩ (hK1 v h2 hp))
  · refine jr_if_eqF (pc' := 61) (tgt := 89) dX3_readTide_58 rfl rfl c1 ?_
    refine jr_aload_n (pc' := 62) (i := 0) dX3_readTide_61 rfl rfl rfl ?_
    refine jr_bipush (pc' := 64) (v := 44) dX3_readTide_62 rfl (by decide) ?_
    obtain ⟨P1, hC1, hK1⟩ := k1 c1
    exact jr_callV (pc' := 67) (k := 10) (av := [.int 44]) (st := []) sX3_takeSign wmX3_88 dX3_readTide_64 rfl (by decide) rfl (by decide) rfl rfl rfl (Nat.le_of_ble_eq_true rfl) rfl hC1 (fun v h2 hp => jG.weak (lv' := [some (.ref 10), some (.int a1)]) ⟨rfl, rfl, trivial⟩ (hK1 v h2 hp))

theorem q_RdreadTide_67 {E : jEnv} {n : Nat} {X : State → Prop} {Post : Option Value → HP → Prop} (a1 : Int32) (h : HP)
    (k0 : jCall E mX3_takeNumber n [.ref 10, .int 0, .int 9] h (fun v h2 => jG E mX3_readTide (n + 1) X Post 82 [some (.ref 10), some (.int a1)] (v.toList ++ [.int a1, .ref 13]) h2))
    : jG E mX3_readTide (n + 1) X Post 67 [some (.ref 10), some (.int a1)] [] h := by
  refine jr_aload_n (pc' := 68) (i := 0) dX3_readTide_67 rfl rfl rfl ?_
  refine jr_get (pc' := 71) jK3 (k := 10) (j := 1) (v := .ref 11) wfX3_12 dX3_readTide_68 rfl (by decide) rfl (by decide) rfl ?_
  refine jr_get (pc' := 74) jK2 (k := 11) (j := 10) (v := .ref 13) wfX3_134 dX3_readTide_71 rfl (by decide) rfl (by decide) rfl ?_
  refine jr_iload_n (pc' := 75) (i := 1) dX3_readTide_74 rfl rfl rfl ?_
  refine jr_aload_n (pc' := 76) (i := 0) dX3_readTide_75 rfl rfl rfl ?_
  refine jr_iconst (pc' := 77) (v := 0) dX3_readTide_76 rfl (by decide) ?_
  refine jr_bipush (pc' := 79) (v := 9) dX3_readTide_77 rfl (by decide) ?_
  obtain ⟨P1, hC1, hK1⟩ := k0
  exact jr_callV (pc' := 82) (k := 10) (av := [.int 0, .int 9]) (st := [.int a1, .ref 13]) sX3_takeNumber wmX3_79 dX3_readTide_79 rfl (by decide) rfl (by decide) rfl rfl rfl (Nat.le_of_ble_eq_true rfl) rfl hC1 (fun v h2 hp => jG.weak (lv' := [some (.ref 10), some (.int a1)]) ⟨rfl, rfl, trivial⟩ (hK1 v h2 hp))

theorem q_RdreadTide_82 {E : jEnv} {n : Nat} {X : State → Prop} {Post : Option Value → HP → Prop} (a1 : Int32) (s0 : Int32) (s1 : Int32) (h : HP)
    (b0 : vp_in s1 6)
    (k0 : jG E mX3_readTide (n + 1) X Post 39 [some (.ref 10), some (.int (a1 + 1))] [] (jPI h 13 s1.toNatClampNeg s0))
    : jG E mX3_readTide (n + 1) X Post 82 [some (.ref 10), some (.int a1)] [.int s0, .int s1, .ref 13] h := by
  refine jr_iast (pc' := 83) (j := s1.toNatClampNeg) dX3_readTide_82 rfl (by decide) rfl (b0) rfl ?_
  refine jr_iinc (pc' := 86) (i := 1) (v := (a1 + 1)) (lv' := [some (.ref 10), some (.int (a1 + 1))]) dX3_readTide_83 rfl rfl (congrArg (a1 + ·) (by decide)) (by decide) rfl ?_
  refine jr_goto (pc' := 39) dX3_readTide_86 rfl ?_
  exact jG.weak (lv' := [some (.ref 10), some (.int (a1 + 1))]) ⟨rfl, rfl, trivial⟩ (k0)

theorem q_RdnextIs_0 {E : jEnv} {n : Nat} {X : State → Prop} {Post : Option Value → HP → Prop} (x : Int32) (h : HP)
    (k0 : jCall E mX3_skipBlanks n [.ref 10] h (fun v h2 => jG E mX3_nextIs (n + 1) X Post 4 [some (.ref 10), some (.int x)] (v.toList ++ []) h2))
    : jG E mX3_nextIs (n + 1) X Post 0 [some (.ref 10), some (.int x)] [] h := by
  refine jr_aload_n (pc' := 1) (i := 0) dX3_nextIs_0 rfl rfl rfl ?_
  obtain ⟨P1, hC1, hK1⟩ := k0
  exact jr_callV (pc' := 4) (k := 10) (av := []) (st := []) sX3_skipBlanks wmX3_48 dX3_nextIs_1 rfl (by decide) rfl (by decide) rfl rfl rfl (Nat.le_of_ble_eq_true rfl) rfl hC1 (fun v h2 hp => jG.weak (lv' := [some (.ref 10), some (.int x)]) ⟨rfl, rfl, trivial⟩ (hK1 v h2 hp))

theorem q_RdnextIs_4 {E : jEnv} {n : Nat} {X : State → Prop} {Post : Option Value → HP → Prop} (a1 : Int32) (h : HP)
    (k0 : ((f_TxbyteAt (h.1 1 1) (h.1 2) (h.1 10 4)) = a1) → Post (some (.int 1)) h)
    (k1 : (¬ (f_TxbyteAt (h.1 1 1) (h.1 2) (h.1 10 4)) = a1) → Post (some (.int 0)) h)
    : jG E mX3_nextIs (n + 1) X Post 4 [some (.ref 10), some (.int a1)] [] h := by
  refine jr_aload_n (pc' := 5) (i := 0) dX3_nextIs_4 rfl rfl rfl ?_
  refine jr_get (pc' := 8) jK3 (k := 10) (j := 0) (v := .ref 1) wfX3_41 dX3_nextIs_5 rfl (by decide) rfl (by decide) rfl ?_
  refine jr_aload_n (pc' := 9) (i := 0) dX3_nextIs_8 rfl rfl rfl ?_
  refine jr_get (pc' := 12) jK3 (k := 10) (j := 4) (v := .int (h.1 10 4)) wfX3_25 dX3_nextIs_9 rfl (by decide) rfl (by decide) rfl ?_
  refine jr_callV (pc' := 15) (k := 1) (av := [.int (h.1 10 4)]) (st := []) sX6_byteAt wmX3_167 dX3_nextIs_12 rfl (by decide) rfl (by decide) rfl rfl rfl (Nat.le_of_ble_eq_true rfl) rfl (c_TxbyteAt (n := n) (h.1 10 4) h ) (fun v h2 hp => ?_)
  rw [hp.1, hp.2]
  show jG E mX3_nextIs (n + 1) X Post 15 [some (.ref 10), some (.int a1)] [.int (f_TxbyteAt (h.1 1 1) (h.1 2) (h.1 10 4))] h
  refine jr_iload_n (pc' := 16) (i := 1) dX3_nextIs_15 rfl rfl rfl ?_
  by_cases c1 : (f_TxbyteAt (h.1 1 1) (h.1 2) (h.1 10 4)) = a1
  · refine jr_icmp_neF (pc' := 19) (tgt := 23) dX3_nextIs_16 rfl rfl c1 ?_
    refine jr_iconst (pc' := 20) (v := 1) dX3_nextIs_19 rfl (by decide) ?_
    refine jr_goto (pc' := 24) dX3_nextIs_20 rfl ?_
    exact jr_iret dX3_nextIs_24 rfl rfl (k0 c1)
  · refine jr_icmp_neT (pc' := 23) dX3_nextIs_16 rfl c1 ?_
    refine jr_iconst (pc' := 24) (v := 0) dX3_nextIs_23 rfl (by decide) ?_
    exact jr_iret dX3_nextIs_24 rfl rfl (k1 c1)

theorem q_RdreadMan_0 {E : jEnv} {n : Nat} {X : State → Prop} {Post : Option Value → HP → Prop}  (h : HP)
    (k0 : ((h.1 11 3) < 4) → jCall E mX3_takeCell n [.ref 10] h (fun v h2 => jG E mX3_readMan (n + 1) X Post 24 [some (.ref 10), none, none] (v.toList ++ []) h2))
    (k1 : (¬ (h.1 11 3) < 4) → jCall E mX3_fail n [.ref 10, .int 3, .int (h.1 10 5)] h (fun v h2 => jG E mX3_readMan (n + 1) X Post 20 [some (.ref 10), none, none] (v.toList ++ []) h2))
    : jG E mX3_readMan (n + 1) X Post 0 [some (.ref 10), none, none] [] h := by
  refine jr_aload_n (pc' := 1) (i := 0) dX3_readMan_0 rfl rfl rfl ?_
  refine jr_get (pc' := 4) jK3 (k := 10) (j := 1) (v := .ref 11) wfX3_12 dX3_readMan_1 rfl (by decide) rfl (by decide) rfl ?_
  refine jr_get (pc' := 7) jK2 (k := 11) (j := 3) (v := .int (h.1 11 3)) wfX3_143 dX3_readMan_4 rfl (by decide) rfl (by decide) rfl ?_
  refine jr_iconst (pc' := 8) (v := 4) dX3_readMan_7 rfl (by decide) ?_
  by_cases c1 : (h.1 11 3) < 4
  · refine jr_icmp_ltT (pc' := 20) dX3_readMan_8 rfl c1 ?_
    refine jr_aload_n (pc' := 21) (i := 0) dX3_readMan_20 rfl rfl rfl ?_
    obtain ⟨P1, hC1, hK1⟩ := k0 c1
    exact jr_callV (pc' := 24) (k := 10) (av := []) (st := []) sX3_takeCell wmX3_146 dX3_readMan_21 rfl (by decide) rfl (by decide) rfl rfl rfl (Nat.le_of_ble_eq_true rfl) rfl hC1 (fun v h2 hp => jG.weak (lv' := [some (.ref 10), none, none]) ⟨rfl, trivial⟩ (hK1 v h2 hp))
  · refine jr_icmp_ltF (pc' := 11) (tgt := 20) dX3_readMan_8 rfl rfl c1 ?_
    refine jr_aload_n (pc' := 12) (i := 0) dX3_readMan_11 rfl rfl rfl ?_
    refine jr_iconst (pc' := 13) (v := 3) dX3_readMan_12 rfl (by decide) ?_
    refine jr_aload_n (pc' := 14) (i := 0) dX3_readMan_13 rfl rfl rfl ?_
    refine jr_get (pc' := 17) jK3 (k := 10) (j := 5) (v := .int (h.1 10 5)) wfX3_28 dX3_readMan_14 rfl (by decide) rfl (by decide) rfl ?_
    obtain ⟨P1, hC1, hK1⟩ := k1 c1
    exact jr_callV (pc' := 20) (k := 10) (av := [.int 3, .int (h.1 10 5)]) (st := []) sX3_fail wmX3_75 dX3_readMan_17 rfl (by decide) rfl (by decide) rfl rfl rfl (Nat.le_of_ble_eq_true rfl) rfl hC1 (fun v h2 hp => jG.weak (lv' := [some (.ref 10), none, none]) ⟨rfl, trivial⟩ (hK1 v h2 hp))

theorem q_RdreadMan_24 {E : jEnv} {n : Nat} {X : State → Prop} {Post : Option Value → HP → Prop} (s0 : Int32) (h : HP)
    (k0 : jCall E mX3_takeNumber n [.ref 10, .int 0, .int 6] h (fun v h2 => jG E mX3_readMan (n + 1) X Post 32 [some (.ref 10), some (.int s0), none] (v.toList ++ []) h2))
    : jG E mX3_readMan (n + 1) X Post 24 [some (.ref 10), none, none] [.int s0] h := by
  refine jr_istore_n (pc' := 25) (i := 1) (lv' := [some (.ref 10), some (.int s0), none]) dX3_readMan_24 rfl rfl (by decide) rfl ?_
  refine jr_aload_n (pc' := 26) (i := 0) dX3_readMan_25 rfl rfl rfl ?_
  refine jr_iconst (pc' := 27) (v := 0) dX3_readMan_26 rfl (by decide) ?_
  refine jr_bipush (pc' := 29) (v := 6) dX3_readMan_27 rfl (by decide) ?_
  obtain ⟨P1, hC1, hK1⟩ := k0
  exact jr_callV (pc' := 32) (k := 10) (av := [.int 0, .int 6]) (st := []) sX3_takeNumber wmX3_79 dX3_readMan_29 rfl (by decide) rfl (by decide) rfl rfl rfl (Nat.le_of_ble_eq_true rfl) rfl hC1 (fun v h2 hp => jG.weak (lv' := [some (.ref 10), some (.int s0), none]) ⟨rfl, rfl, trivial⟩ (hK1 v h2 hp))

theorem q_RdreadMan_20 {E : jEnv} {n : Nat} {X : State → Prop} {Post : Option Value → HP → Prop}  (h : HP)
    (k0 : jCall E mX3_takeCell n [.ref 10] h (fun v h2 => jG E mX3_readMan (n + 1) X Post 24 [some (.ref 10), none, none] (v.toList ++ []) h2))
    : jG E mX3_readMan (n + 1) X Post 20 [some (.ref 10), none, none] [] h := by
  refine jr_aload_n (pc' := 21) (i := 0) dX3_readMan_20 rfl rfl rfl ?_
  obtain ⟨P1, hC1, hK1⟩ := k0
  exact jr_callV (pc' := 24) (k := 10) (av := []) (st := []) sX3_takeCell wmX3_146 dX3_readMan_21 rfl (by decide) rfl (by decide) rfl rfl rfl (Nat.le_of_ble_eq_true rfl) rfl hC1 (fun v h2 hp => jG.weak (lv' := [some (.ref 10), none, none]) ⟨rfl, trivial⟩ (hK1 v h2 hp))

theorem q_RdreadMan_32 {E : jEnv} {n : Nat} {X : State → Prop} {Post : Option Value → HP → Prop} (a1 : Int32) (s0 : Int32) (h : HP)
    (k0 : jCall E mX3_takeSign n [.ref 10, .int 59] h (fun v h2 => jG E mX3_readMan (n + 1) X Post 39 [some (.ref 10), some (.int a1), some (.int s0)] (v.toList ++ []) h2))
    : jG E mX3_readMan (n + 1) X Post 32 [some (.ref 10), some (.int a1), none] [.int s0] h := by
  refine jr_istore_n (pc' := 33) (i := 2) (lv' := [some (.ref 10), some (.int a1), some (.int s0)]) dX3_readMan_32 rfl rfl (by decide) rfl ?_
  refine jr_aload_n (pc' := 34) (i := 0) dX3_readMan_33 rfl rfl rfl ?_
  refine jr_bipush (pc' := 36) (v := 59) dX3_readMan_34 rfl (by decide) ?_
  obtain ⟨P1, hC1, hK1⟩ := k0
  exact jr_callV (pc' := 39) (k := 10) (av := [.int 59]) (st := []) sX3_takeSign wmX3_88 dX3_readMan_36 rfl (by decide) rfl (by decide) rfl rfl rfl (Nat.le_of_ble_eq_true rfl) rfl hC1 (fun v h2 hp => jG.weak (lv' := [some (.ref 10), some (.int a1), some (.int s0)]) ⟨rfl, rfl, rfl, trivial⟩ (hK1 v h2 hp))

theorem q_RdreadMan_39 {E : jEnv} {n : Nat} {X : State → Prop} {Post : Option Value → HP → Prop} (a1 : Int32) (a2 : Int32) (h : HP)
    (b0 : ((f_Rdfailed (h.1 10 2)) = 0) → vp_in (h.1 11 3) 4)
    (b1 : ((f_Rdfailed (h.1 10 2)) = 0) → vp_in (h.1 11 3) 4)
    (k0 : ((f_Rdfailed (h.1 10 2)) = 0) → Post none (jPI (jPI (jPI h 14 ((h.1 11 3).toNatClampNeg) a1) 15 ((h.1 11 3).toNatClampNeg) a2) 11 3 ((h.1 11 3) + 1)))
    (k1 : (¬ (f_Rdfailed (h.1 10 2)) = 0) → Post none h)
    : jG E mX3_readMan (n + 1) X Post 39 [some (.ref 10), some (.int a1), some (.int a2)] [] h := by
  refine jr_aload_n (pc' := 40) (i := 0) dX3_readMan_39 rfl rfl rfl ?_
  refine jr_callV (pc' := 43) (k := 10) (av := []) (st := []) sX3_failed wmX3_59 dX3_readMan_40 rfl (by decide) rfl (by decide) rfl rfl rfl (Nat.le_of_ble_eq_true rfl) rfl (c_Rdfailed (n := n)  h ) (fun v h2 hp => ?_)
  rw [hp.1, hp.2]
  show jG E mX3_readMan (n + 1) X Post 43 [some (.ref 10), some (.int a1), some (.int a2)] [.int (f_Rdfailed (h.1 10 2))] h
  by_cases c1 : (f_Rdfailed (h.1 10 2)) = 0
  · refine jr_if_neF (pc' := 46) (tgt := 91) dX3_readMan_43 rfl rfl c1 ?_
    refine jr_aload_n (pc' := 47) (i := 0) dX3_readMan_46 rfl rfl rfl ?_
    refine jr_get (pc' := 50) jK3 (k := 10) (j := 1) (v := .ref 11) wfX3_12 dX3_readMan_47 rfl (by decide) rfl (by decide) rfl ?_
    refine jr_get (pc' := 53) jK2 (k := 11) (j := 11) (v := .ref 14) wfX3_150 dX3_readMan_50 rfl (by decide) rfl (by decide) rfl ?_
    refine jr_aload_n (pc' := 54) (i := 0) dX3_readMan_53 rfl rfl rfl ?_
    refine jr_get (pc' := 57) jK3 (k := 10) (j := 1) (v := .ref 11) wfX3_12 dX3_readMan_54 rfl (by decide) rfl (by decide) rfl ?_
    refine jr_get (pc' := 60) jK2 (k := 11) (j := 3) (v := .int (h.1 11 3)) wfX3_143 dX3_readMan_57 rfl (by decide) rfl (by decide) rfl ?_
    refine jr_iload_n (pc' := 61) (i := 1) dX3_readMan_60 rfl rfl rfl ?_
    refine jr_iast (pc' := 62) (j := (h.1 11 3).toNatClampNeg) dX3_readMan_61 rfl (by decide) rfl (b0 c1) rfl ?_
    refine jr_aload_n (pc' := 63) (i := 0) dX3_readMan_62 rfl rfl rfl ?_
    refine jr_get (pc' := 66) jK3 (k := 10) (j := 1) (v := .ref 11) wfX3_12 dX3_readMan_63 rfl (by decide) rfl (by decide) rfl ?_
    refine jr_get (pc' := 69) jK2 (k := 11) (j := 12) (v := .ref 15) wfX3_153 dX3_readMan_66 rfl (by decide) rfl (by decide) rfl ?_
    refine jr_aload_n (pc' := 70) (i := 0) dX3_readMan_69 rfl rfl rfl ?_
    refine jr_get (pc' := 73) jK3 (k := 10) (j := 1) (v := .ref 11) wfX3_12 dX3_readMan_70 rfl (by decide) rfl (by decide) rfl ?_
    refine jr_get (pc' := 76) jK2 (k := 11) (j := 3) (v := .int (h.1 11 3)) wfX3_143 dX3_readMan_73 rfl (by decide) rfl (by decide) rfl ?_
    refine jr_iload_n (pc' := 77) (i := 2) dX3_readMan_76 rfl rfl rfl ?_
    refine jr_iast (pc' := 78) (j := (h.1 11 3).toNatClampNeg) dX3_readMan_77 rfl (by decide) rfl (b1 c1) rfl ?_
    refine jr_aload_n (pc' := 79) (i := 0) dX3_readMan_78 rfl rfl rfl ?_
    refine jr_get (pc' := 82) jK3 (k := 10) (j := 1) (v := .ref 11) wfX3_12 dX3_readMan_79 rfl (by decide) rfl (by decide) rfl ?_
    refine jr_dup (pc' := 83)  dX3_readMan_82 rfl rfl ?_
    refine jr_get (pc' := 86) jK2 (k := 11) (j := 3) (v := .int (h.1 11 3)) wfX3_143 dX3_readMan_83 rfl (by decide) rfl (by decide) rfl ?_
    refine jr_iconst (pc' := 87) (v := 1) dX3_readMan_86 rfl (by decide) ?_
    refine jr_iadd (pc' := 88)  dX3_readMan_87 rfl  ?_
    refine jr_putI (pc' := 91) jK2 (k := 11) (j := 3) wfX3_143 dX3_readMan_88 rfl (by decide) rfl (by decide) (by decide) rfl rfl rfl ?_
    exact jr_vret dX3_readMan_91 rfl (k0 c1)
  · refine jr_if_neT (pc' := 91) dX3_readMan_43 rfl c1 ?_
    exact jr_vret dX3_readMan_91 rfl (k1 c1)

theorem q_RdtakeCell_0 {E : jEnv} {n : Nat} {X : State → Prop} {Post : Option Value → HP → Prop}  (h : HP)
    (k0 : jCall E mX3_takeNumber n [.ref 10, .int 0, .int ((h.1 11 0) - 1)] h (fun v h2 => jG E mX3_takeCell (n + 1) X Post 14 [some (.ref 10), none, none] (v.toList ++ []) h2))
    : jG E mX3_takeCell (n + 1) X Post 0 [some (.ref 10), none, none] [] h := by
  refine jr_aload_n (pc' := 1) (i := 0) dX3_takeCell_0 rfl rfl rfl ?_
  refine jr_iconst (pc' := 2) (v := 0) dX3_takeCell_1 rfl (by decide) ?_
  refine jr_aload_n (pc' := 3) (i := 0) dX3_takeCell_2 rfl rfl rfl ?_
  refine jr_get (pc' := 6) jK3 (k := 10) (j := 1) (v := .ref 11) wfX3_12 dX3_takeCell_3 rfl (by decide) rfl (by decide) rfl ?_
  refine jr_get (pc' := 9) jK2 (k := 11) (j := 0) (v := .int (h.1 11 0)) wfX3_92 dX3_takeCell_6 rfl (by decide) rfl (by decide) rfl ?_
  refine jr_iconst (pc' := 10) (v := 1) dX3_takeCell_9 rfl (by decide) ?_
  refine jr_isub (pc' := 11)  dX3_takeCell_10 rfl  ?_
  obtain ⟨P1, hC1, hK1⟩ := k0
  exact jr_callV (pc' := 14) (k := 10) (av := [.int 0, .int ((h.1 11 0) - 1)]) (st := []) sX3_takeNumber wmX3_79 dX3_takeCell_11 rfl (by decide) rfl (by decide) rfl rfl rfl (Nat.le_of_ble_eq_true rfl) rfl hC1 (fun v h2 hp => jG.weak (lv' := [some (.ref 10), none, none]) ⟨rfl, trivial⟩ (hK1 v h2 hp))

theorem q_RdtakeCell_14 {E : jEnv} {n : Nat} {X : State → Prop} {Post : Option Value → HP → Prop} (s0 : Int32) (h : HP)
    (k0 : jCall E mX3_takeNumber n [.ref 10, .int 0, .int ((h.1 11 1) - 1)] h (fun v h2 => jG E mX3_takeCell (n + 1) X Post 29 [some (.ref 10), some (.int s0), none] (v.toList ++ []) h2))
    : jG E mX3_takeCell (n + 1) X Post 14 [some (.ref 10), none, none] [.int s0] h := by
  refine jr_istore_n (pc' := 15) (i := 1) (lv' := [some (.ref 10), some (.int s0), none]) dX3_takeCell_14 rfl rfl (by decide) rfl ?_
  refine jr_aload_n (pc' := 16) (i := 0) dX3_takeCell_15 rfl rfl rfl ?_
  refine jr_iconst (pc' := 17) (v := 0) dX3_takeCell_16 rfl (by decide) ?_
  refine jr_aload_n (pc' := 18) (i := 0) dX3_takeCell_17 rfl rfl rfl ?_
  refine jr_get (pc' := 21) jK3 (k := 10) (j := 1) (v := .ref 11) wfX3_12 dX3_takeCell_18 rfl (by decide) rfl (by decide) rfl ?_
  refine jr_get (pc' := 24) jK2 (k := 11) (j := 1) (v := .int (h.1 11 1)) wfX3_95 dX3_takeCell_21 rfl (by decide) rfl (by decide) rfl ?_
  refine jr_iconst (pc' := 25) (v := 1) dX3_takeCell_24 rfl (by decide) ?_
  refine jr_isub (pc' := 26)  dX3_takeCell_25 rfl  ?_
  obtain ⟨P1, hC1, hK1⟩ := k0
  exact jr_callV (pc' := 29) (k := 10) (av := [.int 0, .int ((h.1 11 1) - 1)]) (st := []) sX3_takeNumber wmX3_79 dX3_takeCell_26 rfl (by decide) rfl (by decide) rfl rfl rfl (Nat.le_of_ble_eq_true rfl) rfl hC1 (fun v h2 hp => jG.weak (lv' := [some (.ref 10), some (.int s0), none]) ⟨rfl, rfl, trivial⟩ (hK1 v h2 hp))

theorem q_RdtakeCell_29 {E : jEnv} {n : Nat} {X : State → Prop} {Post : Option Value → HP → Prop} (a1 : Int32) (s0 : Int32) (h : HP)
    (k0 : Post (some (.int (f_LdcellOf11 (h.1 11 0) a1 s0))) h)
    : jG E mX3_takeCell (n + 1) X Post 29 [some (.ref 10), some (.int a1), none] [.int s0] h := by
  refine jr_istore_n (pc' := 30) (i := 2) (lv' := [some (.ref 10), some (.int a1), some (.int s0)]) dX3_takeCell_29 rfl rfl (by decide) rfl ?_
  refine jr_aload_n (pc' := 31) (i := 0) dX3_takeCell_30 rfl rfl rfl ?_
  refine jr_get (pc' := 34) jK3 (k := 10) (j := 1) (v := .ref 11) wfX3_12 dX3_takeCell_31 rfl (by decide) rfl (by decide) rfl ?_
  refine jr_iload_n (pc' := 35) (i := 1) dX3_takeCell_34 rfl rfl rfl ?_
  refine jr_iload_n (pc' := 36) (i := 2) dX3_takeCell_35 rfl rfl rfl ?_
  refine jr_callV (pc' := 39) (k := 11) (av := [.int a1, .int s0]) (st := []) sX2_cellOf wmX3_131 dX3_takeCell_36 rfl (by decide) rfl (by decide) rfl rfl rfl (Nat.le_of_ble_eq_true rfl) rfl (c_LdcellOf11 (n := n) a1 s0 h ) (fun v h2 hp => ?_)
  rw [hp.1, hp.2]
  show jG E mX3_takeCell (n + 1) X Post 39 [some (.ref 10), some (.int a1), some (.int s0)] [.int (f_LdcellOf11 (h.1 11 0) a1 s0)] h
  exact jr_iret dX3_takeCell_39 rfl rfl (k0)

theorem q_RdreadNews_0 {E : jEnv} {n : Nat} {X : State → Prop} {Post : Option Value → HP → Prop}  (h : HP)
    (k0 : ((h.1 11 4) < 4) → jCall E mX3_takeCell n [.ref 10] h (fun v h2 => jG E mX3_readNews (n + 1) X Post 24 [some (.ref 10), none] (v.toList ++ []) h2))
    (k1 : (¬ (h.1 11 4) < 4) → jCall E mX3_fail n [.ref 10, .int 3, .int (h.1 10 5)] h (fun v h2 => jG E mX3_readNews (n + 1) X Post 20 [some (.ref 10), none] (v.toList ++ []) h2))
    : jG E mX3_readNews (n + 1) X Post 0 [some (.ref 10), none] [] h := by
  refine jr_aload_n (pc' := 1) (i := 0) dX3_readNews_0 rfl rfl rfl ?_
  refine jr_get (pc' := 4) jK3 (k := 10) (j := 1) (v := .ref 11) wfX3_12 dX3_readNews_1 rfl (by decide) rfl (by decide) rfl ?_
  refine jr_get (pc' := 7) jK2 (k := 11) (j := 4) (v := .int (h.1 11 4)) wfX3_156 dX3_readNews_4 rfl (by decide) rfl (by decide) rfl ?_
  refine jr_iconst (pc' := 8) (v := 4) dX3_readNews_7 rfl (by decide) ?_
  by_cases c1 : (h.1 11 4) < 4
  · refine jr_icmp_ltT (pc' := 20) dX3_readNews_8 rfl c1 ?_
    refine jr_aload_n (pc' := 21) (i := 0) dX3_readNews_20 rfl rfl rfl ?_
    obtain ⟨P1, hC1, hK1⟩ := k0 c1
    exact jr_callV (pc' := 24) (k := 10) (av := []) (st := []) sX3_takeCell wmX3_146 dX3_readNews_21 rfl (by decide) rfl (by decide) rfl rfl rfl (Nat.le_of_ble_eq_true rfl) rfl hC1 (fun v h2 hp => jG.weak (lv' := [some (.ref 10), none]) ⟨rfl, trivial⟩ (hK1 v h2 hp))
  · refine jr_icmp_ltF (pc' := 11) (tgt := 20) dX3_readNews_8 rfl rfl c1 ?_
    refine jr_aload_n (pc' := 12) (i := 0) dX3_readNews_11 rfl rfl rfl ?_
    refine jr_iconst (pc' := 13) (v := 3) dX3_readNews_12 rfl (by decide) ?_
    refine jr_aload_n (pc' := 14) (i := 0) dX3_readNews_13 rfl rfl rfl ?_
    refine jr_get (pc' := 17) jK3 (k := 10) (j := 5) (v := .int (h.1 10 5)) wfX3_28 dX3_readNews_14 rfl (by decide) rfl (by decide) rfl ?_
    obtain ⟨P1, hC1, hK1⟩ := k1 c1
    exact jr_callV (pc' := 20) (k := 10) (av := [.int 3, .int (h.1 10 5)]) (st := []) sX3_fail wmX3_75 dX3_readNews_17 rfl (by decide) rfl (by decide) rfl rfl rfl (Nat.le_of_ble_eq_true rfl) rfl hC1 (fun v h2 hp => jG.weak (lv' := [some (.ref 10), none]) ⟨rfl, trivial⟩ (hK1 v h2 hp))

theorem q_RdreadNews_24 {E : jEnv} {n : Nat} {X : State → Prop} {Post : Option Value → HP → Prop} (s0 : Int32) (h : HP)
    (k0 : jCall E mX3_takeSign n [.ref 10, .int 59] h (fun v h2 => jG E mX3_readNews (n + 1) X Post 31 [some (.ref 10), some (.int s0)] (v.toList ++ []) h2))
    : jG E mX3_readNews (n + 1) X Post 24 [some (.ref 10), none] [.int s0] h := by
  refine jr_istore_n (pc' := 25) (i := 1) (lv' := [some (.ref 10), some (.int s0)]) dX3_readNews_24 rfl rfl (by decide) rfl ?_
  refine jr_aload_n (pc' := 26) (i := 0) dX3_readNews_25 rfl rfl rfl ?_
  refine jr_bipush (pc' := 28) (v := 59) dX3_readNews_26 rfl (by decide) ?_
  obtain ⟨P1, hC1, hK1⟩ := k0
  exact jr_callV (pc' := 31) (k := 10) (av := [.int 59]) (st := []) sX3_takeSign wmX3_88 dX3_readNews_28 rfl (by decide) rfl (by decide) rfl rfl rfl (Nat.le_of_ble_eq_true rfl) rfl hC1 (fun v h2 hp => jG.weak (lv' := [some (.ref 10), some (.int s0)]) ⟨rfl, rfl, trivial⟩ (hK1 v h2 hp))

theorem q_RdreadNews_20 {E : jEnv} {n : Nat} {X : State → Prop} {Post : Option Value → HP → Prop}  (h : HP)
    (k0 : jCall E mX3_takeCell n [.ref 10] h (fun v h2 => jG E mX3_readNews (n + 1) X Post 24 [some (.ref 10), none] (v.toList ++ []) h2))
    : jG E mX3_readNews (n + 1) X Post 20 [some (.ref 10), none] [] h := by
  refine jr_aload_n (pc' := 21) (i := 0) dX3_readNews_20 rfl rfl rfl ?_
  obtain ⟨P1, hC1, hK1⟩ := k0
  exact jr_callV (pc' := 24) (k := 10) (av := []) (st := []) sX3_takeCell wmX3_146 dX3_readNews_21 rfl (by decide) rfl (by decide) rfl rfl rfl (Nat.le_of_ble_eq_true rfl) rfl hC1 (fun v h2 hp => jG.weak (lv' := [some (.ref 10), none]) ⟨rfl, trivial⟩ (hK1 v h2 hp))

theorem q_RdreadNews_31 {E : jEnv} {n : Nat} {X : State → Prop} {Post : Option Value → HP → Prop} (a1 : Int32) (h : HP)
    (b0 : ((f_Rdfailed (h.1 10 2)) = 0) → vp_in (h.1 11 4) 4)
    (k0 : ((f_Rdfailed (h.1 10 2)) = 0) → Post none (jPI (jPI h 16 ((h.1 11 4).toNatClampNeg) a1) 11 4 ((h.1 11 4) + 1)))
    (k1 : (¬ (f_Rdfailed (h.1 10 2)) = 0) → Post none h)
    : jG E mX3_readNews (n + 1) X Post 31 [some (.ref 10), some (.int a1)] [] h := by
  refine jr_aload_n (pc' := 32) (i := 0) dX3_readNews_31 rfl rfl rfl ?_
  refine jr_callV (pc' := 35) (k := 10) (av := []) (st := []) sX3_failed wmX3_59 dX3_readNews_32 rfl (by decide) rfl (by decide) rfl rfl rfl (Nat.le_of_ble_eq_true rfl) rfl (c_Rdfailed (n := n)  h ) (fun v h2 hp => ?_)
  rw [hp.1, hp.2]
  show jG E mX3_readNews (n + 1) X Post 35 [some (.ref 10), some (.int a1)] [.int (f_Rdfailed (h.1 10 2))] h
  by_cases c1 : (f_Rdfailed (h.1 10 2)) = 0
  · refine jr_if_neF (pc' := 38) (tgt := 67) dX3_readNews_35 rfl rfl c1 ?_
    refine jr_aload_n (pc' := 39) (i := 0) dX3_readNews_38 rfl rfl rfl ?_
    refine jr_get (pc' := 42) jK3 (k := 10) (j := 1) (v := .ref 11) wfX3_12 dX3_readNews_39 rfl (by decide) rfl (by decide) rfl ?_
    refine jr_get (pc' := 45) jK2 (k := 11) (j := 13) (v := .ref 16) wfX3_158 dX3_readNews_42 rfl (by decide) rfl (by decide) rfl ?_
    refine jr_aload_n (pc' := 46) (i := 0) dX3_readNews_45 rfl rfl rfl ?_
    refine jr_get (pc' := 49) jK3 (k := 10) (j := 1) (v := .ref 11) wfX3_12 dX3_readNews_46 rfl (by decide) rfl (by decide) rfl ?_
    refine jr_get (pc' := 52) jK2 (k := 11) (j := 4) (v := .int (h.1 11 4)) wfX3_156 dX3_readNews_49 rfl (by decide) rfl (by decide) rfl ?_
    refine jr_iload_n (pc' := 53) (i := 1) dX3_readNews_52 rfl rfl rfl ?_
    refine jr_iast (pc' := 54) (j := (h.1 11 4).toNatClampNeg) dX3_readNews_53 rfl (by decide) rfl (b0 c1) rfl ?_
    refine jr_aload_n (pc' := 55) (i := 0) dX3_readNews_54 rfl rfl rfl ?_
    refine jr_get (pc' := 58) jK3 (k := 10) (j := 1) (v := .ref 11) wfX3_12 dX3_readNews_55 rfl (by decide) rfl (by decide) rfl ?_
    refine jr_dup (pc' := 59)  dX3_readNews_58 rfl rfl ?_
    refine jr_get (pc' := 62) jK2 (k := 11) (j := 4) (v := .int (h.1 11 4)) wfX3_156 dX3_readNews_59 rfl (by decide) rfl (by decide) rfl ?_
    refine jr_iconst (pc' := 63) (v := 1) dX3_readNews_62 rfl (by decide) ?_
    refine jr_iadd (pc' := 64)  dX3_readNews_63 rfl  ?_
    refine jr_putI (pc' := 67) jK2 (k := 11) (j := 4) wfX3_156 dX3_readNews_64 rfl (by decide) rfl (by decide) (by decide) rfl rfl rfl ?_
    exact jr_vret dX3_readNews_67 rfl (k0 c1)
  · refine jr_if_neT (pc' := 67) dX3_readNews_35 rfl c1 ?_
    exact jr_vret dX3_readNews_67 rfl (k1 c1)

theorem q_RdreadCastle_0 {E : jEnv} {n : Nat} {X : State → Prop} {Post : Option Value → HP → Prop}  (h : HP)
    (k0 : ((h.1 10 8) = 0) → jCall E mX3_takeCell n [.ref 10] (jPI h 10 8 1) (fun v h2 => jG E mX3_readCastle (n + 1) X Post 29 [some (.ref 10)] (v.toList ++ [.ref 11]) h2))
    (k1 : (¬ (h.1 10 8) = 0) → jCall E mX3_fail n [.ref 10, .int 3, .int (h.1 10 5)] h (fun v h2 => jG E mX3_readCastle (n + 1) X Post 16 [some (.ref 10)] (v.toList ++ []) h2))
    : jG E mX3_readCastle (n + 1) X Post 0 [some (.ref 10)] [] h := by
  refine jr_aload_n (pc' := 1) (i := 0) dX3_readCastle_0 rfl rfl rfl ?_
  refine jr_get (pc' := 4) jK3 (k := 10) (j := 8) (v := .int (h.1 10 8)) wfX3_38 dX3_readCastle_1 rfl (by decide) rfl (by decide) rfl ?_
  by_cases c1 : (h.1 10 8) = 0
  · refine jr_if_eqT (pc' := 16) dX3_readCastle_4 rfl c1 ?_
    refine jr_aload_n (pc' := 17) (i := 0) dX3_readCastle_16 rfl rfl rfl ?_
    refine jr_iconst (pc' := 18) (v := 1) dX3_readCastle_17 rfl (by decide) ?_
    refine jr_putI (pc' := 21) jK3 (k := 10) (j := 8) wfX3_38 dX3_readCastle_18 rfl (by decide) rfl (by decide) (by decide) rfl rfl rfl ?_
    refine jr_aload_n (pc' := 22) (i := 0) dX3_readCastle_21 rfl rfl rfl ?_
    refine jr_get (pc' := 25) jK3 (k := 10) (j := 1) (v := .ref 11) wfX3_12 dX3_readCastle_22 rfl (by decide) rfl (by decide) rfl ?_
    refine jr_aload_n (pc' := 26) (i := 0) dX3_readCastle_25 rfl rfl rfl ?_
    obtain ⟨P1, hC1, hK1⟩ := k0 c1
    exact jr_callV (pc' := 29) (k := 10) (av := []) (st := [.ref 11]) sX3_takeCell wmX3_146 dX3_readCastle_26 rfl (by decide) rfl (by decide) rfl rfl rfl (Nat.le_of_ble_eq_true rfl) rfl hC1 (fun v h2 hp => jG.weak (lv' := [some (.ref 10)]) ⟨rfl, trivial⟩ (hK1 v h2 hp))
  · refine jr_if_eqF (pc' := 7) (tgt := 16) dX3_readCastle_4 rfl rfl c1 ?_
    refine jr_aload_n (pc' := 8) (i := 0) dX3_readCastle_7 rfl rfl rfl ?_
    refine jr_iconst (pc' := 9) (v := 3) dX3_readCastle_8 rfl (by decide) ?_
    refine jr_aload_n (pc' := 10) (i := 0) dX3_readCastle_9 rfl rfl rfl ?_
    refine jr_get (pc' := 13) jK3 (k := 10) (j := 5) (v := .int (h.1 10 5)) wfX3_28 dX3_readCastle_10 rfl (by decide) rfl (by decide) rfl ?_
    obtain ⟨P1, hC1, hK1⟩ := k1 c1
    exact jr_callV (pc' := 16) (k := 10) (av := [.int 3, .int (h.1 10 5)]) (st := []) sX3_fail wmX3_75 dX3_readCastle_13 rfl (by decide) rfl (by decide) rfl rfl rfl (Nat.le_of_ble_eq_true rfl) rfl hC1 (fun v h2 hp => jG.weak (lv' := [some (.ref 10)]) ⟨rfl, trivial⟩ (hK1 v h2 hp))

theorem q_RdreadCastle_29 {E : jEnv} {n : Nat} {X : State → Prop} {Post : Option Value → HP → Prop} (s0 : Int32) (h : HP)
    (k0 : jCall E mX3_takeSign n [.ref 10, .int 59] (jPI h 11 5 s0) (fun v h2 => jG E mX3_readCastle (n + 1) X Post 38 [none] (v.toList ++ []) h2))
    : jG E mX3_readCastle (n + 1) X Post 29 [some (.ref 10)] [.int s0, .ref 11] h := by
  refine jr_putI (pc' := 32) jK2 (k := 11) (j := 5) wfX3_161 dX3_readCastle_29 rfl (by decide) rfl (by decide) (by decide) rfl rfl rfl ?_
  refine jr_aload_n (pc' := 33) (i := 0) dX3_readCastle_32 rfl rfl rfl ?_
  refine jr_bipush (pc' := 35) (v := 59) dX3_readCastle_33 rfl (by decide) ?_
  obtain ⟨P1, hC1, hK1⟩ := k0
  exact jr_callV (pc' := 38) (k := 10) (av := [.int 59]) (st := []) sX3_takeSign wmX3_88 dX3_readCastle_35 rfl (by decide) rfl (by decide) rfl rfl rfl (Nat.le_of_ble_eq_true rfl) rfl hC1 (fun v h2 hp => jG.weak (lv' := [none]) trivial (hK1 v h2 hp))

theorem q_RdreadCastle_16 {E : jEnv} {n : Nat} {X : State → Prop} {Post : Option Value → HP → Prop}  (h : HP)
    (k0 : jCall E mX3_takeCell n [.ref 10] (jPI h 10 8 1) (fun v h2 => jG E mX3_readCastle (n + 1) X Post 29 [some (.ref 10)] (v.toList ++ [.ref 11]) h2))
    : jG E mX3_readCastle (n + 1) X Post 16 [some (.ref 10)] [] h := by
  refine jr_aload_n (pc' := 17) (i := 0) dX3_readCastle_16 rfl rfl rfl ?_
  refine jr_iconst (pc' := 18) (v := 1) dX3_readCastle_17 rfl (by decide) ?_
  refine jr_putI (pc' := 21) jK3 (k := 10) (j := 8) wfX3_38 dX3_readCastle_18 rfl (by decide) rfl (by decide) (by decide) rfl rfl rfl ?_
  refine jr_aload_n (pc' := 22) (i := 0) dX3_readCastle_21 rfl rfl rfl ?_
  refine jr_get (pc' := 25) jK3 (k := 10) (j := 1) (v := .ref 11) wfX3_12 dX3_readCastle_22 rfl (by decide) rfl (by decide) rfl ?_
  refine jr_aload_n (pc' := 26) (i := 0) dX3_readCastle_25 rfl rfl rfl ?_
  obtain ⟨P1, hC1, hK1⟩ := k0
  exact jr_callV (pc' := 29) (k := 10) (av := []) (st := [.ref 11]) sX3_takeCell wmX3_146 dX3_readCastle_26 rfl (by decide) rfl (by decide) rfl rfl rfl (Nat.le_of_ble_eq_true rfl) rfl hC1 (fun v h2 hp => jG.weak (lv' := [some (.ref 10)]) ⟨rfl, trivial⟩ (hK1 v h2 hp))

theorem q_RdreadCastle_38 {E : jEnv} {n : Nat} {X : State → Prop} {Post : Option Value → HP → Prop}  (h : HP)
    (k0 : Post none h)
    : jG E mX3_readCastle (n + 1) X Post 38 [none] [] h := by
  exact jr_vret dX3_readCastle_38 rfl (k0)

