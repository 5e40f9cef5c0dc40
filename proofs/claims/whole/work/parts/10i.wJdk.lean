theorem q_fill12_0 {E : jEnv} {n : Nat} {X : State → Prop} {Post : Option Value → HP → Prop} (x : Int32) (h : HP)
    (k0 : jG E mJ7_fill_53178 n X Post 5 [some (.ref 12), some (.int x), some (.int 0), some (.int 36)] [] h)
    : jG E mJ7_fill_53178 n X Post 0 [some (.ref 12), some (.int x), none, none] [] h := by
  refine jr_iconst (pc' := 1) (v := 0) dJ7_fill_53178_0 rfl (by decide) ?_
  refine jr_istore_n (pc' := 2) (i := 2) (lv' := [some (.ref 12), some (.int x), some (.int 0), none]) dJ7_fill_53178_1 rfl rfl (by decide) rfl ?_
  refine jr_aload_n (pc' := 3) (i := 0) dJ7_fill_53178_2 rfl rfl rfl ?_
  refine jr_alen (pc' := 4) (v := 36) dJ7_fill_53178_3 rfl (by decide) (by decide) (by decide) ?_
  refine jr_istore_n (pc' := 5) (i := 3) (lv' := [some (.ref 12), some (.int x), some (.int 0), some (.int 36)]) dJ7_fill_53178_4 rfl rfl (by decide) rfl ?_
  exact jG.weak (lv' := [some (.ref 12), some (.int x), some (.int 0), some (.int 36)]) ⟨rfl, rfl, rfl, rfl, trivial⟩ (k0)

theorem q_fill12_5 {E : jEnv} {n : Nat} {X : State → Prop} {Post : Option Value → HP → Prop} (a1 : Int32) (a2 : Int32) (a3 : Int32) (h : HP)
    (k0 : (a3 ≤ a2) → Post none h)
    (b0 : (¬ a3 ≤ a2) → vp_in a2 36)
    (k1 : (¬ a3 ≤ a2) → jG E mJ7_fill_53178 n X Post 5 [some (.ref 12), some (.int a1), some (.int (a2 + 1)), some (.int a3)] [] (jPI h 12 a2.toNatClampNeg a1))
    : jG E mJ7_fill_53178 n X Post 5 [some (.ref 12), some (.int a1), some (.int a2), some (.int a3)] [] h := by
  refine jr_iload_n (pc' := 6) (i := 2) dJ7_fill_53178_5 rfl rfl rfl ?_
  refine jr_iload_n (pc' := 7) (i := 3) dJ7_fill_53178_6 rfl rfl rfl ?_
  by_cases c1 : a3 ≤ a2
  · refine jr_icmp_geT (pc' := 20) dJ7_fill_53178_7 rfl c1 ?_
    exact jr_vret dJ7_fill_53178_20 rfl (k0 c1)
  · refine jr_icmp_geF (pc' := 10) (tgt := 20) dJ7_fill_53178_7 rfl rfl c1 ?_
    refine jr_aload_n (pc' := 11) (i := 0) dJ7_fill_53178_10 rfl rfl rfl ?_
    refine jr_iload_n (pc' := 12) (i := 2) dJ7_fill_53178_11 rfl rfl rfl ?_
    refine jr_iload_n (pc' := 13) (i := 1) dJ7_fill_53178_12 rfl rfl rfl ?_
    refine jr_iast (pc' := 14) (j := a2.toNatClampNeg) dJ7_fill_53178_13 rfl (by decide) rfl (b0 c1) rfl ?_
    refine jr_iinc (pc' := 17) (i := 2) (v := (a2 + 1)) (lv' := [some (.ref 12), some (.int a1), some (.int (a2 + 1)), some (.int a3)]) dJ7_fill_53178_14 rfl rfl (congrArg (a2 + ·) (by decide)) (by decide) rfl ?_
    refine jr_goto (pc' := 5) dJ7_fill_53178_17 rfl ?_
    exact jG.weak (lv' := [some (.ref 12), some (.int a1), some (.int (a2 + 1)), some (.int a3)]) ⟨rfl, rfl, rfl, rfl, trivial⟩ (k1 c1)

theorem q_fill21_0 {E : jEnv} {n : Nat} {X : State → Prop} {Post : Option Value → HP → Prop} (x : Int32) (h : HP)
    (k0 : jG E mJ7_fill_53178 n X Post 5 [some (.ref 21), some (.int x), some (.int 0), some (.int 4)] [] h)
    : jG E mJ7_fill_53178 n X Post 0 [some (.ref 21), some (.int x), none, none] [] h := by
  refine jr_iconst (pc' := 1) (v := 0) dJ7_fill_53178_0 rfl (by decide) ?_
  refine jr_istore_n (pc' := 2) (i := 2) (lv' := [some (.ref 21), some (.int x), some (.int 0), none]) dJ7_fill_53178_1 rfl rfl (by decide) rfl ?_
  refine jr_aload_n (pc' := 3) (i := 0) dJ7_fill_53178_2 rfl rfl rfl ?_
  refine jr_alen (pc' := 4) (v := 4) dJ7_fill_53178_3 rfl (by decide) (by decide) (by decide) ?_
  refine jr_istore_n (pc' := 5) (i := 3) (lv' := [some (.ref 21), some (.int x), some (.int 0), some (.int 4)]) dJ7_fill_53178_4 rfl rfl (by decide) rfl ?_
  exact jG.weak (lv' := [some (.ref 21), some (.int x), some (.int 0), some (.int 4)]) ⟨rfl, rfl, rfl, rfl, trivial⟩ (k0)

theorem q_fill21_5 {E : jEnv} {n : Nat} {X : State → Prop} {Post : Option Value → HP → Prop} (a1 : Int32) (a2 : Int32) (a3 : Int32) (h : HP)
    (k0 : (a3 ≤ a2) → Post none h)
    (b0 : (¬ a3 ≤ a2) → vp_in a2 4)
    (k1 : (¬ a3 ≤ a2) → jG E mJ7_fill_53178 n X Post 5 [some (.ref 21), some (.int a1), some (.int (a2 + 1)), some (.int a3)] [] (jPI h 21 a2.toNatClampNeg a1))
    : jG E mJ7_fill_53178 n X Post 5 [some (.ref 21), some (.int a1), some (.int a2), some (.int a3)] [] h := by
  refine jr_iload_n (pc' := 6) (i := 2) dJ7_fill_53178_5 rfl rfl rfl ?_
  refine jr_iload_n (pc' := 7) (i := 3) dJ7_fill_53178_6 rfl rfl rfl ?_
  by_cases c1 : a3 ≤ a2
  · refine jr_icmp_geT (pc' := 20) dJ7_fill_53178_7 rfl c1 ?_
    exact jr_vret dJ7_fill_53178_20 rfl (k0 c1)
  · refine jr_icmp_geF (pc' := 10) (tgt := 20) dJ7_fill_53178_7 rfl rfl c1 ?_
    refine jr_aload_n (pc' := 11) (i := 0) dJ7_fill_53178_10 rfl rfl rfl ?_
    refine jr_iload_n (pc' := 12) (i := 2) dJ7_fill_53178_11 rfl rfl rfl ?_
    refine jr_iload_n (pc' := 13) (i := 1) dJ7_fill_53178_12 rfl rfl rfl ?_
    refine jr_iast (pc' := 14) (j := a2.toNatClampNeg) dJ7_fill_53178_13 rfl (by decide) rfl (b0 c1) rfl ?_
    refine jr_iinc (pc' := 17) (i := 2) (v := (a2 + 1)) (lv' := [some (.ref 21), some (.int a1), some (.int (a2 + 1)), some (.int a3)]) dJ7_fill_53178_14 rfl rfl (congrArg (a2 + ·) (by decide)) (by decide) rfl ?_
    refine jr_goto (pc' := 5) dJ7_fill_53178_17 rfl ?_
    exact jG.weak (lv' := [some (.ref 21), some (.int a1), some (.int (a2 + 1)), some (.int a3)]) ⟨rfl, rfl, rfl, rfl, trivial⟩ (k1 c1)

theorem q_fill22_0 {E : jEnv} {n : Nat} {X : State → Prop} {Post : Option Value → HP → Prop} (x : Int32) (h : HP)
    (k0 : jG E mJ7_fill_53178 n X Post 5 [some (.ref 22), some (.int x), some (.int 0), some (.int 4)] [] h)
    : jG E mJ7_fill_53178 n X Post 0 [some (.ref 22), some (.int x), none, none] [] h := by
  refine jr_iconst (pc' := 1) (v := 0) dJ7_fill_53178_0 rfl (by decide) ?_
  refine jr_istore_n (pc' := 2) (i := 2) (lv' := [some (.ref 22), some (.int x), some (.int 0), none]) dJ7_fill_53178_1 rfl rfl (by decide) rfl ?_
  refine jr_aload_n (pc' := 3) (i := 0) dJ7_fill_53178_2 rfl rfl rfl ?_
  refine jr_alen (pc' := 4) (v := 4) dJ7_fill_53178_3 rfl (by decide) (by decide) (by decide) ?_
  refine jr_istore_n (pc' := 5) (i := 3) (lv' := [some (.ref 22), some (.int x), some (.int 0), some (.int 4)]) dJ7_fill_53178_4 rfl rfl (by decide) rfl ?_
  exact jG.weak (lv' := [some (.ref 22), some (.int x), some (.int 0), some (.int 4)]) ⟨rfl, rfl, rfl, rfl, trivial⟩ (k0)

theorem q_fill22_5 {E : jEnv} {n : Nat} {X : State → Prop} {Post : Option Value → HP → Prop} (a1 : Int32) (a2 : Int32) (a3 : Int32) (h : HP)
    (k0 : (a3 ≤ a2) → Post none h)
    (b0 : (¬ a3 ≤ a2) → vp_in a2 4)
    (k1 : (¬ a3 ≤ a2) → jG E mJ7_fill_53178 n X Post 5 [some (.ref 22), some (.int a1), some (.int (a2 + 1)), some (.int a3)] [] (jPI h 22 a2.toNatClampNeg a1))
    : jG E mJ7_fill_53178 n X Post 5 [some (.ref 22), some (.int a1), some (.int a2), some (.int a3)] [] h := by
  refine jr_iload_n (pc' := 6) (i := 2) dJ7_fill_53178_5 rfl rfl rfl ?_
  refine jr_iload_n (pc' := 7) (i := 3) dJ7_fill_53178_6 rfl rfl rfl ?_
  by_cases c1 : a3 ≤ a2
  · refine jr_icmp_geT (pc' := 20) dJ7_fill_53178_7 rfl c1 ?_
    exact jr_vret dJ7_fill_53178_20 rfl (k0 c1)
  · refine jr_icmp_geF (pc' := 10) (tgt := 20) dJ7_fill_53178_7 rfl rfl c1 ?_
    refine jr_aload_n (pc' := 11) (i := 0) dJ7_fill_53178_10 rfl rfl rfl ?_
    refine jr_iload_n (pc' := 12) (i := 2) dJ7_fill_53178_11 rfl rfl rfl ?_
    refine jr_iload_n (pc' := 13) (i := 1) dJ7_fill_53178_12 rfl rfl rfl ?_
    refine jr_iast (pc' := 14) (j := a2.toNatClampNeg) dJ7_fill_53178_13 rfl (by decide) rfl (b0 c1) rfl ?_
    refine jr_iinc (pc' := 17) (i := 2) (v := (a2 + 1)) (lv' := [some (.ref 22), some (.int a1), some (.int (a2 + 1)), some (.int a3)]) dJ7_fill_53178_14 rfl rfl (congrArg (a2 + ·) (by decide)) (by decide) rfl ?_
    refine jr_goto (pc' := 5) dJ7_fill_53178_17 rfl ?_
    exact jG.weak (lv' := [some (.ref 22), some (.int a1), some (.int (a2 + 1)), some (.int a3)]) ⟨rfl, rfl, rfl, rfl, trivial⟩ (k1 c1)

theorem q_fill23_0 {E : jEnv} {n : Nat} {X : State → Prop} {Post : Option Value → HP → Prop} (x : Int32) (h : HP)
    (k0 : jG E mJ7_fill_53178 n X Post 5 [some (.ref 23), some (.int x), some (.int 0), some (.int 4)] [] h)
    : jG E mJ7_fill_53178 n X Post 0 [some (.ref 23), some (.int x), none, none] [] h := by
  refine jr_iconst (pc' := 1) (v := 0) dJ7_fill_53178_0 rfl (by decide) ?_
  refine jr_istore_n (pc' := 2) (i := 2) (lv' := [some (.ref 23), some (.int x), some (.int 0), none]) dJ7_fill_53178_1 rfl rfl (by decide) rfl ?_
  refine jr_aload_n (pc' := 3) (i := 0) dJ7_fill_53178_2 rfl rfl rfl ?_
  refine jr_alen (pc' := 4) (v := 4) dJ7_fill_53178_3 rfl (by decide) (by decide) (by decide) ?_
  refine jr_istore_n (pc' := 5) (i := 3) (lv' := [some (.ref 23), some (.int x), some (.int 0), some (.int 4)]) dJ7_fill_53178_4 rfl rfl (by decide) rfl ?_
  exact jG.weak (lv' := [some (.ref 23), some (.int x), some (.int 0), some (.int 4)]) ⟨rfl, rfl, rfl, rfl, trivial⟩ (k0)

theorem q_fill23_5 {E : jEnv} {n : Nat} {X : State → Prop} {Post : Option Value → HP → Prop} (a1 : Int32) (a2 : Int32) (a3 : Int32) (h : HP)
    (k0 : (a3 ≤ a2) → Post none h)
    (b0 : (¬ a3 ≤ a2) → vp_in a2 4)
    (k1 : (¬ a3 ≤ a2) → jG E mJ7_fill_53178 n X Post 5 [some (.ref 23), some (.int a1), some (.int (a2 + 1)), some (.int a3)] [] (jPI h 23 a2.toNatClampNeg a1))
    : jG E mJ7_fill_53178 n X Post 5 [some (.ref 23), some (.int a1), some (.int a2), some (.int a3)] [] h := by
  refine jr_iload_n (pc' := 6) (i := 2) dJ7_fill_53178_5 rfl rfl rfl ?_
  refine jr_iload_n (pc' := 7) (i := 3) dJ7_fill_53178_6 rfl rfl rfl ?_
  by_cases c1 : a3 ≤ a2
  · refine jr_icmp_geT (pc' := 20) dJ7_fill_53178_7 rfl c1 ?_
    exact jr_vret dJ7_fill_53178_20 rfl (k0 c1)
  · refine jr_icmp_geF (pc' := 10) (tgt := 20) dJ7_fill_53178_7 rfl rfl c1 ?_
    refine jr_aload_n (pc' := 11) (i := 0) dJ7_fill_53178_10 rfl rfl rfl ?_
    refine jr_iload_n (pc' := 12) (i := 2) dJ7_fill_53178_11 rfl rfl rfl ?_
    refine jr_iload_n (pc' := 13) (i := 1) dJ7_fill_53178_12 rfl rfl rfl ?_
    refine jr_iast (pc' := 14) (j := a2.toNatClampNeg) dJ7_fill_53178_13 rfl (by decide) rfl (b0 c1) rfl ?_
    refine jr_iinc (pc' := 17) (i := 2) (v := (a2 + 1)) (lv' := [some (.ref 23), some (.int a1), some (.int (a2 + 1)), some (.int a3)]) dJ7_fill_53178_14 rfl rfl (congrArg (a2 + ·) (by decide)) (by decide) rfl ?_
    refine jr_goto (pc' := 5) dJ7_fill_53178_17 rfl ?_
    exact jG.weak (lv' := [some (.ref 23), some (.int a1), some (.int (a2 + 1)), some (.int a3)]) ⟨rfl, rfl, rfl, rfl, trivial⟩ (k1 c1)

theorem q_fill37_0 {E : jEnv} {n : Nat} {X : State → Prop} {Post : Option Value → HP → Prop} (x : Int32) (h : HP)
    (k0 : jG E mJ7_fill_53178 n X Post 5 [some (.ref 37), some (.int x), some (.int 0), some (.int 4)] [] h)
    : jG E mJ7_fill_53178 n X Post 0 [some (.ref 37), some (.int x), none, none] [] h := by
  refine jr_iconst (pc' := 1) (v := 0) dJ7_fill_53178_0 rfl (by decide) ?_
  refine jr_istore_n (pc' := 2) (i := 2) (lv' := [some (.ref 37), some (.int x), some (.int 0), none]) dJ7_fill_53178_1 rfl rfl (by decide) rfl ?_
  refine jr_aload_n (pc' := 3) (i := 0) dJ7_fill_53178_2 rfl rfl rfl ?_
  refine jr_alen (pc' := 4) (v := 4) dJ7_fill_53178_3 rfl (by decide) (by decide) (by decide) ?_
  refine jr_istore_n (pc' := 5) (i := 3) (lv' := [some (.ref 37), some (.int x), some (.int 0), some (.int 4)]) dJ7_fill_53178_4 rfl rfl (by decide) rfl ?_
  exact jG.weak (lv' := [some (.ref 37), some (.int x), some (.int 0), some (.int 4)]) ⟨rfl, rfl, rfl, rfl, trivial⟩ (k0)

theorem q_fill37_5 {E : jEnv} {n : Nat} {X : State → Prop} {Post : Option Value → HP → Prop} (a1 : Int32) (a2 : Int32) (a3 : Int32) (h : HP)
    (k0 : (a3 ≤ a2) → Post none h)
    (b0 : (¬ a3 ≤ a2) → vp_in a2 4)
    (k1 : (¬ a3 ≤ a2) → jG E mJ7_fill_53178 n X Post 5 [some (.ref 37), some (.int a1), some (.int (a2 + 1)), some (.int a3)] [] (jPI h 37 a2.toNatClampNeg a1))
    : jG E mJ7_fill_53178 n X Post 5 [some (.ref 37), some (.int a1), some (.int a2), some (.int a3)] [] h := by
  refine jr_iload_n (pc' := 6) (i := 2) dJ7_fill_53178_5 rfl rfl rfl ?_
  refine jr_iload_n (pc' := 7) (i := 3) dJ7_fill_53178_6 rfl rfl rfl ?_
  by_cases c1 : a3 ≤ a2
  · refine jr_icmp_geT (pc' := 20) dJ7_fill_53178_7 rfl c1 ?_
    exact jr_vret dJ7_fill_53178_20 rfl (k0 c1)
  · refine jr_icmp_geF (pc' := 10) (tgt := 20) dJ7_fill_53178_7 rfl rfl c1 ?_
    refine jr_aload_n (pc' := 11) (i := 0) dJ7_fill_53178_10 rfl rfl rfl ?_
    refine jr_iload_n (pc' := 12) (i := 2) dJ7_fill_53178_11 rfl rfl rfl ?_
    refine jr_iload_n (pc' := 13) (i := 1) dJ7_fill_53178_12 rfl rfl rfl ?_
    refine jr_iast (pc' := 14) (j := a2.toNatClampNeg) dJ7_fill_53178_13 rfl (by decide) rfl (b0 c1) rfl ?_
    refine jr_iinc (pc' := 17) (i := 2) (v := (a2 + 1)) (lv' := [some (.ref 37), some (.int a1), some (.int (a2 + 1)), some (.int a3)]) dJ7_fill_53178_14 rfl rfl (congrArg (a2 + ·) (by decide)) (by decide) rfl ?_
    refine jr_goto (pc' := 5) dJ7_fill_53178_17 rfl ?_
    exact jG.weak (lv' := [some (.ref 37), some (.int a1), some (.int (a2 + 1)), some (.int a3)]) ⟨rfl, rfl, rfl, rfl, trivial⟩ (k1 c1)

theorem q_fill25_0 {E : jEnv} {n : Nat} {X : State → Prop} {Post : Option Value → HP → Prop} (x : Int32) (h : HP)
    (k0 : jG E mJ7_fill_53178 n X Post 5 [some (.ref 25), some (.int x), some (.int 0), some (.int 4)] [] h)
    : jG E mJ7_fill_53178 n X Post 0 [some (.ref 25), some (.int x), none, none] [] h := by
  refine jr_iconst (pc' := 1) (v := 0) dJ7_fill_53178_0 rfl (by decide) ?_
  refine jr_istore_n (pc' := 2) (i := 2) (lv' := [some (.ref 25), some (.int x), some (.int 0), none]) dJ7_fill_53178_1 rfl rfl (by decide) rfl ?_
  refine jr_aload_n (pc' := 3) (i := 0) dJ7_fill_53178_2 rfl rfl rfl ?_
  refine jr_alen (pc' := 4) (v := 4) dJ7_fill_53178_3 rfl (by decide) (by decide) (by decide) ?_
  refine jr_istore_n (pc' := 5) (i := 3) (lv' := [some (.ref 25), some (.int x), some (.int 0), some (.int 4)]) dJ7_fill_53178_4 rfl rfl (by decide) rfl ?_
  exact jG.weak (lv' := [some (.ref 25), some (.int x), some (.int 0), some (.int 4)]) ⟨rfl, rfl, rfl, rfl, trivial⟩ (k0)

theorem q_fill25_5 {E : jEnv} {n : Nat} {X : State → Prop} {Post : Option Value → HP → Prop} (a1 : Int32) (a2 : Int32) (a3 : Int32) (h : HP)
    (k0 : (a3 ≤ a2) → Post none h)
    (b0 : (¬ a3 ≤ a2) → vp_in a2 4)
    (k1 : (¬ a3 ≤ a2) → jG E mJ7_fill_53178 n X Post 5 [some (.ref 25), some (.int a1), some (.int (a2 + 1)), some (.int a3)] [] (jPI h 25 a2.toNatClampNeg a1))
    : jG E mJ7_fill_53178 n X Post 5 [some (.ref 25), some (.int a1), some (.int a2), some (.int a3)] [] h := by
  refine jr_iload_n (pc' := 6) (i := 2) dJ7_fill_53178_5 rfl rfl rfl ?_
  refine jr_iload_n (pc' := 7) (i := 3) dJ7_fill_53178_6 rfl rfl rfl ?_
  by_cases c1 : a3 ≤ a2
  · refine jr_icmp_geT (pc' := 20) dJ7_fill_53178_7 rfl c1 ?_
    exact jr_vret dJ7_fill_53178_20 rfl (k0 c1)
  · refine jr_icmp_geF (pc' := 10) (tgt := 20) dJ7_fill_53178_7 rfl rfl c1 ?_
    refine jr_aload_n (pc' := 11) (i := 0) dJ7_fill_53178_10 rfl rfl rfl ?_
    refine jr_iload_n (pc' := 12) (i := 2) dJ7_fill_53178_11 rfl rfl rfl ?_
    refine jr_iload_n (pc' := 13) (i := 1) dJ7_fill_53178_12 rfl rfl rfl ?_
    refine jr_iast (pc' := 14) (j := a2.toNatClampNeg) dJ7_fill_53178_13 rfl (by decide) rfl (b0 c1) rfl ?_
    refine jr_iinc (pc' := 17) (i := 2) (v := (a2 + 1)) (lv' := [some (.ref 25), some (.int a1), some (.int (a2 + 1)), some (.int a3)]) dJ7_fill_53178_14 rfl rfl (congrArg (a2 + ·) (by decide)) (by decide) rfl ?_
    refine jr_goto (pc' := 5) dJ7_fill_53178_17 rfl ?_
    exact jG.weak (lv' := [some (.ref 25), some (.int a1), some (.int (a2 + 1)), some (.int a3)]) ⟨rfl, rfl, rfl, rfl, trivial⟩ (k1 c1)

