theorem q_fill12_0 {E : jEnv} {n : Nat} {X : State → Prop} {Post : Option Value → HP → Prop} (x : Int32) (h : HP)
    (k0 : jG E mJ7_fill_53178 n X Post 5 [some (.ref 12), some (.int x), some (.int 0), some (.int 36)] [] h)
    : jG E mJ7_fill_53178 n X Post 0 [some (.ref 12), some (.int x), none, none] [] h := by
  refine jr_iconst (pc' := 1) (v := 0) dJ7_fill_53178_0 rfl (by decide) ?_
  refine jr_istore_n (pc' := 2) (i := 2) (lv' := [some (.ref 12), some (.int x), some (.int 0), none]) dJ7_fill_53178_1 rfl rfl (by decide) rfl ?_
  refine jr_aload_n (pc' := 3) (i := 0) dJ7_fill_53178_2 rfl rfl rfl ?_
  refine jr_alen (pc' := 4) (v := 36) dJ7_fill_53178_3 rfl (by decide) (by decide) (by decide) ?_
  refine jr_istore_n (pc' := 5) (i := 3) (lv' := [some (.ref 12), some (.int x), some (.int 0), some (.int 36)]) dJ7_fill_53178_4 rfl rfl (by decide) rfl ?_
  exact jG.weak (lv' := [some (.ref 12), some (.int x), some (.int 0), some (.int 36)]) ⟨rfl, rfl, rfl, rfl, trivial⟩ (k0)

theorem q_fill12_5 {E : jEnv} {n : Nat} {X : State → Prop} {Post : Option Value → HP → Prop} (a1 : Int32) (a2 : Int32) (a3 : Int32) (h : HP)
    (k0 : (a3 ≤ a2) → Post none h)
    (b0 : (¬ a3 ≤ a2) → vp_in a2 36)
    (k1 : (¬ a3 ≤ a2) → jG E mJ7_fill_53178 n X Post 5 [some (.ref 12), some (.int a1), some (.int (a2 + 1)), some (.int a3)] [] (jPI h 12 a2.toNatClampNeg a1))
    : jG E mJ7_fill_53178 n X Post 5 [some (.ref 12), some (.int a1), some (.int a2), some (.int a3)] [] h := by
  refine jr_iload_n (pc' := 6) (i := 2) dJ7_fill_53178_5 rfl rfl rfl ?_
  refine jr_iload_n (pc' := 7) (i := 3) dJ7_fill_53178_6 rfl rfl rfl ?_
  by_cases c1 : a3 ≤ a2
  · refine jr_icmp_geT (pc' := 20) dJ7_fill_53178_7 rfl c1 ?_
    exact jr_vret dJ7_fill_53178_20 rfl (k0 c1)
  · refine jr_icmp_geF (pc' := 10) (tgt := 20) dJ7_fill_53178_7 rfl rfl c1 ?_
    refine jr_aload_n (pc' := 11) (i := 0) dJ7_fill_53178_10 rfl rfl rfl ?_
    refine jr_iload_n (pc' := 12) (i := 2) dJ7_fill_53178_11 rfl rfl rfl ?_
    refine jr_iload_n (pc' := 13) (i := 1) dJ7_fill_53178_12 rfl rfl rfl ?_
    refine jr_iast (pc' := 14) (j := a2.toNatClampNeg) dJ7_fill_53178_13 rfl (by decide) rfl (b0 c1) rfl ?_
    refine jr_iinc (pc' := 17) (i := 2) (v := (a2 + 1)) (lv' := [some (.ref 12), some (.int a1), some (.int (a2 + 1)), some (.int a3)]) dJ7_fill_53178_14 rfl rfl (congrArg (a2 + ·) (by decide)) (by decide) rfl ?_
    refine jr_goto (pc' := 5) dJ7_fill_53178_17 rfl ?_
    exact jG.weak (lv' := [some (.ref 12), some (.int a1), some (.int (a2 + 1)), some (.int a3)]) ⟨rfl, rfl, rfl, rfl, trivial⟩ (k1 c1)

theorem q_fill21_0 {E : jEnv} {n : Nat} {X : State → Prop} {Post : Option Value → HP → Prop} (x : Int32) (h : HP)
    (k0 : jG E mJ7_fill_53178 n X Post 5 [some (.ref 21), some (.int x), some (.int 0), some (.int 4)] [] h)
    : jG E mJ7_fill_53178 n X Post 0 [some (.ref 21), some (.int x), none, none] [] h := by
  refine jr_iconst (pc' := 1) (v := 0) dJ7_fill_53178_0 rfl (by decide) ?_
  refine jr_istore_n (pc' := 2) (i := 2) (lv' := [some (.ref 21), some (.int x), some (.int 0), none]) dJ7_fill_53178_1 rfl rfl (by decide) rfl ?_
  refine jr_aload_n (pc' := 3) (i := 0) dJ7_fill_53178_2 rfl rfl rfl ?_
  refine jr_alen (pc' := 4) (v := 4) dJ7_fill_53178_3 rfl (by decide) (by decide) (by decide) ?_
  refine jr_istore_n (pc' := 5) (i := 3) (lv' := [some (.ref 21), some (.int x), some (.int 0), some (.int 4)]) dJ7_fill_53178_4 rfl rfl (by decide) rfl ?_
  exact jG.weak (lv' := [some (.ref 21), some (.int x), some (.int 0), some (.int 4)]) ⟨rfl, rfl, rfl, rfl, trivial⟩ (k0)

theorem q_fill21_5 {E : jEnv} {n : Nat} {X : State → Prop} {Post : Option Value → HP → Prop} (a1 : Int32) (a2 : Int32) (a3 : Int32) (h : HP)
    (k0 : (a3 ≤ a2) → Post none h)
    (b0 : (¬ a3 ≤ a2) → vp_in a2 4)
    (k1 : (¬ a3 ≤ a2) → jG E mJ7_fill_53178 n X Post 5 [some (.ref 21), some (.int a1), some (.int (a2 + 1)), some (.int a3)] [] (jPI h 21 a2.toNatClampNeg a1))
    : jG E mJ7_fill_53178 n X Post 5 [some (.ref 21), some (.int a1), some (.int a2), some (.int a3)] [] h := by
  refine jr_iload_n (pc' := 6) (i := 2) dJ7_fill_53178_5 rfl rfl rfl ?_
  refine jr_iload_n (pc' := 7) (i := 3) dJ7_fill_53178_6 rfl rfl rfl ?_
  by_cases c1 : a3 ≤ a2
  · refine jr_icmp_geT (pc' := 20) dJ7_fill_53178_7 rfl c1 ?_
    exact jr_vret dJ7_fill_53178_20 rfl (k0 c1)
  · refine jr_icmp_geF (pc' := 10) (tgt := 20) dJ7_fill_53178_7 rfl rfl c1 ?_
    refine jr_aload_n (pc' := 11) (i := 0) dJ7_fill_53178_10 rfl rfl rfl ?_
    refine jr_iload_n (pc' := 12) (i := 2) dJ7_fill_53178_11 rfl rfl rfl ?_
    refine jr_iload_n (pc' := 13) (i := 1) dJ7_fill_53178_12 rfl rfl rfl ?_
    refine jr_iast (pc' := 14) (j := a2.toNatClampNeg) dJ7_fill_53178_13 rfl (by decide) rfl (b0 c1) rfl ?_
    refine jr_iinc (pc' := 17) (i := 2) (v := (a2 + 1)) (lv' := [some (.ref 21), some (.int a1), some (.int (a2 + 1)), some (.int a3)]) dJ7_fill_53178_14 rfl rfl (congrArg (a2 + ·) (by decide)) (by decide) rfl ?_
    refine jr_goto (pc' := 5) dJ7_fill_53178_17 rfl ?_
    exact jG.weak (lv' := [some (.ref 21), some (.int a1), some (.int (a2 + 1)), some (.int a3)]) ⟨rfl, rfl, rfl, rfl, trivial⟩ (k1 c1)

theorem q_fill22_0 {E : jEnv} {n : Nat} {X : State → Prop} {Post : Option Value → HP → Prop} (x : Int32) (h : HP)
    (k0 : jG E mJ7_fill_53178 n X Post 5 [some (.ref 22), some (.int x), some (.int 0), some (.int 4)] [] h)
    : jG E mJ7_fill_53178 n X Post 0 [some (.ref 22), some (.int x), none, none] [] h := by
  refine jr_iconst (pc' := 1) (v := 0) dJ7_fill_53178_0 rfl (by decide) ?_
  refine jr_istore_n (pc' := 2) (i := 2) (lv' := [some (.ref 22), some (.int x), some (.int 0), none]) dJ7_fill_53178_1 rfl rfl (by decide) rfl ?_
  refine jr_aload_n (pc' := 3) (i := 0) dJ7_fill_53178_2 rfl rfl rfl ?_
  refine jr_alen (pc' := 4) (v := 4) dJ7_fill_53178_3 rfl (by decide) (by decide) (by decide) ?_
  refine jr_istore_n (pc' := 5) (i := 3) (lv' := [some (.ref 22), some (.int x), some (.int 0), some (.int 4)]) dJ7_fill_53178_4 rfl rfl (by decide) rfl ?_
  exact jG.weak (lv' := [some (.ref 22), some (.int x), some (.int 0), some (.int 4)]) ⟨rfl, rfl, rfl, rfl, trivial⟩ (k0)

theorem q_fill22_5 {E : jEnv} {n : Nat} {X : State → Prop} {Post : Option Value → HP → Prop} (a1 : Int32) (a2 : Int32) (a3 : Int32) (h : HP)
    (k0 : (a3 ≤ a2) → Post none h)
    (b0 : (¬ a3 ≤ a2) → vp_in a2 4)
    (k1 : (¬ a3 ≤ a2) → jG E mJ7_fill_53178 n X Post 5 [some (.ref 22), some (.int a1), some (.int (a2 + 1)), some (.int a3)] [] (jPI h 22 a2.toNatClampNeg a1))
    : jG E mJ7_fill_53178 n X Post 5 [some (.ref 22), some (.int a1), some (.int a2), some (.int a3)] [] h := by
  refine jr_iload_n (pc' := 6) (i := 2) dJ7_fill_53178_5 rfl rfl rfl ?_
  refine jr_iload_n (pc' := 7) (i := 3) dJ7_fill_53178_6 rfl rfl rfl ?_
  by_cases c1 : a3 ≤ a2
  · refine jr_icmp_geT (pc' := 20) dJ7_fill_53178_7 rfl c1 ?_
    exact jr_vret dJ7_fill_53178_20 rfl (k0 c1)
  · refine jr_icmp_geF (pc' := 10) (tgt := 20) dJ7_fill_53178_7 rfl rfl c1 ?_
    refine jr_aload_n (pc' := 11) (i := 0) dJ7_fill_53178_10 rfl rfl rfl ?_
    refine jr_iload_n (pc' := 12) (i := 2) dJ7_fill_53178_11 rfl rfl rfl ?_
    refine jr_iload_n (pc' := 13) (i := 1) dJ7_fill_53178_12 rfl rfl rfl ?_
    refine jr_iast (pc' := 14) (j := a2.toNatClampNeg) dJ7_fill_53178_13 rfl (by decide) rfl (b0 c1) rfl ?_
    refine jr_iinc (pc' := 17) (i := 2) (v := (a2 + 1)) (lv' := [some (.ref 22), some (.int a1), some (.int (a2 + 1)), some (.int a3)]) dJ7_fill_53178_14 rfl rfl (congrArg (a2 + ·) (by decide)) (by decide) rfl ?_
    refine jr_goto (pc' := 5) dJ7_fill_53178_17 rfl ?_
    exact jG.weak (lv' := [some (.ref 22), some (.int a1), some (.int (a2 + 1)), some (.int a3)]) ⟨rfl, rfl, rfl, rfl, trivial⟩ (k1 c1)

theorem q_fill23_0 {E : jEnv} {n : Nat} {X : State → Prop} {Post : Option Value → HP → Prop} (x : Int32) (h : HP)
    (k0 : jG E mJ7_fill_53178 n X Post 5 [some (.ref 23), some (.int x), some (.int 0), some (.int 4)] [] h)
    : jG E mJ7_fill_53178 n X Post 0 [some (.ref 23), some (.int x), none, none] [] h := by
  refine jr_iconst (pc' := 1) (v := 0) dJ7_fill_53178_0 rfl (by decide) ?_
  refine jr_istore_n (pc' := 2) (i := 2) (lv' := [some (.ref 23), some (.int x), some (.int 0), none]) dJ7_fill_53178_1 rfl rfl (by decide) rfl ?_
  refine jr_aload_n (pc' := 3) (i := 0) dJ7_fill_53178_2 rfl rfl rfl ?_
  refine jr_alen (pc' := 4) (v := 4) dJ7_fill_53178_3 rfl (by decide) (by decide) (by decide) ?_
  refine jr_istore_n (pc' := 5) (i := 3) (lv' := [some (.ref 23), some (.int x), some (.int 0), some (.int 4)]) dJ7_fill_53178_4 rfl rfl (by decide) rfl ?_
  exact jG.weak (lv' := [some (.ref 23), some (.int x), some (.int 0), some (.int 4)]) ⟨rfl, rfl, rfl, rfl, trivial⟩ (k0)

theorem q_fill23_5 {E : jEnv} {n : Nat} {X : State → Prop} {Post : Option Value → HP → Prop} (a1 : Int32) (a2 : Int32) (a3 : Int32) (h : HP)
    (k0 : (a3 ≤ a2) → Post none h)
    (b0 : (¬ a3 ≤ a2) → vp_in a2 4)
    (k1 : (¬ a3 ≤ a2) → jG E mJ7_fill_53178 n X Post 5 [some (.ref 23), some (.int a1), some (.int (a2 + 1)), some (.int a3)] [] (jPI h 23 a2.toNatClampNeg a1))
    : jG E mJ7_fill_53178 n X Post 5 [some (.ref 23), some (.int a1), some (.int a2), some (.int a3)] [] h := by
  refine jr_iload_n (pc' := 6) (i := 2) dJ7_fill_53178_5 rfl rfl rfl ?_
  refine jr_iload_n (pc' := 7) (i := 3) dJ7_fill_53178_6 rfl rfl rfl ?_
  by_cases c1 : a3 ≤ a2
  · refine jr_icmp_geT (pc' := 20) dJ7_fill_53178_7 rfl c1 ?_
    exact jr_vret dJ7_fill_53178_20 rfl (k0 c1)
  · refine jr_icmp_geF (pc' := 10) (tgt := 20) dJ7_fill_53178_7 rfl rfl c1 ?_
    refine jr_aload_n (pc' := 11) (i := 0) dJ7_fill_53178_10 rfl rfl rfl ?_
    refine jr_iload_n (pc' := 12) (i := 2) dJ7_fill_53178_11 rfl rfl rfl ?_
    refine jr_iload_n (pc' := 13) (i := 1) dJ7_fill_53178_12 rfl rfl rfl ?_
    refine jr_iast (pc' := 14) (j := a2.toNatClampNeg) dJ7_fill_53178_13 rfl (by decide) rfl (b0 c1) rfl ?_
    refine jr_iinc (pc' := 17) (i := 2) (v := (a2 + 1)) (lv' := [some (.ref 23), some (.int a1), some (.int (a2 + 1)), some (.int a3)]) dJ7_fill_53178_14 rfl rfl (congrArg (a2 + ·) (by decide)) (by decide) rfl ?_
    refine jr_goto (pc' := 5) dJ7_fill_53178_17 rfl ?_
    exact jG.weak (lv' := [some (.ref 23), some (.int a1), some (.int (a2 + 1)), some (.int a3)]) ⟨rfl, rfl, rfl, rfl, trivial⟩ (k1 c1)

theorem q_fill37_0 {E : jEnv} {n : Nat} {X : State → Prop} {Post : Option Value → HP → Prop} (x : Int32) (h : HP)
    (k0 : jG E mJ7_fill_53178 n X Post 5 [some (.ref 37), some (.int x), some (.int 0), some (.int 4)] [] h)
    : jG E mJ7_fill_53178 n X Post 0 [some (.ref 37), some (.int x), none, none] [] h := by
  refine jr_iconst (pc' := 1) (v := 0) dJ7_fill_53178_0 rfl (by decide) ?_
  refine jr_istore_n (pc' := 2) (i := 2) (lv' := [some (.ref 37), some (.int x), some (.int 0), none]) dJ7_fill_53178_1 rfl rfl (by decide) rfl ?_
  refine jr_aload_n (pc' := 3) (i := 0) dJ7_fill_53178_2 rfl rfl rfl ?_
  refine jr_alen (pc' := 4) (v := 4) dJ7_fill_53178_3 rfl (by decide) (by decide) (by decide) ?_
  refine jr_istore_n (pc' := 5) (i := 3) (lv' := [some (.ref 37), some (.int x), some (.int 0), some (.int 4)]) dJ7_fill_53178_4 rfl rfl (by decide) rfl ?_
  exact jG.weak (lv' := [some (.ref 37), some (.int x), some (.int 0), some (.int 4)]) ⟨rfl, rfl, rfl, rfl, trivial⟩ (k0)

theorem q_fill37_5 {E : jEnv} {n : Nat} {X : State → Prop} {Post : Option Value → HP → Prop} (a1 : Int32) (a2 : Int32) (a3 : Int32) (h : HP)
    (k0 : (a3 ≤ a2) → Post none h)
    (b0 : (¬ a3 ≤ a2) → vp_in a2 4)
    (k1 : (¬ a3 ≤ a2) → jG E mJ7_fill_53178 n X Post 5 [some (.ref 37), some (.int a1), some (.int (a2 + 1)), some (.int a3)] [] (jPI h 37 a2.toNatClampNeg a1))
    : jG E mJ7_fill_53178 n X Post 5 [some (.ref 37), some (.int a1), some (.int a2), some (.int a3)] [] h := by
  refine jr_iload_n (pc' := 6) (i := 2) dJ7_fill_53178_5 rfl rfl rfl ?_
  refine jr_iload_n (pc' := 7) (i := 3) dJ7_fill_53178_6 rfl rfl rfl ?_
  by_cases c1 : a3 ≤ a2
  · refine jr_icmp_geT (pc' := 20) dJ7_fill_53178_7 rfl c1 ?_
    exact jr_vret dJ7_fill_53178_20 rfl (k0 c1)
  · refine jr_icmp_geF (pc' := 10) (tgt := 20) dJ7_fill_53178_7 rfl rfl c1 ?_
    refine jr_aload_n (pc' := 11) (i := 0) dJ7_fill_53178_10 rfl rfl rfl ?_
    refine jr_iload_n (pc' := 12) (i := 2) dJ7_fill_53178_11 rfl rfl rfl ?_
    refine jr_iload_n (pc' := 13) (i := 1) dJ7_fill_53178_12 rfl rfl rfl ?_
    refine jr_iast (pc' := 14) (j := a2.toNatClampNeg) dJ7_fill_53178_13 rfl (by decide) rfl (b0 c1) rfl ?_
    refine jr_iinc (pc' := 17) (i := 2) (v := (a2 + 1)) (lv' := [some (.ref 37), some (.int a1), some (.int (a2 + 1)), some (.int a3)]) dJ7_fill_53178_14 rfl rfl (congrArg (a2 + ·) (by decide)) (by decide) rfl ?_
    refine jr_goto (pc' := 5) dJ7_fill_53178_17 rfl ?_
    exact jG.weak (lv' := [some (.ref 37), some (.int a1), some (.int (a2 + 1)), some (.int a3)]) ⟨rfl, rfl, rfl, rfl, trivial⟩ (k1 c1)

theorem q_fill25_0 {E : jEnv} {n : Nat} {X : State → Prop} {Post : Option Value → HP → Prop} (x : Int32) (h : HP)
    (k0 : jG E mJ7_fill_53178 n X Post 5 [some (.ref 25), some (.int x), some (.int 0), some (.int 4)] [] h)
    : jG E mJ7_fill_53178 n X Post 0 [some (.ref 25), some (.int x), none, none] [] h := by
  refine jr_iconst (pc' := 1) (v := 0) dJ7_fill_53178_0 rfl (by decide) ?_
  refine jr_istore_n (pc' := 2) (i := 2) (lv' := [some (.ref 25), some (.int x), some (.int 0), none]) dJ7_fill_53178_1 rfl rfl (by decide) rfl ?_
  refine jr_aload_n (pc' := 3) (i := 0) dJ7_fill_53178_2 rfl rfl rfl ?_
  refine jr_alen (pc' := 4) (v := 4) dJ7_fill_53178_3 rfl (by decide) (by decide) (by decide) ?_
  refine jr_istore_n (pc' := 5) (i := 3) (lv' := [some (.ref 25), some (.int x), some (.int 0), some (.int 4)]) dJ7_fill_53178_4 rfl rfl (by decide) rfl ?_
  exact jG.weak (lv' := [some (.ref 25), some (.int x), some (.int 0), some (.int 4)]) ⟨rfl, rfl, rfl, rfl, trivial⟩ (k0)

theorem q_fill25_5 {E : jEnv} {n : Nat} {X : State → Prop} {Post : Option Value → HP → Prop} (a1 : Int32) (a2 : Int32) (a3 : Int32) (h : HP)
    (k0 : (a3 ≤ a2) → Post none h)
    (b0 : (¬ a3 ≤ a2) → vp_in a2 4)
    (k1 : (¬ a3 ≤ a2) → jG E mJ7_fill_53178 n X Post 5 [some (.ref 25), some (.int a1), some (.int (a2 + 1)), some (.int a3)] [] (jPI h 25 a2.toNatClampNeg a1))
    : jG E mJ7_fill_53178 n X Post 5 [some (.ref 25), some (.int a1), some (.int a2), some (.int a3)] [] h := by
  refine jr_iload_n (pc' := 6) (i := 2) dJ7_fill_53178_5 rfl rfl rfl ?_
  refine jr_iload_n (pc' := 7) (i := 3) dJ7_fill_53178_6 rfl rfl rfl ?_
  by_cases c1 : a3 ≤ a2
  · refine jr_icmp_geT (pc' := 20) dJ7_fill_53178_7 rfl c1 ?_
    exact jr_vret dJ7_fill_53178_20 rfl (k0 c1)
  · refine jr_icmp_geF (pc' := 10) (tgt := 20) dJ7_fill_53178_7 rfl rfl c1 ?_
    refine jr_aload_n (pc' := 11) (i := 0) dJ7_fill_53178_10 rfl rfl rfl ?_
    refine jr_iload_n (pc' := 12) (i := 2) dJ7_fill_53178_11 rfl rfl rfl ?_
    refine jr_iload_n (pc' := 13) (i := 1) dJ7_fill_53178_12 rfl rfl rfl ?_
    refine jr_iast (pc' := 14) (j := a2.toNatClampNeg) dJ7_fill_53178_13 rfl (by decide) rfl (b0 c1) rfl ?_
    refine jr_iinc (pc' := 17) (i := 2) (v := (a2 + 1)) (lv' := [some (.ref 25), some (.int a1), some (.int (a2 + 1)), some (.int a3)]) dJ7_fill_53178_14 rfl rfl (congrArg (a2 + ·) (by decide)) (by decide) rfl ?_
    refine jr_goto (pc' := 5) dJ7_fill_53178_17 rfl ?_
    exact jG.weak (lv' := [some (.ref 25), some (.int a1), some (.int (a2 + 1)), some (.int a3)]) ⟨rfl, rfl, rfl, rfl, trivial⟩ (k1 c1)

theorem q_max_0 {E : jEnv} {n : Nat} {X : State → Prop} {Post : Option Value → HP → Prop} (x : Int32) (y : Int32) (h : HP)
    (k0 : (x < y) → Post (some (.int y)) h)
    (k1 : (¬ x < y) → Post (some (.int x)) h)
    : jG E mJ9_max_7cf53 n X Post 0 [some (.int x), some (.int y)] [] h := by
  refine jr_iload_n (pc' := 1) (i := 0) dJ9_max_7cf53_0 rfl rfl rfl ?_
  refine jr_iload_n (pc' := 2) (i := 1) dJ9_max_7cf53_1 rfl rfl rfl ?_
  by_cases c1 : x < y
  · refine jr_icmp_ltT (pc' := 9) dJ9_max_7cf53_2 rfl c1 ?_
    refine jr_iload_n (pc' := 10) (i := 1) dJ9_max_7cf53_9 rfl rfl rfl ?_
    exact jr_iret dJ9_max_7cf53_10 rfl rfl (k0 c1)
  · refine jr_icmp_ltF (pc' := 5) (tgt := 9) dJ9_max_7cf53_2 rfl rfl c1 ?_
    refine jr_iload_n (pc' := 6) (i := 0) dJ9_max_7cf53_5 rfl rfl rfl ?_
    refine jr_goto (pc' := 10) dJ9_max_7cf53_6 rfl ?_
    exact jr_iret dJ9_max_7cf53_10 rfl rfl (k1 c1)

theorem q_min_0 {E : jEnv} {n : Nat} {X : State → Prop} {Post : Option Value → HP → Prop} (x : Int32) (y : Int32) (h : HP)
    (k0 : (y < x) → Post (some (.int y)) h)
    (k1 : (¬ y < x) → Post (some (.int x)) h)
    : jG E mJ9_min_7cf53 n X Post 0 [some (.int x), some (.int y)] [] h := by
  refine jr_iload_n (pc' := 1) (i := 0) dJ9_min_7cf53_0 rfl rfl rfl ?_
  refine jr_iload_n (pc' := 2) (i := 1) dJ9_min_7cf53_1 rfl rfl rfl ?_
  by_cases c1 : y < x
  · refine jr_icmp_gtT (pc' := 9) dJ9_min_7cf53_2 rfl c1 ?_
    refine jr_iload_n (pc' := 10) (i := 1) dJ9_min_7cf53_9 rfl rfl rfl ?_
    exact jr_iret dJ9_min_7cf53_10 rfl rfl (k0 c1)
  · refine jr_icmp_gtF (pc' := 5) (tgt := 9) dJ9_min_7cf53_2 rfl rfl c1 ?_
    refine jr_iload_n (pc' := 6) (i := 0) dJ9_min_7cf53_5 rfl rfl rfl ?_
    refine jr_goto (pc' := 10) dJ9_min_7cf53_6 rfl ?_
    exact jr_iret dJ9_min_7cf53_10 rfl rfl (k1 c1)

theorem q_bitCount_0 {E : jEnv} {n : Nat} {X : State → Prop} {Post : Option Value → HP → Prop} (x : Int64) (h : HP)
    (k0 : Post (some (.int ((((((((((x - ((((Int64.toUInt64 x) >>> ((1 : Int32).toInt64.toUInt64 &&& Int64.toUInt64 63)).toInt64) &&& 6148914691236517205)) &&& 3689348814741910323) + ((((Int64.toUInt64 (x - ((((Int64.toUInt64 x) >>> ((1 : Int32).toInt64.toUInt64 &&& Int64.toUInt64 63)).toInt64) &&& 6148914691236517205))) >>> ((2 : Int32).toInt64.toUInt64 &&& Int64.toUInt64 63)).toInt64) &&& 3689348814741910323)) + (((Int64.toUInt64 (((x - ((((Int64.toUInt64 x) >>> ((1 : Int32).toInt64.toUInt64 &&& Int64.toUInt64 63)).toInt64) &&& 6148914691236517205)) &&& 3689348814741910323) + ((((Int64.toUInt64 (x - ((((Int64.toUInt64 x) >>> ((1 : Int32).toInt64.toUInt64 &&& Int64.toUInt64 63)).toInt64) &&& 6148914691236517205))) >>> ((2 : Int32).toInt64.toUInt64 &&& Int64.toUInt64 63)).toInt64) &&& 3689348814741910323))) >>> ((4 : Int32).toInt64.toUInt64 &&& Int64.toUInt64 63)).toInt64)) &&& 1085102592571150095) + (((Int64.toUInt64 (((((x - ((((Int64.toUInt64 x) >>> ((1 : Int32).toInt64.toUInt64 &&& Int64.toUInt64 63)).toInt64) &&& 6148914691236517205)) &&& 3689348814741910323) + ((((Int64.toUInt64 (x - ((((Int64.toUInt64 x) >>> ((1 : Int32).toInt64.toUInt64 &&& Int64.toUInt64 63)).toInt64) &&& 6148914691236517205))) >>> ((2 : Int32).toInt64.toUInt64 &&& Int64.toUInt64 63)).toInt64) &&& 3689348814741910323)) + (((Int64.toUInt64 (((x - ((((Int64.toUInt64 x) >>> ((1 : Int32).toInt64.toUInt64 &&& Int64.toUInt64 63)).toInt64) &&& 6148914691236517205)) &&& 3689348814741910323) + ((((Int64.toUInt64 (x - ((((Int64.toUInt64 x) >>> ((1 : Int32).toInt64.toUInt64 &&& Int64.toUInt64 63)).toInt64) &&& 6148914691236517205))) >>> ((2 : Int32).toInt64.toUInt64 &&& Int64.toUInt64 63)).toInt64) &&& 3689348814741910323))) >>> ((4 : Int32).toInt64.toUInt64 &&& Int64.toUInt64 63)).toInt64)) &&& 1085102592571150095)) >>> ((8 : Int32).toInt64.toUInt64 &&& Int64.toUInt64 63)).toInt64)) + (((Int64.toUInt64 ((((((x - ((((Int64.toUInt64 x) >>> ((1 : Int32).toInt64.toUInt64 &&& Int64.toUInt64 63)).toInt64) &&& 6148914691236517205)) &&& 3689348814741910323) + ((((Int64.toUInt64 (x - ((((Int64.toUInt64 x) >>> ((1 : Int32).toInt64.toUInt64 &&& Int64.toUInt64 63)).toInt64) &&& 6148914691236517205))) >>> ((2 : Int32).toInt64.toUInt64 &&& Int64.toUInt64 63)).toInt64) &&& 3689348814741910323)) + (((Int64.toUInt64 (((x - ((((Int64.toUInt64 x) >>> ((1 : Int32).toInt64.toUInt64 &&& Int64.toUInt64 63)).toInt64) &&& 6148914691236517205)) &&& 3689348814741910323) + ((((Int64.toUInt64 (x - ((((Int64.toUInt64 x) >>> ((1 : Int32).toInt64.toUInt64 &&& Int64.toUInt64 63)).toInt64) &&& 6148914691236517205))) >>> ((2 : Int32).toInt64.toUInt64 &&& Int64.toUInt64 63)).toInt64) &&& 3689348814741910323))) >>> ((4 : Int32).toInt64.toUInt64 &&& Int64.toUInt64 63)).toInt64)) &&& 1085102592571150095) + (((Int64.toUInt64 (((((x - ((((Int64.toUInt64 x) >>> ((1 : Int32).toInt64.toUInt64 &&& Int64.toUInt64 63)).toInt64) &&& 6148914691236517205)) &&& 3689348814741910323) + ((((Int64.toUInt64 (x - ((((Int64.toUInt64 x) >>> ((1 : Int32).toInt64.toUInt64 &&& Int64.toUInt64 63)).toInt64) &&& 6148914691236517205))) >>> ((2 : Int32).toInt64.toUInt64 &&& Int64.toUInt64 63)).toInt64) &&& 3689348814741910323)) + (((Int64.toUInt64 (((x - ((((Int64.toUInt64 x) >>> ((1 : Int32).toInt64.toUInt64 &&& Int64.toUInt64 63)).toInt64) &&& 6148914691236517205)) &&& 3689348814741910323) + ((((Int64.toUInt64 (x - ((((Int64.toUInt64 x) >>> ((1 : Int32).toInt64.toUInt64 &&& Int64.toUInt64 63)).toInt64) &&& 6148914691236517205))) >>> ((2 : Int32).toInt64.toUInt64 &&& Int64.toUInt64 63)).toInt64) &&& 3689348814741910323))) >>> ((4 : Int32).toInt64.toUInt64 &&& Int64.toUInt64 63)).toInt64)) &&& 1085102592571150095)) >>> ((8 : Int32).toInt64.toUInt64 &&& Int64.toUInt64 63)).toInt64))) >>> ((16 : Int32).toInt64.toUInt64 &&& Int64.toUInt64 63)).toInt64)) + (((Int64.toUInt64 (((((((x - ((((Int64.toUInt64 x) >>> ((1 : Int32).toInt64.toUInt64 &&& Int64.toUInt64 63)).toInt64) &&& 6148914691236517205)) &&& 3689348814741910323) + ((((Int64.toUInt64 (x - ((((Int64.toUInt64 x) >>> ((1 : Int32).toInt64.toUInt64 &&& Int64.toUInt64 63)).toInt64) &&& 6148914691236517205))) >>> ((2 : Int32).toInt64.toUInt64 &&& Int64.toUInt64 63)).toInt64) &&& 3689348814741910323)) + (((Int64.toUInt64 (((x - ((((Int64.toUInt64 x) >>> ((1 : Int32).toInt64.toUInt64 &&& Int64.toUInt64 63)).toInt64) &&& 6148914691236517205)) &&& 3689348814741910323) + ((((Int64.toUInt64 (x - ((((Int64.toUInt64 x) >>> ((1 : Int32).toInt64.toUInt64 &&& Int64.toUInt64 63)).toInt64) &&& 6148914691236517205))) >>> ((2 : Int32).toInt64.toUInt64 &&& Int64.toUInt64 63)).toInt64) &&& 3689348814741910323))) >>> ((4 : Int32).toInt64.toUInt64 &&& Int64.toUInt64 63)).toInt64)) &&& 1085102592571150095) + (((Int64.toUInt64 (((((x - ((((Int64.toUInt64 x) >>> ((1 : Int32).toInt64.toUInt64 &&& Int64.toUInt64 63)).toInt64) &&& 6148914691236517205)) &&& 3689348814741910323) + ((((Int64.toUInt64 (x - ((((Int64.toUInt64 x) >>> ((1 : Int32).toInt64.toUInt64 &&& Int64.toUInt64 63)).toInt64) &&& 6148914691236517205))) >>> ((2 : Int32).toInt64.toUInt64 &&& Int64.toUInt64 63)).toInt64) &&& 3689348814741910323)) + (((Int64.toUInt64 (((x - ((((Int64.toUInt64 x) >>> ((1 : Int32).toInt64.toUInt64 &&& Int64.toUInt64 63)).toInt64) &&& 6148914691236517205)) &&& 3689348814741910323) + ((((Int64.toUInt64 (x - ((((Int64.toUInt64 x) >>> ((1 : Int32).toInt64.toUInt64 &&& Int64.toUInt64 63)).toInt64) &&& 6148914691236517205))) >>> ((2 : Int32).toInt64.toUInt64 &&& Int64.toUInt64 63)).toInt64) &&& 3689348814741910323))) >>> ((4 : Int32).toInt64.toUInt64 &&& Int64.toUInt64 63)).toInt64)) &&& 1085102592571150095)) >>> ((8 : Int32).toInt64.toUInt64 &&& Int64.toUInt64 63)).toInt64)) + (((Int64.toUInt64 ((((((x - ((((Int64.toUInt64 x) >>> ((1 : Int32).toInt64.toUInt64 &&& Int64.toUInt64 63)).toInt64) &&& 6148914691236517205)) &&& 3689348814741910323) + ((((Int64.toUInt64 (x - ((((Int64.toUInt64 x) >>> ((1 : Int32).toInt64.toUInt64 &&& Int64.toUInt64 63)).toInt64) &&& 6148914691236517205))) >>> ((2 : Int32).toInt64.toUInt64 &&& Int64.toUInt64 63)).toInt64) &&& 3689348814741910323)) + (((Int64.toUInt64 (((x - ((((Int64.toUInt64 x) >>> ((1 : Int32).toInt64.toUInt64 &&& Int64.toUInt64 63)).toInt64) &&& 6148914691236517205)) &&& 3689348814741910323) + ((((Int64.toUInt64 (x - ((((Int64.toUInt64 x) >>> ((1 : Int32).toInt64.toUInt64 &&& Int64.toUInt64 63)).toInt64) &&& 6148914691236517205))) >>> ((2 : Int32).toInt64.toUInt64 &&& Int64.toUInt64 63)).toInt64) &&& 3689348814741910323))) >>> ((4 : Int32).toInt64.toUInt64 &&& Int64.toUInt64 63)).toInt64)) &&& 1085102592571150095) + (((Int64.toUInt64 (((((x - ((((Int64.toUInt64 x) >>> ((1 : Int32).toInt64.toUInt64 &&& Int64.toUInt64 63)).toInt64) &&& 6148914691236517205)) &&& 3689348814741910323) + ((((Int64.toUInt64 (x - ((((Int64.toUInt64 x) >>> ((1 : Int32).toInt64.toUInt64 &&& Int64.toUInt64 63)).toInt64) &&& 6148914691236517205))) >>> ((2 : Int32).toInt64.toUInt64 &&& Int64.toUInt64 63)).toInt64) &&& 3689348814741910323)) + (((Int64.toUInt64 (((x - ((((Int64.toUInt64 x) >>> ((1 : Int32).toInt64.toUInt64 &&& Int64.toUInt64 63)).toInt64) &&& 6148914691236517205)) &&& 3689348814741910323) + ((((Int64.toUInt64 (x - ((((Int64.toUInt64 x) >>> ((1 : Int32).toInt64.toUInt64 &&& Int64.toUInt64 63)).toInt64) &&& 6148914691236517205))) >>> ((2 : Int32).toInt64.toUInt64 &&& Int64.toUInt64 63)).toInt64) &&& 3689348814741910323))) >>> ((4 : Int32).toInt64.toUInt64 &&& Int64.toUInt64 63)).toInt64)) &&& 1085102592571150095)) >>> ((8 : Int32).toInt64.toUInt64 &&& Int64.toUInt64 63)).toInt64))) >>> ((16 : Int32).toInt64.toUInt64 &&& Int64.toUInt64 63)).toInt64))) >>> ((32 : Int32).toInt64.toUInt64 &&& Int64.toUInt64 63)).toInt64)).toInt32) &&& 127))) h)
    : jG E mJ13_bitCount_95d88 n X Post 0 [some (.long x), none] [] h := by
  refine jr_lload_n (pc' := 1) (i := 0) dJ13_bitCount_95d88_0 rfl rfl rfl ?_
  refine jr_lload_n (pc' := 2) (i := 0) dJ13_bitCount_95d88_1 rfl rfl rfl ?_
  refine jr_iconst (pc' := 3) (v := 1) dJ13_bitCount_95d88_2 rfl (by decide) ?_
  refine jr_lushr (pc' := 4)  dJ13_bitCount_95d88_3 rfl  ?_
  refine jr_ldc2 (pc' := 7) (v := 6148914691236517205) dJ13_bitCount_95d88_4 rfl wcJ13_314 ?_
  refine jr_land (pc' := 8)  dJ13_bitCount_95d88_7 rfl  ?_
  refine jr_lsub (pc' := 9)  dJ13_bitCount_95d88_8 rfl  ?_
  refine jr_lstore_n (pc' := 10) (i := 0) (lv' := [some (.long (x - ((((Int64.toUInt64 x) >>> ((1 : Int32).toInt64.toUInt64 &&& Int64.toUInt64 63)).toInt64) &&& 6148914691236517205))), none]) dJ13_bitCount_95d88_9 rfl rfl (by decide) rfl ?_
  refine jr_lload_n (pc' := 11) (i := 0) dJ13_bitCount_95d88_10 rfl rfl rfl ?_
  refine jr_ldc2 (pc' := 14) (v := 3689348814741910323) dJ13_bitCount_95d88_11 rfl wcJ13_316 ?_
  refine jr_land (pc' := 15)  dJ13_bitCount_95d88_14 rfl  ?_
  refine jr_lload_n (pc' := 16) (i := 0) dJ13_bitCount_95d88_15 rfl rfl rfl ?_
  refine jr_iconst (pc' := 17) (v := 2) dJ13_bitCount_95d88_16 rfl (by decide) ?_
  refine jr_lushr (pc' := 18)  dJ13_bitCount_95d88_17 rfl  ?_
  refine jr_ldc2 (pc' := 21) (v := 3689348814741910323) dJ13_bitCount_95d88_18 rfl wcJ13_316 ?_
  refine jr_land (pc' := 22)  dJ13_bitCount_95d88_21 rfl  ?_
  refine jr_ladd (pc' := 23)  dJ13_bitCount_95d88_22 rfl  ?_
  refine jr_lstore_n (pc' := 24) (i := 0) (lv' := [some (.long (((x - ((((Int64.toUInt64 x) >>> ((1 : Int32).toInt64.toUInt64 &&& Int64.toUInt64 63)).toInt64) &&& 6148914691236517205)) &&& 3689348814741910323) + ((((Int64.toUInt64 (x - ((((Int64.toUInt64 x) >>> ((1 : Int32).toInt64.toUInt64 &&& Int64.toUInt64 63)).toInt64) &&& 6148914691236517205))) >>> ((2 : Int32).toInt64.toUInt64 &&& Int64.toUInt64 63)).toInt64) &&& 3689348814741910323))), none]) dJ13_bitCount_95d88_23 rfl rfl (by decide) rfl ?_
  refine jr_lload_n (pc' := 25) (i := 0) dJ13_bitCount_95d88_24 rfl rfl rfl ?_
  refine jr_lload_n (pc' := 26) (i := 0) dJ13_bitCount_95d88_25 rfl rfl rfl ?_
  refine jr_iconst (pc' := 27) (v := 4) dJ13_bitCount_95d88_26 rfl (by decide) ?_
  refine jr_lushr (pc' := 28)  dJ13_bitCount_95d88_27 rfl  ?_
  refine jr_ladd (pc' := 29)  dJ13_bitCount_95d88_28 rfl  ?_
  refine jr_ldc2 (pc' := 32) (v := 1085102592571150095) dJ13_bitCount_95d88_29 rfl wcJ13_318 ?_
  refine jr_land (pc' := 33)  dJ13_bitCount_95d88_32 rfl  ?_
  refine jr_lstore_n (pc' := 34) (i := 0) (lv' := [some (.long (((((x - ((((Int64.toUInt64 x) >>> ((1 : Int32).toInt64.toUInt64 &&& Int64.toUInt64 63)).toInt64) &&& 6148914691236517205)) &&& 3689348814741910323) + ((((Int64.toUInt64 (x - ((((Int64.toUInt64 x) >>> ((1 : Int32).toInt64.toUInt64 &&& Int64.toUInt64 63)).toInt64) &&& 6148914691236517205))) >>> ((2 : Int32).toInt64.toUInt64 &&& Int64.toUInt64 63)).toInt64) &&& 3689348814741910323)) + (((Int64.toUInt64 (((x - ((((Int64.toUInt64 x) >>> ((1 : Int32).toInt64.toUInt64 &&& Int64.toUInt64 63)).toInt64) &&& 6148914691236517205)) &&& 3689348814741910323) + ((((Int64.toUInt64 (x - ((((Int64.toUInt64 x) >>> ((1 : Int32).toInt64.toUInt64 &&& Int64.toUInt64 63)).toInt64) &&& 6148914691236517205))) >>> ((2 : Int32).toInt64.toUInt64 &&& Int64.toUInt64 63)).toInt64) &&& 3689348814741910323))) >>> ((4 : Int32).toInt64.toUInt64 &&& Int64.toUInt64 63)).toInt64)) &&& 1085102592571150095)), none]) dJ13_bitCount_95d88_33 rfl rfl (by decide) rfl ?_
  refine jr_lload_n (pc' := 35) (i := 0) dJ13_bitCount_95d88_34 rfl rfl rfl ?_
  refine jr_lload_n (pc' := 36) (i := 0) dJ13_bitCount_95d88_35 rfl rfl rfl ?_
  refine jr_bipush (pc' := 38) (v := 8) dJ13_bitCount_95d88_36 rfl (by decide) ?_
  refine jr_lushr (pc' := 39)  dJ13_bitCount_95d88_38 rfl  ?_
  refine jr_ladd (pc' := 40)  dJ13_bitCount_95d88_39 rfl  ?_
  refine jr_lstore_n (pc' := 41) (i := 0) (lv' := [some (.long ((((((x - ((((Int64.toUInt64 x) >>> ((1 : Int32).toInt64.toUInt64 &&& Int64.toUInt64 63)).toInt64) &&& 6148914691236517205)) &&& 3689348814741910323) + ((((Int64.toUInt64 (x - ((((Int64.toUInt64 x) >>> ((1 : Int32).toInt64.toUInt64 &&& Int64.toUInt64 63)).toInt64) &&& 6148914691236517205))) >>> ((2 : Int32).toInt64.toUInt64 &&& Int64.toUInt64 63)).toInt64) &&& 3689348814741910323)) + (((Int64.toUInt64 (((x - ((((Int64.toUInt64 x) >>> ((1 : Int32).toInt64.toUInt64 &&& Int64.toUInt64 63)).toInt64) &&& 6148914691236517205)) &&& 3689348814741910323) + ((((Int64.toUInt64 (x - ((((Int64.toUInt64 x) >>> ((1 : Int32).toInt64.toUInt64 &&& Int64.toUInt64 63)).toInt64) &&& 6148914691236517205))) >>> ((2 : Int32).toInt64.toUInt64 &&& Int64.toUInt64 63)).toInt64) &&& 3689348814741910323))) >>> ((4 : Int32).toInt64.toUInt64 &&& Int64.toUInt64 63)).toInt64)) &&& 1085102592571150095) + (((Int64.toUInt64 (((((x - ((((Int64.toUInt64 x) >>> ((1 : Int32).toInt64.toUInt64 &&& Int64.toUInt64 63)).toInt64) &&& 6148914691236517205)) &&& 3689348814741910323) + ((((Int64.toUInt64 (x - ((((Int64.toUInt64 x) >>> ((1 : Int32).toInt64.toUInt64 &&& Int64.toUInt64 63)).toInt64) &&& 6148914691236517205))) >>> ((2 : Int32).toInt64.toUInt64 &&& Int64.toUInt64 63)).toInt64) &&& 3689348814741910323)) + (((Int64.toUInt64 (((x - ((((Int64.toUInt64 x) >>> ((1 : Int32).toInt64.toUInt64 &&& Int64.toUInt64 63)).toInt64) &&& 6148914691236517205)) &&& 3689348814741910323) + ((((Int64.toUInt64 (x - ((((Int64.toUInt64 x) >>> ((1 : Int32).toInt64.toUInt64 &&& Int64.toUInt64 63)).toInt64) &&& 6148914691236517205))) >>> ((2 : Int32).toInt64.toUInt64 &&& Int64.toUInt64 63)).toInt64) &&& 3689348814741910323))) >>> ((4 : Int32).toInt64.toUInt64 &&& Int64.toUInt64 63)).toInt64)) &&& 1085102592571150095)) >>> ((8 : Int32).toInt64.toUInt64 &&& Int64.toUInt64 63)).toInt64))), none]) dJ13_bitCount_95d88_40 rfl rfl (by decide) rfl ?_
  refine jr_lload_n (pc' := 42) (i := 0) dJ13_bitCount_95d88_41 rfl rfl rfl ?_
  refine jr_lload_n (pc' := 43) (i := 0) dJ13_bitCount_95d88_42 rfl rfl rfl ?_
  refine jr_bipush (pc' := 45) (v := 16) dJ13_bitCount_95d88_43 rfl (by decide) ?_
  refine jr_lushr (pc' := 46)  dJ13_bitCount_95d88_45 rfl  ?_
  refine jr_ladd (pc' := 47)  dJ13_bitCount_95d88_46 rfl  ?_
  refine jr_lstore_n (pc' := 48) (i := 0) (lv' := [some (.long (((((((x - ((((Int64.toUInt64 x) >>> ((1 : Int32).toInt64.toUInt64 &&& Int64.toUInt64 63)).toInt64) &&& 6148914691236517205)) &&& 3689348814741910323) + ((((Int64.toUInt64 (x - ((((Int64.toUInt64 x) >>> ((1 : Int32).toInt64.toUInt64 &&& Int64.toUInt64 63)).toInt64) &&& 6148914691236517205))) >>> ((2 : Int32).toInt64.toUInt64 &&& Int64.toUInt64 63)).toInt64) &&& 3689348814741910323)) + (((Int64.toUInt64 (((x - ((((Int64.toUInt64 x) >>> ((1 : Int32).toInt64.toUInt64 &&& Int64.toUInt64 63)).toInt64) &&& 6148914691236517205)) &&& 3689348814741910323) + ((((Int64.toUInt64 (x - ((((Int64.toUInt64 x) >>> ((1 : Int32).toInt64.toUInt64 &&& Int64.toUInt64 63)).toInt64) &&& 6148914691236517205))) >>> ((2 : Int32).toInt64.toUInt64 &&& Int64.toUInt64 63)).toInt64) &&& 3689348814741910323))) >>> ((4 : Int32).toInt64.toUInt64 &&& Int64.toUInt64 63)).toInt64)) &&& 1085102592571150095) + (((Int64.toUInt64 (((((x - ((((Int64.toUInt64 x) >>> ((1 : Int32).toInt64.toUInt64 &&& Int64.toUInt64 63)).toInt64) &&& 6148914691236517205)) &&& 3689348814741910323) + ((((Int64.toUInt64 (x - ((((Int64.toUInt64 x) >>> ((1 : Int32).toInt64.toUInt64 &&& Int64.toUInt64 63)).toInt64) &&& 6148914691236517205))) >>> ((2 : Int32).toInt64.toUInt64 &&& Int64.toUInt64 63)).toInt64) &&& 3689348814741910323)) + (((Int64.toUInt64 (((x - ((((Int64.toUInt64 x) >>> ((1 : Int32).toInt64.toUInt64 &&& Int64.toUInt64 63)).toInt64) &&& 6148914691236517205)) &&& 3689348814741910323) + ((((Int64.toUInt64 (x - ((((Int64.toUInt64 x) >>> ((1 : Int32).toInt64.toUInt64 &&& Int64.toUInt64 63)).toInt64) &&& 6148914691236517205))) >>> ((2 : Int32).toInt64.toUInt64 &&& Int64.toUInt64 63)).toInt64) &&& 3689348814741910323))) >>> ((4 : Int32).toInt64.toUInt64 &&& Int64.toUInt64 63)).toInt64)) &&& 1085102592571150095)) >>> ((8 : Int32).toInt64.toUInt64 &&& Int64.toUInt64 63)).toInt64)) + (((Int64.toUInt64 ((((((x - ((((Int64.toUInt64 x) >>> ((1 : Int32).toInt64.toUInt64 &&& Int64.toUInt64 63)).toInt64) &&& 6148914691236517205)) &&& 3689348814741910323) + ((((Int64.toUInt64 (x - ((((Int64.toUInt64 x) >>> ((1 : Int32).toInt64.toUInt64 &&& Int64.toUInt64 63)).toInt64) &&& 6148914691236517205))) >>> ((2 : Int32).toInt64.toUInt64 &&& Int64.toUInt64 63)).toInt64) &&& 3689348814741910323)) + (((Int64.toUInt64 (((x - ((((Int64.toUInt64 x) >>> ((1 : Int32).toInt64.toUInt64 &&& Int64.toUInt64 63)).toInt64) &&& 6148914691236517205)) &&& 3689348814741910323) + ((((Int64.toUInt64 (x - ((((Int64.toUInt64 x) >>> ((1 : Int32).toInt64.toUInt64 &&& Int64.toUInt64 63)).toInt64) &&& 6148914691236517205))) >>> ((2 : Int32).toInt64.toUInt64 &&& Int64.toUInt64 63)).toInt64) &&& 3689348814741910323))) >>> ((4 : Int32).toInt64.toUInt64 &&& Int64.toUInt64 63)).toInt64)) &&& 1085102592571150095) + (((Int64.toUInt64 (((((x - ((((Int64.toUInt64 x) >>> ((1 : Int32).toInt64.toUInt64 &&& Int64.toUInt64 63)).toInt64) &&& 6148914691236517205)) &&& 3689348814741910323) + ((((Int64.toUInt64 (x - ((((Int64.toUInt64 x) >>> ((1 : Int32).toInt64.toUInt64 &&& Int64.toUInt64 63)).toInt64) &&& 6148914691236517205))) >>> ((2 : Int32).toInt64.toUInt64 &&& Int64.toUInt64 63)).toInt64) &&& 3689348814741910323)) + (((Int64.toUInt64 (((x - ((((Int64.toUInt64 x) >>> ((1 : Int32).toInt64.toUInt64 &&& Int64.toUInt64 63)).toInt64) &&& 6148914691236517205)) &&& 3689348814741910323) + ((((Int64.toUInt64 (x - ((((Int64.toUInt64 x) >>> ((1 : Int32).toInt64.toUInt64 &&& Int64.toUInt64 63)).toInt64) &&& 6148914691236517205))) >>> ((2 : Int32).toInt64.toUInt64 &&& Int64.toUInt64 63)).toInt64) &&& 3689348814741910323))) >>> ((4 : Int32).toInt64.toUInt64 &&& Int64.toUInt64 63)).toInt64)) &&& 1085102592571150095)) >>> ((8 : Int32).toInt64.toUInt64 &&& Int64.toUInt64 63)).toInt64))) >>> ((16 : Int32).toInt64.toUInt64 &&& Int64.toUInt64 63)).toInt64))), none]) dJ13_bitCount_95d88_47 rfl rfl (by decide) rfl ?_
  refine jr_lload_n (pc' := 49) (i := 0) dJ13_bitCount_95d88_48 rfl rfl rfl ?_
  refine jr_lload_n (pc' := 50) (i := 0) dJ13_bitCount_95d88_49 rfl rfl rfl ?_
  refine jr_bipush (pc' := 52) (v := 32) dJ13_bitCount_95d88_50 rfl (by decide) ?_
  refine jr_lushr (pc' := 53)  dJ13_bitCount_95d88_52 rfl  ?_
  refine jr_ladd (pc' := 54)  dJ13_bitCount_95d88_53 rfl  ?_
  refine jr_lstore_n (pc' := 55) (i := 0) (lv' := [some (.long ((((((((x - ((((Int64.toUInt64 x) >>> ((1 : Int32).toInt64.toUInt64 &&& Int64.toUInt64 63)).toInt64) &&& 6148914691236517205)) &&& 3689348814741910323) + ((((Int64.toUInt64 (x - ((((Int64.toUInt64 x) >>> ((1 : Int32).toInt64.toUInt64 &&& Int64.toUInt64 63)).toInt64) &&& 6148914691236517205))) >>> ((2 : Int32).toInt64.toUInt64 &&& Int64.toUInt64 63)).toInt64) &&& 3689348814741910323)) + (((Int64.toUInt64 (((x - ((((Int64.toUInt64 x) >>> ((1 : Int32).toInt64.toUInt64 &&& Int64.toUInt64 63)).toInt64) &&& 6148914691236517205)) &&& 3689348814741910323) + ((((Int64.toUInt64 (x - ((((Int64.toUInt64 x) >>> ((1 : Int32).toInt64.toUInt64 &&& Int64.toUInt64 63)).toInt64) &&& 6148914691236517205))) >>> ((2 : Int32).toInt64.toUInt64 &&& Int64.toUInt64 63)).toInt64) &&& 3689348814741910323))) >>> ((4 : Int32).toInt64.toUInt64 &&& Int64.toUInt64 63)).toInt64)) &&& 1085102592571150095) + (((Int64.toUInt64 (((((x - ((((Int64.toUInt64 x) >>> ((1 : Int32).toInt64.toUInt64 &&& Int64.toUInt64 63)).toInt64) &&& 6148914691236517205)) &&& 3689348814741910323) + ((((Int64.toUInt64 (x - ((((Int64.toUInt64 x) >>> ((1 : Int32).toInt64.toUInt64 &&& Int64.toUInt64 63)).toInt64) &&& 6148914691236517205))) >>> ((2 : Int32).toInt64.toUInt64 &&& Int64.toUInt64 63)).toInt64) &&& 3689348814741910323)) + (((Int64.toUInt64 (((x - ((((Int64.toUInt64 x) >>> ((1 : Int32).toInt64.toUInt64 &&& Int64.toUInt64 63)).toInt64) &&& 6148914691236517205)) &&& 3689348814741910323) + ((((Int64.toUInt64 (x - ((((Int64.toUInt64 x) >>> ((1 : Int32).toInt64.toUInt64 &&& Int64.toUInt64 63)).toInt64) &&& 6148914691236517205))) >>> ((2 : Int32).toInt64.toUInt64 &&& Int64.toUInt64 63)).toInt64) &&& 3689348814741910323))) >>> ((4 : Int32).toInt64.toUInt64 &&& Int64.toUInt64 63)).toInt64)) &&& 1085102592571150095)) >>> ((8 : Int32).toInt64.toUInt64 &&& Int64.toUInt64 63)).toInt64)) + (((Int64.toUInt64 ((((((x - ((((Int64.toUInt64 x) >>> ((1 : Int32).toInt64.toUInt64 &&& Int64.toUInt64 63)).toInt64) &&& 6148914691236517205)) &&& 3689348814741910323) + ((((Int64.toUInt64 (x - ((((Int64.toUInt64 x) >>> ((1 : Int32).toInt64.toUInt64 &&& Int64.toUInt64 63)).toInt64) &&& 6148914691236517205))) >>> ((2 : Int32).toInt64.toUInt64 &&& Int64.toUInt64 63)).toInt64) &&& 3689348814741910323)) + (((Int64.toUInt64 (((x - ((((Int64.toUInt64 x) >>> ((1 : Int32).toInt64.toUInt64 &&& Int64.toUInt64 63)).toInt64) &&& 6148914691236517205)) &&& 3689348814741910323) + ((((Int64.toUInt64 (x - ((((Int64.toUInt64 x) >>> ((1 : Int32).toInt64.toUInt64 &&& Int64.toUInt64 63)).toInt64) &&& 6148914691236517205))) >>> ((2 : Int32).toInt64.toUInt64 &&& Int64.toUInt64 63)).toInt64) &&& 3689348814741910323))) >>> ((4 : Int32).toInt64.toUInt64 &&& Int64.toUInt64 63)).toInt64)) &&& 1085102592571150095) + (((Int64.toUInt64 (((((x - ((((Int64.toUInt64 x) >>> ((1 : Int32).toInt64.toUInt64 &&& Int64.toUInt64 63)).toInt64) &&& 6148914691236517205)) &&& 3689348814741910323) + ((((Int64.toUInt64 (x - ((((Int64.toUInt64 x) >>> ((1 : Int32).toInt64.toUInt64 &&& Int64.toUInt64 63)).toInt64) &&& 6148914691236517205))) >>> ((2 : Int32).toInt64.toUInt64 &&& Int64.toUInt64 63)).toInt64) &&& 3689348814741910323)) + (((Int64.toUInt64 (((x - ((((Int64.toUInt64 x) >>> ((1 : Int32).toInt64.toUInt64 &&& Int64.toUInt64 63)).toInt64) &&& 6148914691236517205)) &&& 3689348814741910323) + ((((Int64.toUInt64 (x - ((((Int64.toUInt64 x) >>> ((1 : Int32).toInt64.toUInt64 &&& Int64.toUInt64 63)).toInt64) &&& 6148914691236517205))) >>> ((2 : Int32).toInt64.toUInt64 &&& Int64.toUInt64 63)).toInt64) &&& 3689348814741910323))) >>> ((4 : Int32).toInt64.toUInt64 &&& Int64.toUInt64 63)).toInt64)) &&& 1085102592571150095)) >>> ((8 : Int32).toInt64.toUInt64 &&& Int64.toUInt64 63)).toInt64))) >>> ((16 : Int32).toInt64.toUInt64 &&& Int64.toUInt64 63)).toInt64)) + (((Int64.toUInt64 (((((((x - ((((Int64.toUInt64 x) >>> ((1 : Int32).toInt64.toUInt64 &&& Int64.toUInt64 63)).toInt64) &&& 6148914691236517205)) &&& 3689348814741910323) + ((((Int64.toUInt64 (x - ((((Int64.toUInt64 x) >>> ((1 : Int32).toInt64.toUInt64 &&& Int64.toUInt64 63)).toInt64) &&& 6148914691236517205))) >>> ((2 : Int32).toInt64.toUInt64 &&& Int64.toUInt64 63)).toInt64) &&& 3689348814741910323)) + (((Int64.toUInt64 (((x - ((((Int64.toUInt64 x) >>> ((1 : Int32).toInt64.toUInt64 &&& Int64.toUInt64 63)).toInt64) &&& 6148914691236517205)) &&& 3689348814741910323) + ((((Int64.toUInt64 (x - ((((Int64.toUInt64 x) >>> ((1 : Int32).toInt64.toUInt64 &&& Int64.toUInt64 63)).toInt64) &&& 6148914691236517205))) >>> ((2 : Int32).toInt64.toUInt64 &&& Int64.toUInt64 63)).toInt64) &&& 3689348814741910323))) >>> ((4 : Int32).toInt64.toUInt64 &&& Int64.toUInt64 63)).toInt64)) &&& 1085102592571150095) + (((Int64.toUInt64 (((((x - ((((Int64.toUInt64 x) >>> ((1 : Int32).toInt64.toUInt64 &&& Int64.toUInt64 63)).toInt64) &&& 6148914691236517205)) &&& 3689348814741910323) + ((((Int64.toUInt64 (x - ((((Int64.toUInt64 x) >>> ((1 : Int32).toInt64.toUInt64 &&& Int64.toUInt64 63)).toInt64) &&& 6148914691236517205))) >>> ((2 : Int32).toInt64.toUInt64 &&& Int64.toUInt64 63)).toInt64) &&& 3689348814741910323)) + (((Int64.toUInt64 (((x - ((((Int64.toUInt64 x) >>> ((1 : Int32).toInt64.toUInt64 &&& Int64.toUInt64 63)).toInt64) &&& 6148914691236517205)) &&& 3689348814741910323) + ((((Int64.toUInt64 (x - ((((Int64.toUInt64 x) >>> ((1 : Int32).toInt64.toUInt64 &&& Int64.toUInt64 63)).toInt64) &&& 6148914691236517205))) >>> ((2 : Int32).toInt64.toUInt64 &&& Int64.toUInt64 63)).toInt64) &&& 3689348814741910323))) >>> ((4 : Int32).toInt64.toUInt64 &&& Int64.toUInt64 63)).toInt64)) &&& 1085102592571150095)) >>> ((8 : Int32).toInt64.toUInt64 &&& Int64.toUInt64 63)).toInt64)) + (((Int64.toUInt64 ((((((x - ((((Int64.toUInt64 x) >>> ((1 : Int32).toInt64.toUInt64 &&& Int64.toUInt64 63)).toInt64) &&& 6148914691236517205)) &&& 3689348814741910323) + ((((Int64.toUInt64 (x - ((((Int64.toUInt64 x) >>> ((1 : Int32).toInt64.toUInt64 &&& Int64.toUInt64 63)).toInt64) &&& 6148914691236517205))) >>> ((2 : Int32).toInt64.toUInt64 &&& Int64.toUInt64 63)).toInt64) &&& 3689348814741910323)) + (((Int64.toUInt64 (((x - ((((Int64.toUInt64 x) >>> ((1 : Int32).toInt64.toUInt64 &&& Int64.toUInt64 63)).toInt64) &&& 6148914691236517205)) &&& 3689348814741910323) + ((((Int64.toUInt64 (x - ((((Int64.toUInt64 x) >>> ((1 : Int32).toInt64.toUInt64 &&& Int64.toUInt64 63)).toInt64) &&& 6148914691236517205))) >>> ((2 : Int32).toInt64.toUInt64 &&& Int64.toUInt64 63)).toInt64) &&& 3689348814741910323))) >>> ((4 : Int32).toInt64.toUInt64 &&& Int64.toUInt64 63)).toInt64)) &&& 1085102592571150095) + (((Int64.toUInt64 (((((x - ((((Int64.toUInt64 x) >>> ((1 : Int32).toInt64.toUInt64 &&& Int64.toUInt64 63)).toInt64) &&& 6148914691236517205)) &&& 3689348814741910323) + ((((Int64.toUInt64 (x - ((((Int64.toUInt64 x) >>> ((1 : Int32).toInt64.toUInt64 &&& Int64.toUInt64 63)).toInt64) &&& 6148914691236517205))) >>> ((2 : Int32).toInt64.toUInt64 &&& Int64.toUInt64 63)).toInt64) &&& 3689348814741910323)) + (((Int64.toUInt64 (((x - ((((Int64.toUInt64 x) >>> ((1 : Int32).toInt64.toUInt64 &&& Int64.toUInt64 63)).toInt64) &&& 6148914691236517205)) &&& 3689348814741910323) + ((((Int64.toUInt64 (x - ((((Int64.toUInt64 x) >>> ((1 : Int32).toInt64.toUInt64 &&& Int64.toUInt64 63)).toInt64) &&& 6148914691236517205))) >>> ((2 : Int32).toInt64.toUInt64 &&& Int64.toUInt64 63)).toInt64) &&& 3689348814741910323))) >>> ((4 : Int32).toInt64.toUInt64 &&& Int64.toUInt64 63)).toInt64)) &&& 1085102592571150095)) >>> ((8 : Int32).toInt64.toUInt64 &&& Int64.toUInt64 63)).toInt64))) >>> ((16 : Int32).toInt64.toUInt64 &&& Int64.toUInt64 63)).toInt64))) >>> ((32 : Int32).toInt64.toUInt64 &&& Int64.toUInt64 63)).toInt64))), none]) dJ13_bitCount_95d88_54 rfl rfl (by decide) rfl ?_
  refine jr_lload_n (pc' := 56) (i := 0) dJ13_bitCount_95d88_55 rfl rfl rfl ?_
  refine jr_l2i (pc' := 57)  dJ13_bitCount_95d88_56 rfl  ?_
  refine jr_bipush (pc' := 59) (v := 127) dJ13_bitCount_95d88_57 rfl (by decide) ?_
  refine jr_iand (pc' := 60)  dJ13_bitCount_95d88_59 rfl  ?_
  exact jr_iret dJ13_bitCount_95d88_60 rfl rfl (k0)

