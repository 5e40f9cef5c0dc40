/-! ===== contracts and calls ===== -/
def jRm (n : Nat) : Room := { frames := n, cells := 0, slots := 0, locals := 64 * n }
def jQ (E : jEnv) (P : Option Value → HP → Prop) : Array Value → State → Outcome → State → Prop := fun _ st oc t => (∃ (v : Option Value) (h' : HP), oc = .returned (v.map (jV E)) ∧ P v h' ∧ va_P E.2.1 vwCl (jW E h') t.heap) ∧ va_F (jIn E) st t
def jC (E : jEnv) (M : jM) (n : Nat) (av : List Value) (h : HP) (P : Option Value → HP → Prop) : Prop :=
  ∀ l : Launch, Met l M.1 (Cond.code M.1 M.2.1 M.2.2.1 M.2.2.2 :: jT) (jRm n) (va_Pc (av.map (jV E)) (fun U => va_P E.2.1 vwCl (jW E h) U.heap ∧ jSC E U U.heap)) (jQ E P) 0 0 (jIn E)
/-- the locals at a method's entry -/
def jargs : List Value → List (Option Value)
  | [] => []
  | v :: vs => if v.category = 2 then some v :: none :: jargs vs else some v :: jargs vs
theorem jargs_at {E : jEnv} : ∀ (vs : List Value) (o i : Nat) (v : Value), (jargs vs)[i]? = some (some v) → (o + i, jV E v) ∈ lv_args o (vs.map (jV E))
  | [], o, i, v, h => by simp [jargs] at h
  | w :: vs, o, i, v, h => by
    simp only [List.map_cons, lv_args, jV_cat]
    by_cases hc : w.category = 2
    · simp only [jargs, if_pos hc] at h
      match i, h with
      | 0, h =>
        simp at h
        subst h
        exact List.mem_cons_self
      | 1, h => simp at h
      | i + 2, h =>
        have := jargs_at (E := E) vs (o + 2) i v (by simpa using h)
        rw [if_pos hc]
        refine List.mem_cons_of_mem _ ?_
        rw [show o + (i + 2) = o + 2 + i by omega]
        exact this
    · simp only [jargs, if_neg hc] at h
      match i, h with
      | 0, h =>
        simp at h
        subst h
        exact List.mem_cons_self
      | i + 1, h =>
        have := jargs_at (E := E) vs (o + 1) i v (by simpa using h)
        rw [if_neg hc]
        refine List.mem_cons_of_mem _ ?_
        rw [show o + (i + 1) = o + 1 + i by omega]
        exact this
theorem j_sl (E : jEnv) : ∀ vs : List Value, (lg_sl (vs.map (jV E))).length = (lg_sl vs).length
  | [] => rfl
  | v :: vs => by
    have := j_sl E vs
    cases v <;> simp_all [lg_sl, jV, Value.category]
/-- a contract out of the walk of the body -/
theorem jC.of {E : jEnv} {M : jM} {n : Nat} {av : List Value} {h : HP} {P : Option Value → HP → Prop} {lv : List (Option Value)} (hy : plainName M.1.cls = true) (hlen : (lg_sl av).length ≤ M.2.2.1) (hlv : jsub lv (jargs av)) (kk : jG E M n (fun _ => True) P 0 lv [] h) : jC E M n av h P := by
  intro l
  refine Met.ofW (cc := M.2.1) (maxL := M.2.2.1) (ret := M.2.2.2) hy rfl ?_
  intro p e s m args below meth c s₁ B hml hv
  obtain ⟨rfl, hP, hSC⟩ := hv
  have hts := atoms_spec (ws := Cond.code M.1 M.2.1 M.2.2.1 M.2.2.2 :: jT) B.pre
  have hown : s.vm.findClass M.1.cls = some m.cls := findClass_of_methodNamed B.named
  have hlocks := B.notSynchronized
  have hl := lv_entry (av.map (jV E)) (n := M.2.2.1) (by rw [j_sl]; exact hlen)
  rw [lg_entry_eq]
  refine kk p l e (jRm n) s m _ below meth c s.heap [] 0 0 _ _ ⟨B.exec, B.bytes, hml, hown, fun w hw => hts w (List.mem_cons_of_mem _ hw), B.returns, hlocks, hSC, Nat.le_refl _, Nat.le_refl _⟩ (Nat.le_refl _) (Nat.le_refl _) trivial hP va_S.rf ⟨hl.1, hl.2.1, fun i v hv => ?_⟩ ?_
  · have h1 := jargs_at (E := E) av 0 i v (jsub_at _ _ hlv i v hv)
    rw [Nat.zero_add] at h1
    exact hl.2.2 (i, jV E v) h1
  · intro pc' ls' v h' H' locs' hret hpost hP' hS'
    rcases hret with ⟨hd, x, ty, rfl, hr, hnar⟩ | ⟨hd, hr, x, rfl⟩ | ⟨hd, hr, rfl⟩
    · exact W.zret (v := x) B.exec B.bytes (B.returns.trans hr) hnar (fun t ht hW => ⟨⟨some (.int x), h', rfl, hpost, by rw [ht]; exact hP'⟩, hS'.F ht⟩) hS'.2.2 hd hlocks
    · exact W.lret (v := x) B.exec B.bytes (B.returns.trans hr) (fun t ht hW => ⟨⟨some (.long x), h', rfl, hpost, by rw [ht]; exact hP'⟩, hS'.F ht⟩) hS'.2.2 hd hlocks
    · exact W.vret B.exec B.bytes (B.returns.trans hr) (fun t ht hW => ⟨⟨none, h', rfl, hpost, by rw [ht]; exact hP'⟩, hS'.F ht⟩) hS'.2.2 hd hlocks
section JC
variable {p : Program} {l : Launch} {e : Env} {R : Room} {s : State} {m : MethodId} {args : Array Value} {below : List Frame} {meth : Method} {c : Code} {H : Heap} {locs : List Loc} {cells slots : Nat} {Q : State → Prop}
theorem j_callx {E : jEnv} {P : Option Value → HP → Prop} {pc : Nat} {ls : Array Slot} {st0 rest : List Value} {a : Array Value} (hr : va_Run p l e R s m args below meth c H locs cells slots 0 0 (F0 m pc ls st0) (rest.map (jV E)) (jQ E P a) (jIn E)) (hS : va_S (jIn E) s.heap H locs)
    (kk : ∀ (v : Option Value) (h' : HP) (H1 : Heap) (locs1 : List Loc), P v h' → va_P E.2.1 vwCl (jW E h') H1 → va_S (jIn E) s.heap H1 locs1 → W p l e R s m args below meth c H1 locs1 cells slots Q (F0 m (pc + 3) ls ((v.toList ++ rest).map (jV E)))) : W p l e R s m args below meth c H locs cells slots Q (F0 m pc ls st0) := by
  intro T hT X
  obtain ⟨v, st₀, t, T', L, h0, X', hL, e1, e2, ⟨⟨w, h', hv, hp, hb⟩, hz, hk⟩, st⟩ := hr T hT X
  cases hv
  rw [h0] at hz hk
  obtain ⟨t2, a1, b1⟩ := kk w h' T'.heap (locs ++ L) hp (by rw [e1]; exact hb)
    ⟨Nat.le_trans hS.1 (by rw [e1]; exact hz), fun q h1 h2 => by rw [e1, hk q (Nat.lt_of_lt_of_le h1 hS.1) h2]; exact hS.2.1 q h1 h2, fun q hq => by
      rcases List.mem_append.mp hq with h | h
      · exact hS.2.2 q h
      · exact hL q h⟩ T' rfl X'
  refine ⟨t2, st t2 ?_, b1⟩
  have : (w.toList ++ rest).map (jV E) = (w.map (jV E)).toList ++ rest.map (jV E) := by cases w <;> simp
  rw [this] at a1
  exact a1
end JC
/-- what the tables say of a method that is called: its code, that its class is ready, how many arguments it takes -/
def jMd (M : jM) (na : Nat) : Prop := Cond.code M.1 M.2.1 M.2.2.1 M.2.2.2 ∈ lw_tbl ∧ Cond.initialized M.1.cls ∈ lw_tbl ∧ (M.1.cls ≠ "java/lang/invoke/MethodHandle" ∧ M.1.cls ≠ "java/lang/invoke/VarHandle" ∧ (parseMethodDescriptor M.1.desc).map (fun d => d.parameters.length) = some na) ∧ M.2.2.1 ≤ 45
def jMv (M : jM) (na : Nat) : Prop := jMd M na ∧ Cond.instanceMethod M.1 ∈ lw_tbl ∧ Cond.selects M.1.cls M.1 M.1 ∈ lw_tbl
def jMs (M : jM) (na : Nat) : Prop := jMd M na ∧ Cond.static M.1 ∈ lw_tbl
theorem jT_all {M : jM} (h : Cond.code M.1 M.2.1 M.2.2.1 M.2.2.2 ∈ lw_tbl) : GoodIn jT (Cond.code M.1 M.2.1 M.2.2.1 M.2.2.2 :: jT) := by
  intro w hw
  rcases List.mem_cons.mp hw with rfl | hw
  · exact ⟨jT_in h rfl, good_of_word rfl⟩
  · exact ⟨hw, good_of_word (jT_good w hw)⟩
section JD
variable {E : jEnv} {M Mc : jM} {n : Nat} {X : State → Prop} {Post P1 : Option Value → HP → Prop} {pc pc' : Nat} {lv lv' : List (Option Value)} {st stk av : List Value} {h : HP} {na : Nat}
theorem j_cats (E : jEnv) (st : List Value) : ((st.map (jV E)).map fun v => v.category).sum = (st.map fun v => v.category).sum := by
  rw [List.map_map]
  congr 1
  exact List.map_congr_left (fun v _ => jV_cat E v)
theorem j_pre {s U : State} {H : Heap} {locs : List Loc} {av : List Value} (hSC : jSC E s s.heap) (hP : va_P E.2.1 vwCl (jW E h) H) (hS : va_S (jIn E) s.heap H locs) (hU : U.heap = H) (hW : s.WarmedH U.vm) : va_Pc (av.map (jV E)) (fun U => va_P E.2.1 vwCl (jW E h) U.heap ∧ jSC E U U.heap) (av.map (jV E)).toArray U := by
  refine ⟨rfl, by rw [hU]; exact hP, ?_⟩
  rw [hU]
  exact hSC.moved hW (fun a h1 h2 => hS.2.1 a h1 h2)
theorem j_blind {av : List Value} : FrameBlind (va_Pc (av.map (jV E)) (fun U => va_P E.2.1 vwCl (jW E h) U.heap ∧ jSC E U U.heap)) := by
  intro a U g mk q
  obtain ⟨q0, q1, q2⟩ := q
  exact ⟨q0, q1, jSC.same (u := U) rfl q2⟩
/-- an instance method, public or private, of an object of ours -/
theorem jr_callV {k i ci : Nat} {q : vw_C} (hM : jMv Mc na) (hw : Cond.methodLink M.1.cls i Mc.1 ∈ lw_tbl) (hd : decode M.2.1 pc = .ok (.invokevirtual i, 3)) (hn : pc + 3 = pc') (hk : k < 72) (hc : jKind k = ci) (h8 : ci ≤ 8) (hq : vwCl[ci]? = some q) (hq1 : q.1 = Mc.1.cls) (hna : av.length = na) (hst : (st.map fun v => v.category).sum ≤ 8) (hstk : stk = av.reverse ++ .ref k :: st)
    (hC1 : jC E Mc n (.ref k :: av) h P1) (kk : ∀ (v : Option Value) (h' : HP), P1 v h' → jG E M (n + 1) X Post pc' lv (v.toList ++ st) h') : jG E M (n + 1) X Post pc lv stk h := by
  intro p l e R s m args below meth c H locs cells slots Q ls hC hc1 hc2 hX hP hS hL hF
  subst hn; subst hstk
  have hts := hC.2.2.2.2.1
  have hlo := hC.2.2.2.2.2.2.2.2.2
  have hfr := hC.2.2.2.2.2.2.2.2.1
  have hml := hM.1.2.2.2
  have hcell := va_recv hC.2.2.2.2.2.2.2.1.1 hP hq (a := E.1 k) (q0 := k) (fs := (List.range (jNF ci)).map (jFv E.1 h k)) (by rw [jW_at hk, jE_obj hc h8 rfl])
  rw [hq1] at hcell
  have cw : CallW R s args M.1.cls Mc.1.cls i Mc.1 Mc.2.1 Mc.2.2.1 Mc.2.2.2 (Cond.code Mc.1 Mc.2.1 Mc.2.2.1 Mc.2.2.2 :: jT) (jRm n) 0 0 na :=
    ⟨callB_of na hts (jT_all hM.1.1) rfl rfl rfl (hts _ (jT_in hM.1.2.1 rfl)) (hts _ (jT_in hw rfl)) hM.1.2.2.1 ⟨hfr, by show 8 + (Mc.2.2.1 + 11) + 64 * n ≤ R.locals; omega⟩, hts _ (jT_in hM.2.1 rfl), hts _ (jT_in hM.2.2 rfl)⟩
  refine j_callx (va_runV (As := av.map (jV E)) (rest := st.map (jV E)) (b := E.1 k) (g := F0 m pc ls ((av.reverse ++ .ref k :: st).map (jV E))) ⟨hC.1, hC.2.1, hC.2.2.1, hC.2.2.2.1, hts⟩ (hC1 l) cw ⟨j_blind, hcell, fun U hU hW => j_pre (av := .ref k :: av) hC.2.2.2.2.2.2.2.1 hP hS hU hW⟩ rfl (by simpa using hna) hL.1 (by simp [jV]) (lv_room (by rw [j_cats]; exact hst)) hd ⟨hc1, hc2⟩) hS (fun v h' H1 locs1 hp hP1 hS1 => kk v h' hp p l e R s m args below meth c H1 locs1 cells slots Q ls hC hc1 hc2 hX hP1 hS1 hL hF)
/-- a static method -/
theorem jr_callS {i : Nat} (hM : jMs Mc na) (hw : Cond.methodLink M.1.cls i Mc.1 ∈ lw_tbl) (hd : decode M.2.1 pc = .ok (.invokestatic i, 3)) (hn : pc + 3 = pc') (hna : av.length = na) (hst : (st.map fun v => v.category).sum ≤ 8) (hstk : stk = av.reverse ++ st)
    (hC1 : jC E Mc n av h P1) (kk : ∀ (v : Option Value) (h' : HP), P1 v h' → jG E M (n + 1) X Post pc' lv (v.toList ++ st) h') : jG E M (n + 1) X Post pc lv stk h := by
  intro p l e R s m args below meth c H locs cells slots Q ls hC hc1 hc2 hX hP hS hL hF
  subst hn; subst hstk
  have hts := hC.2.2.2.2.1
  have hlo := hC.2.2.2.2.2.2.2.2.2
  have hfr := hC.2.2.2.2.2.2.2.2.1
  have hml := hM.1.2.2.2
  have cw : CallB R s args M.1.cls i Mc.1 Mc.2.1 Mc.2.2.1 Mc.2.2.2 (Cond.code Mc.1 Mc.2.1 Mc.2.2.1 Mc.2.2.2 :: jT) (jRm n) 0 0 na ∧ (Cond.static Mc.1).before args s = true :=
    ⟨callB_of na hts (jT_all hM.1.1) rfl rfl rfl (hts _ (jT_in hM.1.2.1 rfl)) (hts _ (jT_in hw rfl)) hM.1.2.2.1 ⟨hfr, by show 8 + (Mc.2.2.1 + 11) + 64 * n ≤ R.locals; omega⟩, hts _ (jT_in hM.2 rfl)⟩
  refine j_callx (va_runS (As := av.map (jV E)) (rest := st.map (jV E)) (g := F0 m pc ls ((av.reverse ++ st).map (jV E))) ⟨hC.1, hC.2.1, hC.2.2.1, hC.2.2.2.1, hts⟩ (hC1 l) cw ⟨j_blind, fun U hU hW => j_pre (av := av) hC.2.2.2.2.2.2.2.1 hP hS hU hW⟩ rfl (by simpa using hna) hL.1 (by simp) (lv_room (by rw [j_cats]; exact hst)) hd ⟨hc1, hc2⟩) hS (fun v h' H1 locs1 hp hP1 hS1 => kk v h' hp p l e R s m args below meth c H1 locs1 cells slots Q ls hC hc1 hc2 hX hP1 hS1 hL hF)
/-- a private static method of a nest mate -/
theorem jr_callSN {i : Nat} {host : String} (hM : jMs Mc na) (hw : Cond.methodLinkNest M.1.cls i Mc.1 host ∈ jNest) (hd : decode M.2.1 pc = .ok (.invokestatic i, 3)) (hn : pc + 3 = pc') (hna : av.length = na) (hst : (st.map fun v => v.category).sum ≤ 8) (hstk : stk = av.reverse ++ st)
    (hC1 : jC E Mc n av h P1) (kk : ∀ (v : Option Value) (h' : HP), P1 v h' → jG E M (n + 1) X Post pc' lv (v.toList ++ st) h') : jG E M (n + 1) X Post pc lv stk h := by
  intro p l e R s m args below meth c H locs cells slots Q ls hC hc1 hc2 hX hP hS hL hF
  subst hn; subst hstk
  have hts := hC.2.2.2.2.1
  have hlo := hC.2.2.2.2.2.2.2.2.2
  have hfr := hC.2.2.2.2.2.2.2.2.1
  have hml := hM.1.2.2.2
  refine j_callx (va_runSN (host := host) (As := av.map (jV E)) (rest := st.map (jV E)) (g := F0 m pc ls ((av.reverse ++ st).map (jV E))) ⟨hC.1, hC.2.1, hC.2.2.1, hC.2.2.2.1, hts⟩ (hC1 l) ⟨va_cnB na hts (jT_all hM.1.1) rfl rfl rfl (hC.2.2.2.2.2.2.2.1.2.1 _ hw) (hts _ (jT_in hM.1.2.1 rfl)) hM.1.2.2.1 ⟨hfr, by show 8 + (Mc.2.2.1 + 11) + 64 * n ≤ R.locals; omega⟩, hts _ (jT_in hM.2 rfl), trivial⟩ ⟨j_blind, fun U hU hW => j_pre (av := av) hC.2.2.2.2.2.2.2.1 hP hS hU hW⟩ rfl (by simpa using hna) hL.1 (by simp) (lv_room (by rw [j_cats]; exact hst)) hd ⟨hc1, hc2⟩) hS (fun v h' H1 locs1 hp hP1 hS1 => kk v h' hp p l e R s m args below meth c H1 locs1 cells slots Q ls hC hc1 hc2 hX hP1 hS1 hL hF)
end JD
