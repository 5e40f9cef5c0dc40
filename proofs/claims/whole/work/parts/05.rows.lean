
/-! ===== the judgement: from here the method comes to a return that keeps Post ===== -/
def jCx (E : jEnv) (M : jM) (n : Nat) (p : Program) (R : Room) (s : State) (m : MethodId) (args : Array Value) (meth : Method) (c : Code) : Prop :=
  p.tables.exec = Jvm.exec ∧ c.code = M.2.1 ∧ c.maxLocals = M.2.2.1 ∧ s.vm.findClass M.1.cls = some m.cls ∧ (∀ w ∈ jT, w.before args s = true) ∧ meth.sig.returnType = M.2.2.2 ∧ meth.locks = false ∧ jSC E s s.heap ∧ n ≤ R.frames ∧ 64 * n ≤ R.locals
/-- a return: its instruction, and what it gives back -/
def jRet (M : jM) (pc : Nat) (v : Option Value) : Prop :=
  (decode M.2.1 pc = .ok (.ireturn, 1) ∧ ∃ (x : Int32) (ty : FieldType), v = some (.int x) ∧ M.2.2.2 = some ty ∧ narrow ty (.int x) = .int x) ∨
  (decode M.2.1 pc = .ok (.lreturn, 1) ∧ M.2.2.2 = some .long ∧ ∃ x : Int64, v = some (.long x)) ∨
  (decode M.2.1 pc = .ok (.return_, 1) ∧ M.2.2.2 = none ∧ v = none)
def jG (E : jEnv) (M : jM) (n : Nat) (X : State → Prop) (Post : Option Value → HP → Prop) (pc : Nat) (lv : List (Option Value)) (st : List Value) (h : HP) : Prop :=
  ∀ (p : Program) (l : Launch) (e : Env) (R : Room) (s : State) (m : MethodId) (args : Array Value) (below : List Frame) (meth : Method) (c : Code) (H : Heap) (locs : List Loc) (cells slots : Nat) (Q : State → Prop) (ls : Array Slot),
    jCx E M n p R s m args meth c → cells ≤ R.cells → slots ≤ R.slots → X s → va_P E.2.1 vwCl (jW E h) H → va_S (jIn E) s.heap H locs → jL E ls M.2.2.1 lv →
    (∀ (pc' : Nat) (ls' : Array Slot) (v : Option Value) (h' : HP) (H' : Heap) (locs' : List Loc), jRet M pc' v → Post v h' → va_P E.2.1 vwCl (jW E h') H' → va_S (jIn E) s.heap H' locs' →
      W p l e R s m args below meth c H' locs' cells slots Q (F0 m pc' ls' (v.toList.map (jV E)))) →
    W p l e R s m args below meth c H locs cells slots Q (F0 m pc ls (st.map (jV E)))
section JG
variable {E : jEnv} {M : jM} {n : Nat} {X : State → Prop} {Post : Option Value → HP → Prop} {pc pc' : Nat} {lv lv' : List (Option Value)} {st : List Value} {h : HP}
theorem jG.mono {Post' : Option Value → HP → Prop} (hp : ∀ v h', Post' v h' → Post v h') (kk : jG E M n X Post' pc lv st h) : jG E M n X Post pc lv st h := by
  intro p l e R s m args below meth c H locs cells slots Q ls hC h1 h2 hX hP hS hL hF
  exact kk p l e R s m args below meth c H locs cells slots Q ls hC h1 h2 hX hP hS hL (fun pc' ls' v h' H' locs' a b c' d => hF pc' ls' v h' H' locs' a (hp v h' b) c' d)
def jsub : List (Option Value) → List (Option Value) → Prop
  | [], _ => True
  | none :: a, [] => jsub a []
  | none :: a, _ :: b => jsub a b
  | some _ :: _, [] => False
  | some v :: a, o :: b => o = some v ∧ jsub a b
theorem jsub_at : ∀ (a b : List (Option Value)), jsub a b → ∀ (i : Nat) (v : Value), a[i]? = some (some v) → b[i]? = some (some v)
  | [], _, _, i, v, h => by simp at h
  | none :: a, [], hs, 0, v, h => by simp at h
  | none :: a, [], hs, i + 1, v, h => by
    have := jsub_at a [] hs i v (by simpa using h)
    simp at this
  | none :: a, _ :: b, hs, 0, v, h => by simp at h
  | none :: a, _ :: b, hs, i + 1, v, h => by
    simpa using jsub_at a b hs i v (by simpa using h)
  | some _ :: _, [], hs, i, v, h => absurd hs (by simp [jsub])
  | some w :: a, o :: b, hs, 0, v, h => by
    obtain ⟨h1, h2⟩ := hs
    simp at h
    subst h
    simp [h1]
  | some w :: a, o :: b, hs, i + 1, v, h => by
    obtain ⟨h1, h2⟩ := hs
    simpa using jsub_at a b h2 i v (by simpa using h)
/-- fewer locals are enough -/
theorem jG.weak (hle : jsub lv' lv) (kk : jG E M n X Post pc lv' st h) : jG E M n X Post pc lv st h := by
  intro p l e R s m args below meth c H locs cells slots Q ls hC h1 h2 hX hP hS hL hF
  exact kk p l e R s m args below meth c H locs cells slots Q ls hC h1 h2 hX hP hS ⟨hL.1, hL.2.1, fun i v hv => hL.2.2 i v (jsub_at _ _ hle i v hv)⟩ hF
/-- the same state by another name -/
theorem jG.eq {pc2 : Nat} {lv2 : List (Option Value)} {st2 : List Value} {h2 : HP} (e1 : pc = pc2) (e2 : lv = lv2) (e3 : st = st2) (e4 : h = h2) (kk : jG E M n X Post pc2 lv2 st2 h2) : jG E M n X Post pc lv st h := by
  subst e1; subst e2; subst e3; subst e4; exact kk

theorem jr_iconst {z : Int} {v : Int32} (hd : decode M.2.1 pc = .ok (.iconst z, 1)) (hn : pc + 1 = pc') (hv : Int32.ofInt z = v)
    (kk : jG E M n X Post pc' lv (.int v :: st) h) : jG E M n X Post pc lv (st) h := by
  intro p l e R s m args below meth c H locs cells slots Q ls hC hc1 hc2 hX hP hS hL hF
  subst hn
  exact lv_iconst hC.1 hC.2.1 hd hv (kk p l e R s m args below meth c H locs cells slots Q ls hC hc1 hc2 hX hP hS hL hF)

theorem jr_bipush {z : Int} {v : Int32} (hd : decode M.2.1 pc = .ok (.bipush z, 2)) (hn : pc + 2 = pc') (hv : (Int8.ofInt z).toInt32 = v)
    (kk : jG E M n X Post pc' lv (.int v :: st) h) : jG E M n X Post pc lv (st) h := by
  intro p l e R s m args below meth c H locs cells slots Q ls hC hc1 hc2 hX hP hS hL hF
  subst hn
  exact lv_bipush hC.1 hC.2.1 hd hv (kk p l e R s m args below meth c H locs cells slots Q ls hC hc1 hc2 hX hP hS hL hF)

theorem jr_sipush {z : Int} {v : Int32} (hd : decode M.2.1 pc = .ok (.sipush z, 3)) (hn : pc + 3 = pc') (hv : (Int16.ofInt z).toInt32 = v)
    (kk : jG E M n X Post pc' lv (.int v :: st) h) : jG E M n X Post pc lv (st) h := by
  intro p l e R s m args below meth c H locs cells slots Q ls hC hc1 hc2 hX hP hS hL hF
  subst hn
  exact lv_sipush hC.1 hC.2.1 hd hv (kk p l e R s m args below meth c H locs cells slots Q ls hC hc1 hc2 hX hP hS hL hF)

theorem jr_lconst {z : Fin 2} {v : Int64} (hd : decode M.2.1 pc = .ok (.lconst z, 1)) (hn : pc + 1 = pc') (hv : Int64.ofNat (z : Nat) = v)
    (kk : jG E M n X Post pc' lv (.long v :: st) h) : jG E M n X Post pc lv (st) h := by
  intro p l e R s m args below meth c H locs cells slots Q ls hC hc1 hc2 hX hP hS hL hF
  subst hn
  exact lv_lconst hC.1 hC.2.1 hd hv (kk p l e R s m args below meth c H locs cells slots Q ls hC hc1 hc2 hX hP hS hL hF)

theorem jr_ldc {i : Nat} {v : Int32} (hd : decode M.2.1 pc = .ok (.ldc i, 2)) (hn : pc + 2 = pc') (hw : Cond.constant M.1.cls i v ∈ lw_tbl)
    (kk : jG E M n X Post pc' lv (.int v :: st) h) : jG E M n X Post pc lv (st) h := by
  intro p l e R s m args below meth c H locs cells slots Q ls hC hc1 hc2 hX hP hS hL hF
  subst hn
  exact lv_ldc hC.1 hC.2.1 hC.2.2.2.1 (hC.2.2.2.2.1 _ (jT_in hw rfl)) hd (kk p l e R s m args below meth c H locs cells slots Q ls hC hc1 hc2 hX hP hS hL hF)

theorem jr_ldcw {i : Nat} {v : Int32} (hd : decode M.2.1 pc = .ok (.ldc_w i, 3)) (hn : pc + 3 = pc') (hw : Cond.constant M.1.cls i v ∈ lw_tbl)
    (kk : jG E M n X Post pc' lv (.int v :: st) h) : jG E M n X Post pc lv (st) h := by
  intro p l e R s m args below meth c H locs cells slots Q ls hC hc1 hc2 hX hP hS hL hF
  subst hn
  exact lv_ldcw hC.1 hC.2.1 hC.2.2.2.1 (hC.2.2.2.2.1 _ (jT_in hw rfl)) hd (kk p l e R s m args below meth c H locs cells slots Q ls hC hc1 hc2 hX hP hS hL hF)

theorem jr_ldc2 {i : Nat} {v : Int64} (hd : decode M.2.1 pc = .ok (.ldc2_w i, 3)) (hn : pc + 3 = pc') (hw : Cond.constantLong M.1.cls i v ∈ lw_tbl)
    (kk : jG E M n X Post pc' lv (.long v :: st) h) : jG E M n X Post pc lv (st) h := by
  intro p l e R s m args below meth c H locs cells slots Q ls hC hc1 hc2 hX hP hS hL hF
  subst hn
  exact lv_ldc2 hC.1 hC.2.1 hC.2.2.2.1 (hC.2.2.2.2.1 _ (jT_in hw rfl)) hd (kk p l e R s m args below meth c H locs cells slots Q ls hC hc1 hc2 hX hP hS hL hF)

theorem jr_ldcS {i : Nat} (hd : decode M.2.1 pc = .ok (.ldc (jSi i), 2)) (hn : pc + 2 = pc') (hi : i < 6) (ho : M.1.cls = "StiltHeralds$LandReader")
    (kk : jG E M n X Post pc' lv (.ref (2000 + i) :: st) h) : jG E M n X Post pc lv (st) h := by
  intro p l e R s m args below meth c H locs cells slots Q ls hC hc1 hc2 hX hP hS hL hF
  subst hn
  exact va_ldcS hC.1 hC.2.1 (own := "StiltHeralds$LandReader") (by rw [← ho]; exact hC.2.2.2.1) (hC.2.2.2.2.2.2.2.1.2.2.1 i hi) hd (kk p l e R s m args below meth c H locs cells slots Q ls hC hc1 hc2 hX hP hS hL hF)

theorem jr_iload_n {k : Fin 4} {i : Nat} {x : Int32} (hd : decode M.2.1 pc = .ok (.iload_n k, 1)) (hn : pc + 1 = pc') (hi : (k : Nat) = i) (hl : lv[i]? = some (some (.int x)))
    (kk : jG E M n X Post pc' lv (.int x :: st) h) : jG E M n X Post pc lv (st) h := by
  intro p l e R s m args below meth c H locs cells slots Q ls hC hc1 hc2 hX hP hS hL hF
  subst hn
  exact lv_iload_n hC.1 hC.2.1 hd hi (hL.2.2 _ _ hl) (kk p l e R s m args below meth c H locs cells slots Q ls hC hc1 hc2 hX hP hS hL hF)

theorem jr_iload {i : Nat} {x : Int32} (hd : decode M.2.1 pc = .ok (.iload i, 2)) (hn : pc + 2 = pc') (hl : lv[i]? = some (some (.int x)))
    (kk : jG E M n X Post pc' lv (.int x :: st) h) : jG E M n X Post pc lv (st) h := by
  intro p l e R s m args below meth c H locs cells slots Q ls hC hc1 hc2 hX hP hS hL hF
  subst hn
  exact lv_iload hC.1 hC.2.1 hd (hL.2.2 _ _ hl) (kk p l e R s m args below meth c H locs cells slots Q ls hC hc1 hc2 hX hP hS hL hF)

theorem jr_lload_n {k : Fin 4} {i : Nat} {x : Int64} (hd : decode M.2.1 pc = .ok (.lload_n k, 1)) (hn : pc + 1 = pc') (hi : (k : Nat) = i) (hl : lv[i]? = some (some (.long x)))
    (kk : jG E M n X Post pc' lv (.long x :: st) h) : jG E M n X Post pc lv (st) h := by
  intro p l e R s m args below meth c H locs cells slots Q ls hC hc1 hc2 hX hP hS hL hF
  subst hn
  exact lv_lload_n hC.1 hC.2.1 hd hi (hL.2.2 _ _ hl) (kk p l e R s m args below meth c H locs cells slots Q ls hC hc1 hc2 hX hP hS hL hF)

theorem jr_lload {i : Nat} {x : Int64} (hd : decode M.2.1 pc = .ok (.lload i, 2)) (hn : pc + 2 = pc') (hl : lv[i]? = some (some (.long x)))
    (kk : jG E M n X Post pc' lv (.long x :: st) h) : jG E M n X Post pc lv (st) h := by
  intro p l e R s m args below meth c H locs cells slots Q ls hC hc1 hc2 hX hP hS hL hF
  subst hn
  exact lv_lload hC.1 hC.2.1 hd (hL.2.2 _ _ hl) (kk p l e R s m args below meth c H locs cells slots Q ls hC hc1 hc2 hX hP hS hL hF)

theorem jr_aload_n {k : Fin 4} {i : Nat} {x : Nat} (hd : decode M.2.1 pc = .ok (.aload_n k, 1)) (hn : pc + 1 = pc') (hi : (k : Nat) = i) (hl : lv[i]? = some (some (.ref x)))
    (kk : jG E M n X Post pc' lv (.ref x :: st) h) : jG E M n X Post pc lv (st) h := by
  intro p l e R s m args below meth c H locs cells slots Q ls hC hc1 hc2 hX hP hS hL hF
  subst hn
  exact lv_aload_n hC.1 hC.2.1 hd hi (hL.2.2 _ _ hl) (kk p l e R s m args below meth c H locs cells slots Q ls hC hc1 hc2 hX hP hS hL hF)

theorem jr_aload {i : Nat} {x : Nat} (hd : decode M.2.1 pc = .ok (.aload i, 2)) (hn : pc + 2 = pc') (hl : lv[i]? = some (some (.ref x)))
    (kk : jG E M n X Post pc' lv (.ref x :: st) h) : jG E M n X Post pc lv (st) h := by
  intro p l e R s m args below meth c H locs cells slots Q ls hC hc1 hc2 hX hP hS hL hF
  subst hn
  exact lv_aload hC.1 hC.2.1 hd (hL.2.2 _ _ hl) (kk p l e R s m args below meth c H locs cells slots Q ls hC hc1 hc2 hX hP hS hL hF)

theorem jr_istore_n {k : Fin 4} {i : Nat} {x : Int32} (hd : decode M.2.1 pc = .ok (.istore_n k, 1)) (hn : pc + 1 = pc') (hi : (k : Nat) = i) (hb : i < M.2.2.1) (hl : jset lv i (.int x) = lv')
    (kk : jG E M n X Post pc' lv' st h) : jG E M n X Post pc lv (.int x :: st) h := by
  intro p l e R s m args below meth c H locs cells slots Q ls hC hc1 hc2 hX hP hS hL hF
  subst hn
  subst hl
  exact lv_istore_n hC.1 hC.2.1 hd hi hL.has hb rfl (fun ls2 hL2 => kk p l e R s m args below meth c H locs cells slots Q ls2 hC hc1 hc2 hX hP hS (jL.set1 (v := .int x) rfl hL2) hF)

theorem jr_istore {i : Nat} {x : Int32} (hd : decode M.2.1 pc = .ok (.istore i, 2)) (hn : pc + 2 = pc') (hb : i < M.2.2.1) (hl : jset lv i (.int x) = lv')
    (kk : jG E M n X Post pc' lv' st h) : jG E M n X Post pc lv (.int x :: st) h := by
  intro p l e R s m args below meth c H locs cells slots Q ls hC hc1 hc2 hX hP hS hL hF
  subst hn
  subst hl
  exact lv_istore hC.1 hC.2.1 hd hL.has hb rfl (fun ls2 hL2 => kk p l e R s m args below meth c H locs cells slots Q ls2 hC hc1 hc2 hX hP hS (jL.set1 (v := .int x) rfl hL2) hF)

theorem jr_lstore_n {k : Fin 4} {i : Nat} {x : Int64} (hd : decode M.2.1 pc = .ok (.lstore_n k, 1)) (hn : pc + 1 = pc') (hi : (k : Nat) = i) (hb : i + 1 < M.2.2.1) (hl : jset lv i (.long x) = lv')
    (kk : jG E M n X Post pc' lv' st h) : jG E M n X Post pc lv (.long x :: st) h := by
  intro p l e R s m args below meth c H locs cells slots Q ls hC hc1 hc2 hX hP hS hL hF
  subst hn
  subst hl
  exact lv_lstore_n hC.1 hC.2.1 hd hi hL.has hb rfl (fun ls2 hL2 => kk p l e R s m args below meth c H locs cells slots Q ls2 hC hc1 hc2 hX hP hS (jL.set2 (v := .long x) rfl hL2) hF)

theorem jr_lstore {i : Nat} {x : Int64} (hd : decode M.2.1 pc = .ok (.lstore i, 2)) (hn : pc + 2 = pc') (hb : i + 1 < M.2.2.1) (hl : jset lv i (.long x) = lv')
    (kk : jG E M n X Post pc' lv' st h) : jG E M n X Post pc lv (.long x :: st) h := by
  intro p l e R s m args below meth c H locs cells slots Q ls hC hc1 hc2 hX hP hS hL hF
  subst hn
  subst hl
  exact lv_lstore hC.1 hC.2.1 hd hL.has hb rfl (fun ls2 hL2 => kk p l e R s m args below meth c H locs cells slots Q ls2 hC hc1 hc2 hX hP hS (jL.set2 (v := .long x) rfl hL2) hF)

theorem jr_astore_n {k : Fin 4} {i : Nat} {x : Nat} (hd : decode M.2.1 pc = .ok (.astore_n k, 1)) (hn : pc + 1 = pc') (hi : (k : Nat) = i) (hb : i < M.2.2.1) (hl : jset lv i (.ref x) = lv')
    (kk : jG E M n X Post pc' lv' st h) : jG E M n X Post pc lv (.ref x :: st) h := by
  intro p l e R s m args below meth c H locs cells slots Q ls hC hc1 hc2 hX hP hS hL hF
  subst hn
  subst hl
  exact lv_astore_n hC.1 hC.2.1 hd hi hL.has hb rfl (fun ls2 hL2 => kk p l e R s m args below meth c H locs cells slots Q ls2 hC hc1 hc2 hX hP hS (jL.set1 (v := .ref x) rfl hL2) hF)

theorem jr_astore {i : Nat} {x : Nat} (hd : decode M.2.1 pc = .ok (.astore i, 2)) (hn : pc + 2 = pc') (hb : i < M.2.2.1) (hl : jset lv i (.ref x) = lv')
    (kk : jG E M n X Post pc' lv' st h) : jG E M n X Post pc lv (.ref x :: st) h := by
  intro p l e R s m args below meth c H locs cells slots Q ls hC hc1 hc2 hX hP hS hL hF
  subst hn
  subst hl
  exact lv_astore hC.1 hC.2.1 hd hL.has hb rfl (fun ls2 hL2 => kk p l e R s m args below meth c H locs cells slots Q ls2 hC hc1 hc2 hX hP hS (jL.set1 (v := .ref x) rfl hL2) hF)

theorem jr_iinc {i : Nat} {z : Int} {x v : Int32} (hd : decode M.2.1 pc = .ok (.iinc i z, 3)) (hn : pc + 3 = pc') (ho : lv[i]? = some (some (.int x))) (hv : x + Int32.ofInt z = v) (hb : i < M.2.2.1) (hl : jset lv i (.int v) = lv')
    (kk : jG E M n X Post pc' lv' st h) : jG E M n X Post pc lv st h := by
  intro p l e R s m args below meth c H locs cells slots Q ls hC hc1 hc2 hX hP hS hL hF
  subst hn
  subst hl
  obtain ⟨k, hk⟩ := List.getElem?_of_mem (jA_mem (E := E) ho)
  exact lv_iinc hC.1 hC.2.1 hd hL.has hk hv hb rfl (fun ls2 hL2 => kk p l e R s m args below meth c H locs cells slots Q ls2 hC hc1 hc2 hX hP hS (jL.set1 (v := .int v) rfl hL2) hF)

theorem jr_iadd {x y : Int32} (hd : decode M.2.1 pc = .ok (.iadd, 1)) (hn : pc + 1 = pc') 
    (kk : jG E M n X Post pc' lv (.int (x + y) :: st) h) : jG E M n X Post pc lv (.int y :: .int x :: st) h := by
  intro p l e R s m args below meth c H locs cells slots Q ls hC hc1 hc2 hX hP hS hL hF
  subst hn
  exact lv_iadd hC.1 hC.2.1 hd (kk p l e R s m args below meth c H locs cells slots Q ls hC hc1 hc2 hX hP hS hL hF)

theorem jr_isub {x y : Int32} (hd : decode M.2.1 pc = .ok (.isub, 1)) (hn : pc + 1 = pc') 
    (kk : jG E M n X Post pc' lv (.int (x - y) :: st) h) : jG E M n X Post pc lv (.int y :: .int x :: st) h := by
  intro p l e R s m args below meth c H locs cells slots Q ls hC hc1 hc2 hX hP hS hL hF
  subst hn
  exact lv_isub hC.1 hC.2.1 hd (kk p l e R s m args below meth c H locs cells slots Q ls hC hc1 hc2 hX hP hS hL hF)

theorem jr_imul {x y : Int32} (hd : decode M.2.1 pc = .ok (.imul, 1)) (hn : pc + 1 = pc') 
    (kk : jG E M n X Post pc' lv (.int (x * y) :: st) h) : jG E M n X Post pc lv (.int y :: .int x :: st) h := by
  intro p l e R s m args below meth c H locs cells slots Q ls hC hc1 hc2 hX hP hS hL hF
  subst hn
  exact lv_imul hC.1 hC.2.1 hd (kk p l e R s m args below meth c H locs cells slots Q ls hC hc1 hc2 hX hP hS hL hF)

theorem jr_iand {x y : Int32} (hd : decode M.2.1 pc = .ok (.iand, 1)) (hn : pc + 1 = pc') 
    (kk : jG E M n X Post pc' lv (.int (x &&& y) :: st) h) : jG E M n X Post pc lv (.int y :: .int x :: st) h := by
  intro p l e R s m args below meth c H locs cells slots Q ls hC hc1 hc2 hX hP hS hL hF
  subst hn
  exact lv_iand hC.1 hC.2.1 hd (kk p l e R s m args below meth c H locs cells slots Q ls hC hc1 hc2 hX hP hS hL hF)

theorem jr_ior {x y : Int32} (hd : decode M.2.1 pc = .ok (.ior, 1)) (hn : pc + 1 = pc') 
    (kk : jG E M n X Post pc' lv (.int (x ||| y) :: st) h) : jG E M n X Post pc lv (.int y :: .int x :: st) h := by
  intro p l e R s m args below meth c H locs cells slots Q ls hC hc1 hc2 hX hP hS hL hF
  subst hn
  exact lv_ior hC.1 hC.2.1 hd (kk p l e R s m args below meth c H locs cells slots Q ls hC hc1 hc2 hX hP hS hL hF)

theorem jr_ladd {x y : Int64} (hd : decode M.2.1 pc = .ok (.ladd, 1)) (hn : pc + 1 = pc') 
    (kk : jG E M n X Post pc' lv (.long (x + y) :: st) h) : jG E M n X Post pc lv (.long y :: .long x :: st) h := by
  intro p l e R s m args below meth c H locs cells slots Q ls hC hc1 hc2 hX hP hS hL hF
  subst hn
  exact lv_ladd hC.1 hC.2.1 hd (kk p l e R s m args below meth c H locs cells slots Q ls hC hc1 hc2 hX hP hS hL hF)

theorem jr_lsub {x y : Int64} (hd : decode M.2.1 pc = .ok (.lsub, 1)) (hn : pc + 1 = pc') 
    (kk : jG E M n X Post pc' lv (.long (x - y) :: st) h) : jG E M n X Post pc lv (.long y :: .long x :: st) h := by
  intro p l e R s m args below meth c H locs cells slots Q ls hC hc1 hc2 hX hP hS hL hF
  subst hn
  exact lv_lsub hC.1 hC.2.1 hd (kk p l e R s m args below meth c H locs cells slots Q ls hC hc1 hc2 hX hP hS hL hF)

theorem jr_lmul {x y : Int64} (hd : decode M.2.1 pc = .ok (.lmul, 1)) (hn : pc + 1 = pc') 
    (kk : jG E M n X Post pc' lv (.long (x * y) :: st) h) : jG E M n X Post pc lv (.long y :: .long x :: st) h := by
  intro p l e R s m args below meth c H locs cells slots Q ls hC hc1 hc2 hX hP hS hL hF
  subst hn
  exact lv_lmul hC.1 hC.2.1 hd (kk p l e R s m args below meth c H locs cells slots Q ls hC hc1 hc2 hX hP hS hL hF)

theorem jr_land {x y : Int64} (hd : decode M.2.1 pc = .ok (.land, 1)) (hn : pc + 1 = pc') 
    (kk : jG E M n X Post pc' lv (.long (x &&& y) :: st) h) : jG E M n X Post pc lv (.long y :: .long x :: st) h := by
  intro p l e R s m args below meth c H locs cells slots Q ls hC hc1 hc2 hX hP hS hL hF
  subst hn
  exact lv_land hC.1 hC.2.1 hd (kk p l e R s m args below meth c H locs cells slots Q ls hC hc1 hc2 hX hP hS hL hF)

theorem jr_lor {x y : Int64} (hd : decode M.2.1 pc = .ok (.lor, 1)) (hn : pc + 1 = pc') 
    (kk : jG E M n X Post pc' lv (.long (x ||| y) :: st) h) : jG E M n X Post pc lv (.long y :: .long x :: st) h := by
  intro p l e R s m args below meth c H locs cells slots Q ls hC hc1 hc2 hX hP hS hL hF
  subst hn
  exact lv_lor hC.1 hC.2.1 hd (kk p l e R s m args below meth c H locs cells slots Q ls hC hc1 hc2 hX hP hS hL hF)

theorem jr_lxor {x y : Int64} (hd : decode M.2.1 pc = .ok (.lxor, 1)) (hn : pc + 1 = pc') 
    (kk : jG E M n X Post pc' lv (.long (x ^^^ y) :: st) h) : jG E M n X Post pc lv (.long y :: .long x :: st) h := by
  intro p l e R s m args below meth c H locs cells slots Q ls hC hc1 hc2 hX hP hS hL hF
  subst hn
  exact lv_lxor hC.1 hC.2.1 hd (kk p l e R s m args below meth c H locs cells slots Q ls hC hc1 hc2 hX hP hS hL hF)

theorem jr_idiv {x y : Int32} (hd : decode M.2.1 pc = .ok (.idiv, 1)) (hn : pc + 1 = pc') (hne : ¬ y = 0)
    (kk : jG E M n X Post pc' lv (.int (x / y) :: st) h) : jG E M n X Post pc lv (.int y :: .int x :: st) h := by
  intro p l e R s m args below meth c H locs cells slots Q ls hC hc1 hc2 hX hP hS hL hF
  subst hn
  exact lv_idiv hC.1 hC.2.1 hd hne (kk p l e R s m args below meth c H locs cells slots Q ls hC hc1 hc2 hX hP hS hL hF)

theorem jr_irem {x y : Int32} (hd : decode M.2.1 pc = .ok (.irem, 1)) (hn : pc + 1 = pc') (hne : ¬ y = 0)
    (kk : jG E M n X Post pc' lv (.int (x - x / y * y) :: st) h) : jG E M n X Post pc lv (.int y :: .int x :: st) h := by
  intro p l e R s m args below meth c H locs cells slots Q ls hC hc1 hc2 hX hP hS hL hF
  subst hn
  exact lv_irem hC.1 hC.2.1 hd hne (kk p l e R s m args below meth c H locs cells slots Q ls hC hc1 hc2 hX hP hS hL hF)

theorem jr_lrem {x y : Int64} (hd : decode M.2.1 pc = .ok (.lrem, 1)) (hn : pc + 1 = pc') (hne : ¬ y = 0)
    (kk : jG E M n X Post pc' lv (.long (x - x / y * y) :: st) h) : jG E M n X Post pc lv (.long y :: .long x :: st) h := by
  intro p l e R s m args below meth c H locs cells slots Q ls hC hc1 hc2 hX hP hS hL hF
  subst hn
  exact lv_lrem hC.1 hC.2.1 hd hne (kk p l e R s m args below meth c H locs cells slots Q ls hC hc1 hc2 hX hP hS hL hF)

theorem jr_ishl {x y : Int32} (hd : decode M.2.1 pc = .ok (.ishl, 1)) (hn : pc + 1 = pc') 
    (kk : jG E M n X Post pc' lv (.int (x <<< (y &&& 31)) :: st) h) : jG E M n X Post pc lv (.int y :: .int x :: st) h := by
  intro p l e R s m args below meth c H locs cells slots Q ls hC hc1 hc2 hX hP hS hL hF
  subst hn
  exact lv_ishl hC.1 hC.2.1 hd (kk p l e R s m args below meth c H locs cells slots Q ls hC hc1 hc2 hX hP hS hL hF)

theorem jr_ishr {x y : Int32} (hd : decode M.2.1 pc = .ok (.ishr, 1)) (hn : pc + 1 = pc') 
    (kk : jG E M n X Post pc' lv (.int (x >>> (y &&& 31)) :: st) h) : jG E M n X Post pc lv (.int y :: .int x :: st) h := by
  intro p l e R s m args below meth c H locs cells slots Q ls hC hc1 hc2 hX hP hS hL hF
  subst hn
  exact lv_ishr hC.1 hC.2.1 hd (kk p l e R s m args below meth c H locs cells slots Q ls hC hc1 hc2 hX hP hS hL hF)

theorem jr_lshl {x : Int64} {y : Int32} (hd : decode M.2.1 pc = .ok (.lshl, 1)) (hn : pc + 1 = pc') 
    (kk : jG E M n X Post pc' lv (.long (x <<< (y.toInt64 &&& 63)) :: st) h) : jG E M n X Post pc lv (.int y :: .long x :: st) h := by
  intro p l e R s m args below meth c H locs cells slots Q ls hC hc1 hc2 hX hP hS hL hF
  subst hn
  exact lv_lshl hC.1 hC.2.1 hd rfl (kk p l e R s m args below meth c H locs cells slots Q ls hC hc1 hc2 hX hP hS hL hF)

theorem jr_lshr {x : Int64} {y : Int32} (hd : decode M.2.1 pc = .ok (.lshr, 1)) (hn : pc + 1 = pc') 
    (kk : jG E M n X Post pc' lv (.long (x >>> (y.toInt64 &&& 63)) :: st) h) : jG E M n X Post pc lv (.int y :: .long x :: st) h := by
  intro p l e R s m args below meth c H locs cells slots Q ls hC hc1 hc2 hX hP hS hL hF
  subst hn
  exact lv_lshr hC.1 hC.2.1 hd rfl (kk p l e R s m args below meth c H locs cells slots Q ls hC hc1 hc2 hX hP hS hL hF)

theorem jr_lushr {x : Int64} {y : Int32} (hd : decode M.2.1 pc = .ok (.lushr, 1)) (hn : pc + 1 = pc') 
    (kk : jG E M n X Post pc' lv (.long (x.toUInt64 >>> (y.toInt64.toUInt64 &&& Int64.toUInt64 63)).toInt64 :: st) h) : jG E M n X Post pc lv (.int y :: .long x :: st) h := by
  intro p l e R s m args below meth c H locs cells slots Q ls hC hc1 hc2 hX hP hS hL hF
  subst hn
  exact lv_lushr hC.1 hC.2.1 hd rfl (kk p l e R s m args below meth c H locs cells slots Q ls hC hc1 hc2 hX hP hS hL hF)

theorem jr_i2l {x : Int32} (hd : decode M.2.1 pc = .ok (.i2l, 1)) (hn : pc + 1 = pc') 
    (kk : jG E M n X Post pc' lv (.long x.toInt64 :: st) h) : jG E M n X Post pc lv (.int x :: st) h := by
  intro p l e R s m args below meth c H locs cells slots Q ls hC hc1 hc2 hX hP hS hL hF
  subst hn
  exact lv_i2l hC.1 hC.2.1 hd rfl (kk p l e R s m args below meth c H locs cells slots Q ls hC hc1 hc2 hX hP hS hL hF)

theorem jr_l2i {x : Int64} (hd : decode M.2.1 pc = .ok (.l2i, 1)) (hn : pc + 1 = pc') 
    (kk : jG E M n X Post pc' lv (.int x.toInt32 :: st) h) : jG E M n X Post pc lv (.long x :: st) h := by
  intro p l e R s m args below meth c H locs cells slots Q ls hC hc1 hc2 hX hP hS hL hF
  subst hn
  exact lv_l2i hC.1 hC.2.1 hd rfl (kk p l e R s m args below meth c H locs cells slots Q ls hC hc1 hc2 hX hP hS hL hF)

theorem jr_i2b {x : Int32} (hd : decode M.2.1 pc = .ok (.i2b, 1)) (hn : pc + 1 = pc') 
    (kk : jG E M n X Post pc' lv (.int x.toInt8.toInt32 :: st) h) : jG E M n X Post pc lv (.int x :: st) h := by
  intro p l e R s m args below meth c H locs cells slots Q ls hC hc1 hc2 hX hP hS hL hF
  subst hn
  exact lv_i2b hC.1 hC.2.1 hd rfl (kk p l e R s m args below meth c H locs cells slots Q ls hC hc1 hc2 hX hP hS hL hF)

theorem jr_lcmp {x y : Int64} (hd : decode M.2.1 pc = .ok (.lcmp, 1)) (hn : pc + 1 = pc') 
    (kk : jG E M n X Post pc' lv (.int (lg_cmp x y) :: st) h) : jG E M n X Post pc lv (.long y :: .long x :: st) h := by
  intro p l e R s m args below meth c H locs cells slots Q ls hC hc1 hc2 hX hP hS hL hF
  subst hn
  exact W.lcmp hC.1 hC.2.1 hd (kk p l e R s m args below meth c H locs cells slots Q ls hC hc1 hc2 hX hP hS hL hF)

theorem jr_dup {v : Value} (hd : decode M.2.1 pc = .ok (.dup, 1)) (hn : pc + 1 = pc') (hc : v.category = 1)
    (kk : jG E M n X Post pc' lv (v :: v :: st) h) : jG E M n X Post pc lv (v :: st) h := by
  intro p l e R s m args below meth c H locs cells slots Q ls hC hc1 hc2 hX hP hS hL hF
  subst hn
  exact lv_dup hC.1 hC.2.1 hd ((jV_cat E v).trans hc) (kk p l e R s m args below meth c H locs cells slots Q ls hC hc1 hc2 hX hP hS hL hF)

theorem jr_dup2 {v w : Value} (hd : decode M.2.1 pc = .ok (.dup2, 1)) (hn : pc + 1 = pc') (hc : v.category = 1) (hq : w.category = 1)
    (kk : jG E M n X Post pc' lv (v :: w :: v :: w :: st) h) : jG E M n X Post pc lv (v :: w :: st) h := by
  intro p l e R s m args below meth c H locs cells slots Q ls hC hc1 hc2 hX hP hS hL hF
  subst hn
  exact lv_dup2_11 hC.1 hC.2.1 hd ((jV_cat E v).trans hc) ((jV_cat E w).trans hq) (kk p l e R s m args below meth c H locs cells slots Q ls hC hc1 hc2 hX hP hS hL hF)

theorem jr_pop {v : Value} (hd : decode M.2.1 pc = .ok (.pop, 1)) (hn : pc + 1 = pc') (hc : v.category = 1)
    (kk : jG E M n X Post pc' lv (st) h) : jG E M n X Post pc lv (v :: st) h := by
  intro p l e R s m args below meth c H locs cells slots Q ls hC hc1 hc2 hX hP hS hL hF
  subst hn
  exact lv_pop hC.1 hC.2.1 hd ((jV_cat E v).trans hc) (kk p l e R s m args below meth c H locs cells slots Q ls hC hc1 hc2 hX hP hS hL hF)

theorem jr_if_eqT {x : Int32} {off : Int} (hd : decode M.2.1 pc = .ok (.ifCond .eq off, 3)) (ht : (pc : Int) + off = (pc' : Int)) (hc : x = 0)
    (kk : jG E M n X Post pc' lv st h) : jG E M n X Post pc lv (.int x :: st) h := by
  intro p l e R s m args below meth c H locs cells slots Q ls hC hc1 hc2 hX hP hS hL hF
  exact lv_if_eq hC.1 hC.2.1 hd ht (fun _ => kk p l e R s m args below meth c H locs cells slots Q ls hC hc1 hc2 hX hP hS hL hF) (fun q => absurd hc q)

theorem jr_if_eqF {x : Int32} {off : Int} (hd : decode M.2.1 pc = .ok (.ifCond .eq off, 3)) (hn : pc + 3 = pc') {tgt : Nat} (ht : (pc : Int) + off = (tgt : Int)) (hc : ¬ x = 0)
    (kk : jG E M n X Post pc' lv st h) : jG E M n X Post pc lv (.int x :: st) h := by
  intro p l e R s m args below meth c H locs cells slots Q ls hC hc1 hc2 hX hP hS hL hF
  subst hn
  exact lv_if_eq hC.1 hC.2.1 hd ht (fun q => absurd q hc) (fun _ => kk p l e R s m args below meth c H locs cells slots Q ls hC hc1 hc2 hX hP hS hL hF)

theorem jr_icmp_eqT {x y : Int32} {off : Int} (hd : decode M.2.1 pc = .ok (.if_icmp .eq off, 3)) (ht : (pc : Int) + off = (pc' : Int)) (hc : x = y)
    (kk : jG E M n X Post pc' lv st h) : jG E M n X Post pc lv (.int y :: .int x :: st) h := by
  intro p l e R s m args below meth c H locs cells slots Q ls hC hc1 hc2 hX hP hS hL hF
  exact lv_icmp_eq hC.1 hC.2.1 hd ht (fun _ => kk p l e R s m args below meth c H locs cells slots Q ls hC hc1 hc2 hX hP hS hL hF) (fun q => absurd hc q)

theorem jr_icmp_eqF {x y : Int32} {off : Int} (hd : decode M.2.1 pc = .ok (.if_icmp .eq off, 3)) (hn : pc + 3 = pc') {tgt : Nat} (ht : (pc : Int) + off = (tgt : Int)) (hc : ¬ x = y)
    (kk : jG E M n X Post pc' lv st h) : jG E M n X Post pc lv (.int y :: .int x :: st) h := by
  intro p l e R s m args below meth c H locs cells slots Q ls hC hc1 hc2 hX hP hS hL hF
  subst hn
  exact lv_icmp_eq hC.1 hC.2.1 hd ht (fun q => absurd q hc) (fun _ => kk p l e R s m args below meth c H locs cells slots Q ls hC hc1 hc2 hX hP hS hL hF)

theorem jr_if_neT {x : Int32} {off : Int} (hd : decode M.2.1 pc = .ok (.ifCond .ne off, 3)) (ht : (pc : Int) + off = (pc' : Int)) (hc : ¬ x = 0)
    (kk : jG E M n X Post pc' lv st h) : jG E M n X Post pc lv (.int x :: st) h := by
  intro p l e R s m args below meth c H locs cells slots Q ls hC hc1 hc2 hX hP hS hL hF
  exact lv_if_ne hC.1 hC.2.1 hd ht (fun _ => kk p l e R s m args below meth c H locs cells slots Q ls hC hc1 hc2 hX hP hS hL hF) (fun q => absurd q hc)

theorem jr_if_neF {x : Int32} {off : Int} (hd : decode M.2.1 pc = .ok (.ifCond .ne off, 3)) (hn : pc + 3 = pc') {tgt : Nat} (ht : (pc : Int) + off = (tgt : Int)) (hc : x = 0)
    (kk : jG E M n X Post pc' lv st h) : jG E M n X Post pc lv (.int x :: st) h := by
  intro p l e R s m args below meth c H locs cells slots Q ls hC hc1 hc2 hX hP hS hL hF
  subst hn
  exact lv_if_ne hC.1 hC.2.1 hd ht (fun q => absurd hc q) (fun _ => kk p l e R s m args below meth c H locs cells slots Q ls hC hc1 hc2 hX hP hS hL hF)

theorem jr_icmp_neT {x y : Int32} {off : Int} (hd : decode M.2.1 pc = .ok (.if_icmp .ne off, 3)) (ht : (pc : Int) + off = (pc' : Int)) (hc : ¬ x = y)
    (kk : jG E M n X Post pc' lv st h) : jG E M n X Post pc lv (.int y :: .int x :: st) h := by
  intro p l e R s m args below meth c H locs cells slots Q ls hC hc1 hc2 hX hP hS hL hF
  exact lv_icmp_ne hC.1 hC.2.1 hd ht (fun _ => kk p l e R s m args below meth c H locs cells slots Q ls hC hc1 hc2 hX hP hS hL hF) (fun q => absurd q hc)

theorem jr_icmp_neF {x y : Int32} {off : Int} (hd : decode M.2.1 pc = .ok (.if_icmp .ne off, 3)) (hn : pc + 3 = pc') {tgt : Nat} (ht : (pc : Int) + off = (tgt : Int)) (hc : x = y)
    (kk : jG E M n X Post pc' lv st h) : jG E M n X Post pc lv (.int y :: .int x :: st) h := by
  intro p l e R s m args below meth c H locs cells slots Q ls hC hc1 hc2 hX hP hS hL hF
  subst hn
  exact lv_icmp_ne hC.1 hC.2.1 hd ht (fun q => absurd hc q) (fun _ => kk p l e R s m args below meth c H locs cells slots Q ls hC hc1 hc2 hX hP hS hL hF)

theorem jr_if_ltT {x : Int32} {off : Int} (hd : decode M.2.1 pc = .ok (.ifCond .lt off, 3)) (ht : (pc : Int) + off = (pc' : Int)) (hc : x < 0)
    (kk : jG E M n X Post pc' lv st h) : jG E M n X Post pc lv (.int x :: st) h := by
  intro p l e R s m args below meth c H locs cells slots Q ls hC hc1 hc2 hX hP hS hL hF
  exact lv_if_lt hC.1 hC.2.1 hd ht (fun _ => kk p l e R s m args below meth c H locs cells slots Q ls hC hc1 hc2 hX hP hS hL hF) (fun q => absurd hc q)

theorem jr_if_ltF {x : Int32} {off : Int} (hd : decode M.2.1 pc = .ok (.ifCond .lt off, 3)) (hn : pc + 3 = pc') {tgt : Nat} (ht : (pc : Int) + off = (tgt : Int)) (hc : ¬ x < 0)
    (kk : jG E M n X Post pc' lv st h) : jG E M n X Post pc lv (.int x :: st) h := by
  intro p l e R s m args below meth c H locs cells slots Q ls hC hc1 hc2 hX hP hS hL hF
  subst hn
  exact lv_if_lt hC.1 hC.2.1 hd ht (fun q => absurd q hc) (fun _ => kk p l e R s m args below meth c H locs cells slots Q ls hC hc1 hc2 hX hP hS hL hF)

theorem jr_icmp_ltT {x y : Int32} {off : Int} (hd : decode M.2.1 pc = .ok (.if_icmp .lt off, 3)) (ht : (pc : Int) + off = (pc' : Int)) (hc : x < y)
    (kk : jG E M n X Post pc' lv st h) : jG E M n X Post pc lv (.int y :: .int x :: st) h := by
  intro p l e R s m args below meth c H locs cells slots Q ls hC hc1 hc2 hX hP hS hL hF
  exact lv_icmp_lt hC.1 hC.2.1 hd ht (fun _ => kk p l e R s m args below meth c H locs cells slots Q ls hC hc1 hc2 hX hP hS hL hF) (fun q => absurd hc q)

theorem jr_icmp_ltF {x y : Int32} {off : Int} (hd : decode M.2.1 pc = .ok (.if_icmp .lt off, 3)) (hn : pc + 3 = pc') {tgt : Nat} (ht : (pc : Int) + off = (tgt : Int)) (hc : ¬ x < y)
    (kk : jG E M n X Post pc' lv st h) : jG E M n X Post pc lv (.int y :: .int x :: st) h := by
  intro p l e R s m args below meth c H locs cells slots Q ls hC hc1 hc2 hX hP hS hL hF
  subst hn
  exact lv_icmp_lt hC.1 hC.2.1 hd ht (fun q => absurd q hc) (fun _ => kk p l e R s m args below meth c H locs cells slots Q ls hC hc1 hc2 hX hP hS hL hF)

theorem jr_if_geT {x : Int32} {off : Int} (hd : decode M.2.1 pc = .ok (.ifCond .ge off, 3)) (ht : (pc : Int) + off = (pc' : Int)) (hc : 0 ≤ x)
    (kk : jG E M n X Post pc' lv st h) : jG E M n X Post pc lv (.int x :: st) h := by
  intro p l e R s m args below meth c H locs cells slots Q ls hC hc1 hc2 hX hP hS hL hF
  exact lv_if_ge hC.1 hC.2.1 hd ht (fun _ => kk p l e R s m args below meth c H locs cells slots Q ls hC hc1 hc2 hX hP hS hL hF) (fun q => absurd hc q)

theorem jr_if_geF {x : Int32} {off : Int} (hd : decode M.2.1 pc = .ok (.ifCond .ge off, 3)) (hn : pc + 3 = pc') {tgt : Nat} (ht : (pc : Int) + off = (tgt : Int)) (hc : ¬ 0 ≤ x)
    (kk : jG E M n X Post pc' lv st h) : jG E M n X Post pc lv (.int x :: st) h := by
  intro p l e R s m args below meth c H locs cells slots Q ls hC hc1 hc2 hX hP hS hL hF
  subst hn
  exact lv_if_ge hC.1 hC.2.1 hd ht (fun q => absurd q hc) (fun _ => kk p l e R s m args below meth c H locs cells slots Q ls hC hc1 hc2 hX hP hS hL hF)

theorem jr_icmp_geT {x y : Int32} {off : Int} (hd : decode M.2.1 pc = .ok (.if_icmp .ge off, 3)) (ht : (pc : Int) + off = (pc' : Int)) (hc : y ≤ x)
    (kk : jG E M n X Post pc' lv st h) : jG E M n X Post pc lv (.int y :: .int x :: st) h := by
  intro p l e R s m args below meth c H locs cells slots Q ls hC hc1 hc2 hX hP hS hL hF
  exact lv_icmp_ge hC.1 hC.2.1 hd ht (fun _ => kk p l e R s m args below meth c H locs cells slots Q ls hC hc1 hc2 hX hP hS hL hF) (fun q => absurd hc q)

theorem jr_icmp_geF {x y : Int32} {off : Int} (hd : decode M.2.1 pc = .ok (.if_icmp .ge off, 3)) (hn : pc + 3 = pc') {tgt : Nat} (ht : (pc : Int) + off = (tgt : Int)) (hc : ¬ y ≤ x)
    (kk : jG E M n X Post pc' lv st h) : jG E M n X Post pc lv (.int y :: .int x :: st) h := by
  intro p l e R s m args below meth c H locs cells slots Q ls hC hc1 hc2 hX hP hS hL hF
  subst hn
  exact lv_icmp_ge hC.1 hC.2.1 hd ht (fun q => absurd q hc) (fun _ => kk p l e R s m args below meth c H locs cells slots Q ls hC hc1 hc2 hX hP hS hL hF)

theorem jr_if_gtT {x : Int32} {off : Int} (hd : decode M.2.1 pc = .ok (.ifCond .gt off, 3)) (ht : (pc : Int) + off = (pc' : Int)) (hc : 0 < x)
    (kk : jG E M n X Post pc' lv st h) : jG E M n X Post pc lv (.int x :: st) h := by
  intro p l e R s m args below meth c H locs cells slots Q ls hC hc1 hc2 hX hP hS hL hF
  exact lv_if_gt hC.1 hC.2.1 hd ht (fun _ => kk p l e R s m args below meth c H locs cells slots Q ls hC hc1 hc2 hX hP hS hL hF) (fun q => absurd hc q)

theorem jr_if_gtF {x : Int32} {off : Int} (hd : decode M.2.1 pc = .ok (.ifCond .gt off, 3)) (hn : pc + 3 = pc') {tgt : Nat} (ht : (pc : Int) + off = (tgt : Int)) (hc : ¬ 0 < x)
    (kk : jG E M n X Post pc' lv st h) : jG E M n X Post pc lv (.int x :: st) h := by
  intro p l e R s m args below meth c H locs cells slots Q ls hC hc1 hc2 hX hP hS hL hF
  subst hn
  exact lv_if_gt hC.1 hC.2.1 hd ht (fun q => absurd q hc) (fun _ => kk p l e R s m args below meth c H locs cells slots Q ls hC hc1 hc2 hX hP hS hL hF)

theorem jr_icmp_gtT {x y : Int32} {off : Int} (hd : decode M.2.1 pc = .ok (.if_icmp .gt off, 3)) (ht : (pc : Int) + off = (pc' : Int)) (hc : y < x)
    (kk : jG E M n X Post pc' lv st h) : jG E M n X Post pc lv (.int y :: .int x :: st) h := by
  intro p l e R s m args below meth c H locs cells slots Q ls hC hc1 hc2 hX hP hS hL hF
  exact lv_icmp_gt hC.1 hC.2.1 hd ht (fun _ => kk p l e R s m args below meth c H locs cells slots Q ls hC hc1 hc2 hX hP hS hL hF) (fun q => absurd hc q)

theorem jr_icmp_gtF {x y : Int32} {off : Int} (hd : decode M.2.1 pc = .ok (.if_icmp .gt off, 3)) (hn : pc + 3 = pc') {tgt : Nat} (ht : (pc : Int) + off = (tgt : Int)) (hc : ¬ y < x)
    (kk : jG E M n X Post pc' lv st h) : jG E M n X Post pc lv (.int y :: .int x :: st) h := by
  intro p l e R s m args below meth c H locs cells slots Q ls hC hc1 hc2 hX hP hS hL hF
  subst hn
  exact lv_icmp_gt hC.1 hC.2.1 hd ht (fun q => absurd q hc) (fun _ => kk p l e R s m args below meth c H locs cells slots Q ls hC hc1 hc2 hX hP hS hL hF)

theorem jr_if_leT {x : Int32} {off : Int} (hd : decode M.2.1 pc = .ok (.ifCond .le off, 3)) (ht : (pc : Int) + off = (pc' : Int)) (hc : x ≤ 0)
    (kk : jG E M n X Post pc' lv st h) : jG E M n X Post pc lv (.int x :: st) h := by
  intro p l e R s m args below meth c H locs cells slots Q ls hC hc1 hc2 hX hP hS hL hF
  exact lv_if_le hC.1 hC.2.1 hd ht (fun _ => kk p l e R s m args below meth c H locs cells slots Q ls hC hc1 hc2 hX hP hS hL hF) (fun q => absurd hc q)

theorem jr_if_leF {x : Int32} {off : Int} (hd : decode M.2.1 pc = .ok (.ifCond .le off, 3)) (hn : pc + 3 = pc') {tgt : Nat} (ht : (pc : Int) + off = (tgt : Int)) (hc : ¬ x ≤ 0)
    (kk : jG E M n X Post pc' lv st h) : jG E M n X Post pc lv (.int x :: st) h := by
  intro p l e R s m args below meth c H locs cells slots Q ls hC hc1 hc2 hX hP hS hL hF
  subst hn
  exact lv_if_le hC.1 hC.2.1 hd ht (fun q => absurd q hc) (fun _ => kk p l e R s m args below meth c H locs cells slots Q ls hC hc1 hc2 hX hP hS hL hF)

theorem jr_icmp_leT {x y : Int32} {off : Int} (hd : decode M.2.1 pc = .ok (.if_icmp .le off, 3)) (ht : (pc : Int) + off = (pc' : Int)) (hc : x ≤ y)
    (kk : jG E M n X Post pc' lv st h) : jG E M n X Post pc lv (.int y :: .int x :: st) h := by
  intro p l e R s m args below meth c H locs cells slots Q ls hC hc1 hc2 hX hP hS hL hF
  exact lv_icmp_le hC.1 hC.2.1 hd ht (fun _ => kk p l e R s m args below meth c H locs cells slots Q ls hC hc1 hc2 hX hP hS hL hF) (fun q => absurd hc q)

theorem jr_icmp_leF {x y : Int32} {off : Int} (hd : decode M.2.1 pc = .ok (.if_icmp .le off, 3)) (hn : pc + 3 = pc') {tgt : Nat} (ht : (pc : Int) + off = (tgt : Int)) (hc : ¬ x ≤ y)
    (kk : jG E M n X Post pc' lv st h) : jG E M n X Post pc lv (.int y :: .int x :: st) h := by
  intro p l e R s m args below meth c H locs cells slots Q ls hC hc1 hc2 hX hP hS hL hF
  subst hn
  exact lv_icmp_le hC.1 hC.2.1 hd ht (fun q => absurd q hc) (fun _ => kk p l e R s m args below meth c H locs cells slots Q ls hC hc1 hc2 hX hP hS hL hF)

theorem jr_goto {off : Int} (hd : decode M.2.1 pc = .ok (.goto off, 3)) (ht : (pc : Int) + off = (pc' : Int))
    (kk : jG E M n X Post pc' lv st h) : jG E M n X Post pc lv st h := by
  intro p l e R s m args below meth c H locs cells slots Q ls hC hc1 hc2 hX hP hS hL hF
  exact lv_goto hC.1 hC.2.1 hd ht (kk p l e R s m args below meth c H locs cells slots Q ls hC hc1 hc2 hX hP hS hL hF)

theorem jr_tabIn {dflt lo hi : Int} {offs : Array Int} {len : Nat} {x : Int32} {off : Int} (hd : decode M.2.1 pc = .ok (.tableswitch dflt lo hi offs, len)) (h1 : ¬ x.toInt < lo) (h2 : ¬ hi < x.toInt) (ho : offs[(x.toInt - lo).toNat]? = some off) (ht : (pc : Int) + off = (pc' : Int))
    (kk : jG E M n X Post pc' lv st h) : jG E M n X Post pc lv (.int x :: st) h := by
  intro p l e R s m args below meth c H locs cells slots Q ls hC hc1 hc2 hX hP hS hL hF
  exact lv_tableIn hC.1 hC.2.1 hd h1 h2 ho ht (kk p l e R s m args below meth c H locs cells slots Q ls hC hc1 hc2 hX hP hS hL hF)

theorem jr_tabOut {dflt lo hi : Int} {offs : Array Int} {len : Nat} {x : Int32} (hd : decode M.2.1 pc = .ok (.tableswitch dflt lo hi offs, len)) (h1 : x.toInt < lo ∨ hi < x.toInt) (ht : (pc : Int) + dflt = (pc' : Int))
    (kk : jG E M n X Post pc' lv st h) : jG E M n X Post pc lv (.int x :: st) h := by
  intro p l e R s m args below meth c H locs cells slots Q ls hC hc1 hc2 hX hP hS hL hF
  exact lv_tableOut hC.1 hC.2.1 hd h1 ht (kk p l e R s m args below meth c H locs cells slots Q ls hC hc1 hc2 hX hP hS hL hF)

theorem jr_iret {x : Int32} {ty : FieldType} (hd : decode M.2.1 pc = .ok (.ireturn, 1)) (hr : M.2.2.2 = some ty) (hw : narrow ty (.int x) = .int x) (hp : Post (some (.int x)) h) : jG E M n X Post pc lv [.int x] h := by
  intro p l e R s m args below meth c H locs cells slots Q ls hC hc1 hc2 hX hP hS hL hF
  exact hF pc ls (some (.int x)) h H locs (Or.inl ⟨hd, x, ty, rfl, hr, hw⟩) hp hP hS

theorem jr_lret {x : Int64} (hd : decode M.2.1 pc = .ok (.lreturn, 1)) (hr : M.2.2.2 = some .long) (hp : Post (some (.long x)) h) : jG E M n X Post pc lv [.long x] h := by
  intro p l e R s m args below meth c H locs cells slots Q ls hC hc1 hc2 hX hP hS hL hF
  exact hF pc ls (some (.long x)) h H locs (Or.inr (Or.inl ⟨hd, hr, x, rfl⟩)) hp hP hS

theorem jr_vret (hd : decode M.2.1 pc = .ok (.return_, 1)) (hr : M.2.2.2 = none) (hp : Post none h) : jG E M n X Post pc lv [] h := by
  intro p l e R s m args below meth c H locs cells slots Q ls hC hc1 hc2 hX hP hS hL hF
  exact hF pc ls none h H locs (Or.inr (Or.inr ⟨hd, hr, rfl⟩)) hp hP hS

end JG
