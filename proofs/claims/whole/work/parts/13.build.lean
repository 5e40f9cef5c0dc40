/-! ===== the constructors: a world that grows ===== -/
def jBs (D : va_G) (dA : Nat → ClassId) (U : State) : Prop := va_K D vwCl (jTys dA) U ∧ (∀ w ∈ jNest, va_Nw w U) ∧ va_AO "StiltHeralds$State" U
theorem jBs.warm {D : va_G} {dA : Nat → ClassId} {s U : State} (h : jBs D dA s) (hW : s.WarmedH U.vm) : jBs D dA U := by
  obtain ⟨h1, h2, h3⟩ := h
  refine ⟨va_K.moved hW.alike h1, fun w hw => ?_, va_AO.moved hW.alike h3⟩
  have hz := h2 w hw
  simp only [jNest, List.mem_cons, List.not_mem_nil, or_false] at hw
  rcases hw with rfl | rfl | rfl | rfl | rfl <;> exact hz.warmM hW
theorem jBs.same {D : va_G} {dA : Nat → ClassId} {u U : State} (hv : U.vm = u.vm) (h : jBs D dA u) : jBs D dA U := by
  obtain ⟨h1, h2, h3⟩ := h
  have ha : u.vm.Alike U.vm := by rw [hv]; exact Vm.Alike.refl u.vm
  refine ⟨va_K.moved ha h1, fun w hw => ?_, va_AO.moved ha h3⟩
  have hz := h2 w hw
  simp only [jNest, List.mem_cons, List.not_mem_nil, or_false] at hw
  rcases hw with rfl | rfl | rfl | rfl | rfl <;> exact va_Nw.same rfl hv.symm hz
def jBx (D : va_G) (dA : Nat → ClassId) (M : jM) (n : Nat) (p : Program) (R : Room) (s : State) (m : MethodId) (args : Array Value) (meth : Method) (c : Code) : Prop :=
  p.tables.exec = Jvm.exec ∧ c.code = M.2.1 ∧ c.maxLocals = M.2.2.1 ∧ s.vm.findClass M.1.cls = some m.cls ∧ (∀ w ∈ jT, w.before args s = true) ∧ meth.sig.returnType = M.2.2.2 ∧ meth.locks = false ∧ jBs D dA s ∧ n ≤ R.frames ∧ 64 * n ≤ R.locals ∧ (M.1.name = "<init>" → meth.name = "<init>")
def jB0 : jEnv := (fun k => k, (fun _ => 0, fun _ _ => 0), fun _ => 0)
theorem jB0_V (v : Value) : jV jB0 v = v := by cases v <;> rfl
def jB (D : va_G) (dA : Nat → ClassId) (M : jM) (n : Nat) (X : State → (Nat → Prop) → Prop) (mc ms : Nat) (Post : Option Value → va_W → Prop) (pc : Nat) (lv : List (Option Value)) (st : List Value) (ws : va_W) (nc ns : Nat) : Prop :=
  ∀ (p : Program) (l : Launch) (e : Env) (R : Room) (s : State) (m : MethodId) (args : Array Value) (below : List Frame) (meth : Method) (c : Code) (H : Heap) (locs : List Loc) (Q : State → Prop) (ls : Array Slot) (A : Nat → Prop),
    jBx D dA M n p R s m args meth c → mc ≤ R.cells → ms ≤ R.slots → X s A → va_P D vwCl ws H → va_D A ws → va_S A s.heap H locs → (∀ q : Nat, s.heap.size ≤ q → A q) → jL jB0 ls M.2.2.1 lv →
    (∀ (pc' : Nat) (ls' : Array Slot) (v : Option Value) (ws' : va_W) (H' : Heap) (locs' : List Loc), jRet M pc' v → Post v ws' → va_P D vwCl ws' H' → va_D A ws' → va_S A s.heap H' locs' →
      W p l e R s m args below meth c H' locs' mc ms Q (F0 m pc' ls' v.toList)) →
    W p l e R s m args below meth c H locs nc ns Q (F0 m pc ls st)
section JB
variable {D : va_G} {dA : Nat → ClassId} {M : jM} {n : Nat} {X : State → (Nat → Prop) → Prop} {mc ms : Nat} {Post : Option Value → va_W → Prop} {pc pc' : Nat} {lv lv' : List (Option Value)} {st : List Value} {ws : va_W} {nc ns : Nat}
theorem jb_aload {k : Fin 4} {i : Nat} {x : Nat} (hd : decode M.2.1 pc = .ok (.aload_n k, 1)) (hn : pc + 1 = pc') (hi : (k : Nat) = i) (hl : lv[i]? = some (some (.ref x))) (kk : jB D dA M n X mc ms Post pc' lv (.ref x :: st) ws nc ns) : jB D dA M n X mc ms Post pc lv st ws nc ns := by
  intro p l e R s m args below meth c H locs Q ls A hC h1 h2 hX hP hD hS hA hL hF
  subst hn
  exact lv_aload_n hC.1 hC.2.1 hd hi (hL.2.2 _ _ hl) (kk p l e R s m args below meth c H locs Q ls A hC h1 h2 hX hP hD hS hA hL hF)
theorem jb_iload {k : Fin 4} {i : Nat} {x : Int32} (hd : decode M.2.1 pc = .ok (.iload_n k, 1)) (hn : pc + 1 = pc') (hi : (k : Nat) = i) (hl : lv[i]? = some (some (.int x))) (kk : jB D dA M n X mc ms Post pc' lv (.int x :: st) ws nc ns) : jB D dA M n X mc ms Post pc lv st ws nc ns := by
  intro p l e R s m args below meth c H locs Q ls A hC h1 h2 hX hP hD hS hA hL hF
  subst hn
  exact lv_iload_n hC.1 hC.2.1 hd hi (hL.2.2 _ _ hl) (kk p l e R s m args below meth c H locs Q ls A hC h1 h2 hX hP hD hS hA hL hF)
theorem jb_istore {k : Fin 4} {i : Nat} {x : Int32} (hd : decode M.2.1 pc = .ok (.istore_n k, 1)) (hn : pc + 1 = pc') (hi : (k : Nat) = i) (hb : i < M.2.2.1) (hl : jset lv i (.int x) = lv') (kk : jB D dA M n X mc ms Post pc' lv' st ws nc ns) : jB D dA M n X mc ms Post pc lv (.int x :: st) ws nc ns := by
  intro p l e R s m args below meth c H locs Q ls A hC h1 h2 hX hP hD hS hA hL hF
  subst hn; subst hl
  exact lv_istore_n hC.1 hC.2.1 hd hi hL.has hb rfl (fun ls2 hL2 => kk p l e R s m args below meth c H locs Q ls2 A hC h1 h2 hX hP hD hS hA (jL.set1 (v := .int x) rfl hL2) hF)
theorem jb_astore {k : Fin 4} {i : Nat} {x : Nat} (hd : decode M.2.1 pc = .ok (.astore_n k, 1)) (hn : pc + 1 = pc') (hi : (k : Nat) = i) (hb : i < M.2.2.1) (hl : jset lv i (.ref x) = lv') (kk : jB D dA M n X mc ms Post pc' lv' st ws nc ns) : jB D dA M n X mc ms Post pc lv (.ref x :: st) ws nc ns := by
  intro p l e R s m args below meth c H locs Q ls A hC h1 h2 hX hP hD hS hA hL hF
  subst hn; subst hl
  exact lv_astore_n hC.1 hC.2.1 hd hi hL.has hb rfl (fun ls2 hL2 => kk p l e R s m args below meth c H locs Q ls2 A hC h1 h2 hX hP hD hS hA (jL.set1 (v := .ref x) rfl hL2) hF)
theorem jb_iinc {i : Nat} {z : Int} {x v : Int32} (hd : decode M.2.1 pc = .ok (.iinc i z, 3)) (hn : pc + 3 = pc') (ho : lv[i]? = some (some (.int x))) (hv : x + Int32.ofInt z = v) (hb : i < M.2.2.1) (hl : jset lv i (.int v) = lv') (kk : jB D dA M n X mc ms Post pc' lv' st ws nc ns) : jB D dA M n X mc ms Post pc lv st ws nc ns := by
  intro p l e R s m args below meth c H locs Q ls A hC h1 h2 hX hP hD hS hA hL hF
  subst hn; subst hl
  obtain ⟨k, hk⟩ := List.getElem?_of_mem (jA_mem (E := jB0) ho)
  exact lv_iinc hC.1 hC.2.1 hd hL.has hk hv hb rfl (fun ls2 hL2 => kk p l e R s m args below meth c H locs Q ls2 A hC h1 h2 hX hP hD hS hA (jL.set1 (v := .int v) rfl hL2) hF)
theorem jb_iconst {z : Int} {v : Int32} (hd : decode M.2.1 pc = .ok (.iconst z, 1)) (hn : pc + 1 = pc') (hv : Int32.ofInt z = v) (kk : jB D dA M n X mc ms Post pc' lv (.int v :: st) ws nc ns) : jB D dA M n X mc ms Post pc lv st ws nc ns := by
  intro p l e R s m args below meth c H locs Q ls A hC h1 h2 hX hP hD hS hA hL hF
  subst hn
  exact lv_iconst hC.1 hC.2.1 hd hv (kk p l e R s m args below meth c H locs Q ls A hC h1 h2 hX hP hD hS hA hL hF)
theorem jb_bipush {z : Int} {v : Int32} (hd : decode M.2.1 pc = .ok (.bipush z, 2)) (hn : pc + 2 = pc') (hv : (Int8.ofInt z).toInt32 = v) (kk : jB D dA M n X mc ms Post pc' lv (.int v :: st) ws nc ns) : jB D dA M n X mc ms Post pc lv st ws nc ns := by
  intro p l e R s m args below meth c H locs Q ls A hC h1 h2 hX hP hD hS hA hL hF
  subst hn
  exact lv_bipush hC.1 hC.2.1 hd hv (kk p l e R s m args below meth c H locs Q ls A hC h1 h2 hX hP hD hS hA hL hF)
theorem jb_sipush {z : Int} {v : Int32} (hd : decode M.2.1 pc = .ok (.sipush z, 3)) (hn : pc + 3 = pc') (hv : (Int16.ofInt z).toInt32 = v) (kk : jB D dA M n X mc ms Post pc' lv (.int v :: st) ws nc ns) : jB D dA M n X mc ms Post pc lv st ws nc ns := by
  intro p l e R s m args below meth c H locs Q ls A hC h1 h2 hX hP hD hS hA hL hF
  subst hn
  exact lv_sipush hC.1 hC.2.1 hd hv (kk p l e R s m args below meth c H locs Q ls A hC h1 h2 hX hP hD hS hA hL hF)
theorem jb_lconst {z : Fin 2} {v : Int64} (hd : decode M.2.1 pc = .ok (.lconst z, 1)) (hn : pc + 1 = pc') (hv : Int64.ofNat (z : Nat) = v) (kk : jB D dA M n X mc ms Post pc' lv (.long v :: st) ws nc ns) : jB D dA M n X mc ms Post pc lv st ws nc ns := by
  intro p l e R s m args below meth c H locs Q ls A hC h1 h2 hX hP hD hS hA hL hF
  subst hn
  exact lv_lconst hC.1 hC.2.1 hd hv (kk p l e R s m args below meth c H locs Q ls A hC h1 h2 hX hP hD hS hA hL hF)
theorem jb_dup {v : Value} (hd : decode M.2.1 pc = .ok (.dup, 1)) (hn : pc + 1 = pc') (hc : v.category = 1) (kk : jB D dA M n X mc ms Post pc' lv (v :: v :: st) ws nc ns) : jB D dA M n X mc ms Post pc lv (v :: st) ws nc ns := by
  intro p l e R s m args below meth c H locs Q ls A hC h1 h2 hX hP hD hS hA hL hF
  subst hn
  exact lv_dup hC.1 hC.2.1 hd hc (kk p l e R s m args below meth c H locs Q ls A hC h1 h2 hX hP hD hS hA hL hF)
theorem jb_goto {off : Int} (hd : decode M.2.1 pc = .ok (.goto off, 3)) (ht : (pc : Int) + off = (pc' : Int)) (kk : jB D dA M n X mc ms Post pc' lv st ws nc ns) : jB D dA M n X mc ms Post pc lv st ws nc ns := by
  intro p l e R s m args below meth c H locs Q ls A hC h1 h2 hX hP hD hS hA hL hF
  exact lv_goto hC.1 hC.2.1 hd ht (kk p l e R s m args below meth c H locs Q ls A hC h1 h2 hX hP hD hS hA hL hF)
theorem jb_geT {x y : Int32} {off : Int} (hd : decode M.2.1 pc = .ok (.if_icmp .ge off, 3)) (ht : (pc : Int) + off = (pc' : Int)) (hc : y ≤ x) (kk : jB D dA M n X mc ms Post pc' lv st ws nc ns) : jB D dA M n X mc ms Post pc lv (.int y :: .int x :: st) ws nc ns := by
  intro p l e R s m args below meth c H locs Q ls A hC h1 h2 hX hP hD hS hA hL hF
  exact lv_icmp_ge hC.1 hC.2.1 hd ht (fun _ => kk p l e R s m args below meth c H locs Q ls A hC h1 h2 hX hP hD hS hA hL hF) (fun q => absurd hc q)
theorem jb_geF {x y : Int32} {off : Int} {tgt : Nat} (hd : decode M.2.1 pc = .ok (.if_icmp .ge off, 3)) (hn : pc + 3 = pc') (ht : (pc : Int) + off = (tgt : Int)) (hc : ¬ y ≤ x) (kk : jB D dA M n X mc ms Post pc' lv st ws nc ns) : jB D dA M n X mc ms Post pc lv (.int y :: .int x :: st) ws nc ns := by
  intro p l e R s m args below meth c H locs Q ls A hC h1 h2 hX hP hD hS hA hL hF
  subst hn
  exact lv_icmp_ge hC.1 hC.2.1 hd ht (fun q => absurd q hc) (fun _ => kk p l e R s m args below meth c H locs Q ls A hC h1 h2 hX hP hD hS hA hL hF)
theorem jb_get {ci : Nat} {C : String} {T : u_T} {N : Nat} {ty0 : Nat → FieldType} (hK : jK ci C T N ty0) {a j i : Nat} {v : Value} (q0 : Nat) {fs : List Value} (he : ws[q0]? = some (a, .inr (ci, fs))) (hw : Cond.fieldLink M.1.cls i (T j).1 (T j).2.1 (T j).2.2.1 ∈ lw_tbl) (hd : decode M.2.1 pc = .ok (.getfield i, 3)) (hn : pc + 3 = pc') (hj : j < N) (hv : fs[j]? = some v)
    (kk : jB D dA M n X mc ms Post pc' lv (v :: st) ws nc ns) : jB D dA M n X mc ms Post pc lv (.ref a :: st) ws nc ns := by
  intro p l e R s m args below meth c H locs Q ls A hC h1 h2 hX hP hD hS hA hL hF
  subst hn
  exact va_get (ref := (T j).1) hC.1 hC.2.1 hC.2.2.2.2.1 hK.2.1 hC.2.2.2.1 hC.2.2.2.2.2.2.2.1.1 hP q0 he hK.1 j hj (hC.2.2.2.2.1 _ (jT_in hw rfl)) (fun _ q => q) hv hd (kk p l e R s m args below meth c H locs Q ls A hC h1 h2 hX hP hD hS hA hL hF)
theorem jb_put {ci : Nat} {C : String} {T : u_T} {N : Nat} {ty0 : Nat → FieldType} (hK : jK ci C T N ty0) {a j i : Nat} {v : Value} (q0 : Nat) {fs : List Value} {ws' : va_W} (he : ws[q0]? = some (a, .inr (ci, fs))) (hw : Cond.fieldLink M.1.cls i (T j).1 (T j).2.1 (T j).2.2.1 ∈ lw_tbl) (hd : decode M.2.1 pc = .ok (.putfield i, 3)) (hn : pc + 3 = pc') (hj : j < N) (hfin : (T j).2.2.2 = false) (hnar : narrow (ty0 j) v = v) (hfit : fits (ty0 j) v = true) (hl : j < fs.length) (hws : ws.set q0 (a, .inr (ci, fs.set j v)) = ws')
    (kk : jB D dA M n X mc ms Post pc' lv st ws' nc ns) : jB D dA M n X mc ms Post pc lv (v :: .ref a :: st) ws nc ns := by
  intro p l e R s m args below meth c H locs Q ls A hC h1 h2 hX hP hD hS hA hL hF
  subst hn; subst hws
  exact va_put (ref := (T j).1) hC.1 hC.2.1 hC.2.2.2.2.1 hK.2.1 ty0 hK.2.2.2.1 hK.2.2.2.2 hC.2.2.2.1 hC.2.2.2.2.2.2.2.1.1 hP hD hS q0 he hK.1 j hj (hC.2.2.2.2.1 _ (jT_in hw rfl)) (fun _ q => q) hfin (hK.2.2.2.1 j hj) hnar hfit hl hd (fun H1 locs1 hP1 hD1 hS1 => kk p l e R s m args below meth c H1 locs1 Q ls A hC h1 h2 hX hP1 hD1 hS1 hA hL hF)
theorem jb_putF {ci : Nat} {C : String} {T : u_T} {N : Nat} {ty0 : Nat → FieldType} (hK : jK ci C T N ty0) {a j i : Nat} {v : Value} (q0 : Nat) {fs : List Value} {ws' : va_W} (he : ws[q0]? = some (a, .inr (ci, fs))) (hw : Cond.fieldLink M.1.cls i (T j).1 (T j).2.1 (T j).2.2.1 ∈ lw_tbl) (hd : decode M.2.1 pc = .ok (.putfield i, 3)) (hn : pc + 3 = pc') (hj : j < N) (hfin : (T j).2.2.2 = true) (hin : M.1.name = "<init>") (hdecl : (T j).1 = M.1.cls) (hnar : narrow (ty0 j) v = v) (hfit : fits (ty0 j) v = true) (hl : j < fs.length) (hws : ws.set q0 (a, .inr (ci, fs.set j v)) = ws')
    (kk : jB D dA M n X mc ms Post pc' lv st ws' nc ns) : jB D dA M n X mc ms Post pc lv (v :: .ref a :: st) ws nc ns := by
  intro p l e R s m args below meth c H locs Q ls A hC h1 h2 hX hP hD hS hA hL hF
  subst hn; subst hws
  exact va_putF (ref := (T j).1) hC.1 hC.2.1 hC.2.2.2.2.1 hK.2.1 ty0 hK.2.2.2.1 hK.2.2.2.2 hC.2.2.2.1 hC.2.2.2.2.2.2.2.1.1 hP hD hS q0 he hK.1 j hj (hC.2.2.2.2.1 _ (jT_in hw rfl)) (fun _ q => q) hfin (hC.2.2.2.2.2.2.2.2.2.2 hin) hdecl (hK.2.2.2.1 j hj) hnar hfit hl hd (fun H1 locs1 hP1 hD1 hS1 => kk p l e R s m args below meth c H1 locs1 Q ls A hC h1 h2 hX hP1 hD1 hS1 hA hL hF)
theorem jb_cls {s : State} {cA c0 : ClassId} {ty : FieldType} {t0 : Nat} (hK : va_K D vwCl (jTys dA) s) (hK2 : va_K D vwCl (jTys dA ++ [(cA, ty)]) s) (ht : (jTys dA)[t0]? = some (c0, ty)) : cA = c0 := by
  have h1 := (hK.2 t0 _ ht).2
  have h2 := (hK2.2 5 (cA, ty) rfl).2
  cases ty with
  | object C =>
    obtain ⟨_, _, -, -, -, e1⟩ := h1
    obtain ⟨_, _, -, -, -, e2⟩ := h2
    exact Option.some.inj (e2.symm.trans e1)
  | _ => exact Option.some.inj (h2.symm.trans h1)
theorem jb_newa {atype : ArrayType} {ty : FieldType} (hty : newarray.typeOf atype = ty) (hw : Cond.arrayClass ty ∈ lw_tbl) (t0 : Nat) {c0 : ClassId} (ht : (jTys dA)[t0]? = some (c0, ty)) {z : Int32} {N' : Nat} {a0 : vp_A} (ha : ∀ cA : ClassId, vp_cell cA a0 = arrV cA N' (fun _ => defaultValue ty)) (hz : ¬ z < 0) (hN : z.toNatClampNeg = N') (hbytes : N' * componentBytes ty ≤ 536870912) (hcells : nc + 1 ≤ mc) (hslots : ns + N' ≤ ms) (hd : decode M.2.1 pc = .ok (.newarray atype, 2)) (hn : pc + 2 = pc')
    (kk : ∀ q : Nat, jB D dA M n X mc ms Post pc' lv (.ref q :: st) (ws ++ [(q, .inl (c0, a0))]) (nc + 1) (ns + N')) : jB D dA M n X mc ms Post pc lv (.int z :: st) ws nc ns := by
  intro p l e R s m args below meth c H locs Q ls A hC h1 h2 hX hP hD hS hA hL hF
  subst hn
  have hK := hC.2.2.2.2.2.2.2.1.1
  refine va_newa hC.1 hC.2.1 (by rw [hty]; exact hC.2.2.2.2.1 _ (jT_in hw rfl)) hty hK hP hD hS hA ha hz hN hbytes (by omega) (by omega) hd (fun q cA H1 hK1 hP1 hD1 hS1 => ?_)
  have hcA := jb_cls hK hK1 ht
  subst hcA
  exact kk q p l e R s m args below meth c H1 locs Q ls A hC h1 h2 hX hP1 hD1 hS1 hA hL hF
theorem jb_newq {i : Nat} (hw : Cond.classLink M.1.cls i "StiltHeralds$State" ∈ lw_tbl) {z : Int32} {N' : Nat} (hz : ¬ z < 0) (hN : z.toNatClampNeg = N') (hbytes : N' * 4 ≤ 536870912) (hcells : nc + 1 ≤ mc) (hslots : ns + N' ≤ ms) (hd : decode M.2.1 pc = .ok (.anewarray i, 3)) (hn : pc + 3 = pc')
    (kk : ∀ q : Nat, jB D dA M n X mc ms Post pc' lv (.ref q :: st) (ws ++ [(q, .inl (dA 13, N', .inr (.inr (.inr (.inr (fun _ => none))))))]) (nc + 1) (ns + N')) : jB D dA M n X mc ms Post pc lv (.int z :: st) ws nc ns := by
  intro p l e R s m args below meth c H locs Q ls A hC h1 h2 hX hP hD hS hA hL hF
  subst hn
  have hK := hC.2.2.2.2.2.2.2.1.1
  refine va_newq hC.1 hC.2.1 hC.2.2.2.1 (hC.2.2.2.2.1 _ (jT_in hw rfl)) hC.2.2.2.2.2.2.2.1.2.2 hK hP hD hS hA hz hN hbytes (by omega) (by omega) hd (fun q cA H1 hK1 hP1 hD1 hS1 => ?_)
  have hcA := jb_cls hK hK1 (t0 := 4) rfl
  subst hcA
  exact kk q p l e R s m args below meth c H1 locs Q ls A hC h1 h2 hX hP1 hD1 hS1 hA hL hF
theorem jb_new {ci : Nat} {C : String} {T : u_T} {N : Nat} {ty0 : Nat → FieldType} (hK : jK ci C T N ty0) {i : Nat} (hw : Cond.classLink M.1.cls i C ∈ lw_tbl) (hw2 : Cond.instantiable C N ∈ lw_tbl) (hw3 : Cond.initialized C ∈ lw_tbl) {fs : List Value} (hfs : ∀ j, j < N → defaultValue (ty0 j) = vp_V fs j) (hcells : nc + 1 ≤ mc) (hslots : ns + N ≤ ms) (hd : decode M.2.1 pc = .ok (.new i, 3)) (hn : pc + 3 = pc')
    (kk : ∀ q : Nat, jB D dA M n X mc ms Post pc' lv (.ref q :: st) (ws ++ [(q, .inr (ci, fs))]) (nc + 1) (ns + N)) : jB D dA M n X mc ms Post pc lv st ws nc ns := by
  intro p l e R s m args below meth c H locs Q ls A hC h1 h2 hX hP hD hS hA hL hF
  subst hn
  exact va_new hC.1 hC.2.1 hC.2.2.2.2.1 hK.2.1 ty0 hK.2.2.2.1 hC.2.2.2.1 (hC.2.2.2.2.1 _ (jT_in hw rfl)) (hC.2.2.2.2.1 _ (jT_in hw2 rfl)) (hC.2.2.2.2.1 _ (jT_in hw3 rfl)) hC.2.2.2.2.2.2.2.1.1 hP hD hS hA hK.1 hfs (by omega) (by omega) hd (fun q H1 hP1 hD1 hS1 => kk q p l e R s m args below meth c H1 locs Q ls A hC h1 h2 hX hP1 hD1 hS1 hA hL hF)
theorem jb_obj {i a : Nat} (hw : Cond.methodLink M.1.cls i objectInit ∈ lw_tbl) (hw2 : Cond.instanceMethod objectInit ∈ lw_tbl) (hw3 : Cond.code objectInit ⟨#[0xb1]⟩ 1 none ∈ lw_tbl) (hn1 : 1 ≤ n) (hst : (st.map fun v => v.category).sum ≤ 8) (hd : decode M.2.1 pc = .ok (.invokespecial i, 3)) (hn : pc + 3 = pc')
    (kk : jB D dA M n X mc ms Post pc' lv st ws nc ns) : jB D dA M n X mc ms Post pc lv (.ref a :: st) ws nc ns := by
  intro p l e R s m args below meth c H locs Q ls A hC h1 h2 hX hP hD hS hA hL hF
  subst hn
  have hlo := hC.2.2.2.2.2.2.2.2.2.1
  exact W.objInit hC.1 hC.2.1 hC.2.2.2.1 (hC.2.2.2.2.1 _ (jT_in hw rfl)) (hC.2.2.2.2.1 _ (jT_in hw2 rfl)) (hC.2.2.2.2.1 _ (jT_in hw3 rfl)) rfl (hL.1.trans hC.2.2.1.symm) rfl hd (Nat.le_trans hn1 hC.2.2.2.2.2.2.2.2.1) (by have := lv_room (m := m) (pc := pc) (ls := ls) (rest := .ref a :: st) (st := st) hst; omega) (kk p l e R s m args below meth c H locs Q ls A hC h1 h2 hX hP hD hS hA hL hF)
theorem jb_iast {a q0 : Nat} {k : Nat} {f : Nat → Int32} {i x : Int32} {ws' : va_W} (he : ws[q0]? = some (a, .inl (dA 10, k, .inl f))) (hi : vp_in i k) (hd : decode M.2.1 pc = .ok (.iastore, 1)) (hn : pc + 1 = pc') (hws : ws.set q0 (a, .inl (dA 10, k, .inl (upd f i.toNatClampNeg x))) = ws')
    (kk : jB D dA M n X mc ms Post pc' lv st ws' nc ns) : jB D dA M n X mc ms Post pc lv (.int x :: .int i :: .ref a :: st) ws nc ns := by
  intro p l e R s m args below meth c H locs Q ls A hC h1 h2 hX hP hD hS hA hL hF
  subst hn; subst hws
  exact va_iast hC.1 hC.2.1 hC.2.2.2.2.2.2.2.1.1 hP hD hS q0 1 he rfl hi hd (fun H1 locs1 hP1 hD1 hS1 => kk p l e R s m args below meth c H1 locs1 Q ls A hC h1 h2 hX hP1 hD1 hS1 hA hL hF)
theorem jb_alen {a q0 : Nat} {x : vp_A} {v : Int32} (he : ws[q0]? = some (a, .inl (dA 13, x))) (hv : Int32.ofNat x.1 = v) (hd : decode M.2.1 pc = .ok (.arraylength, 1)) (hn : pc + 1 = pc')
    (kk : jB D dA M n X mc ms Post pc' lv (.int v :: st) ws nc ns) : jB D dA M n X mc ms Post pc lv (.ref a :: st) ws nc ns := by
  intro p l e R s m args below meth c H locs Q ls A hC h1 h2 hX hP hD hS hA hL hF
  subst hn
  exact va_alen hC.1 hC.2.1 hC.2.2.2.2.2.2.2.1.1 hP q0 4 he (ty := .object "StiltHeralds$State") rfl hv hd (kk p l e R s m args below meth c H locs Q ls A hC h1 h2 hX hP hD hS hA hL hF)
theorem jb_aast {a q0 qk b : Nat} {k : Nat} {f : Nat → Option Nat} {vs : List Value} {i : Int32} {ws' : va_W} (he : ws[q0]? = some (a, .inl (dA 13, k, .inr (.inr (.inr (.inr f)))))) (hv : ws[qk]? = some (b, .inr (5, vs))) (hi : vp_in i k) (hd : decode M.2.1 pc = .ok (.aastore, 1)) (hn : pc + 1 = pc') (hws : ws.set q0 (a, .inl (dA 13, k, .inr (.inr (.inr (.inr (va_up f i.toNatClampNeg (some b))))))) = ws')
    (kk : jB D dA M n X mc ms Post pc' lv st ws' nc ns) : jB D dA M n X mc ms Post pc lv (.ref b :: .int i :: .ref a :: st) ws nc ns := by
  intro p l e R s m args below meth c H locs Q ls A hC h1 h2 hX hP hD hS hA hL hF
  subst hn; subst hws
  exact va_astq (r := (RX5, TX5, 9)) hC.1 hC.2.1 hC.2.2.2.2.2.2.2.1.1 hP hD hS q0 4 qk 5 he rfl hv rfl hi hd (fun H1 locs1 hP1 hD1 hS1 => kk p l e R s m args below meth c H1 locs1 Q ls A hC h1 h2 hX hP1 hD1 hS1 hA hL hF)
theorem jb_ret (hd : decode M.2.1 pc = .ok (.return_, 1)) (hr : M.2.2.2 = none) (hc1 : nc ≤ mc) (hc2 : ns ≤ ms) (hp : Post none ws) : jB D dA M n X mc ms Post pc lv [] ws nc ns := by
  intro p l e R s m args below meth c H locs Q ls A hC h1 h2 hX hP hD hS hA hL hF
  exact W.widen hc1 hc2 (hF pc ls none ws H locs (Or.inr (Or.inr ⟨hd, hr, rfl⟩)) hp hP hD hS)
/-! contracts of constructors -/
def jRb (n mc ms : Nat) : Room := { frames := n, cells := mc, slots := ms, locals := 64 * n }
def jBQ (D : va_G) (P : va_W → Prop) (A : Nat → Prop) : Array Value → State → Outcome → State → Prop := fun _ st oc t => (oc = .returned none ∧ ∃ ws' : va_W, P ws' ∧ va_P D vwCl ws' t.heap ∧ va_D A ws') ∧ va_F A st t
def jBC (D : va_G) (dA : Nat → ClassId) (M : jM) (n mc ms : Nat) (av : List Value) (ws : va_W) (P : va_W → Prop) : Prop :=
  ∀ (l : Launch) (sz : Nat), Met l M.1 (Cond.code M.1 M.2.1 M.2.2.1 M.2.2.2 :: jT) (jRb n mc ms) (va_Pc av (fun U => U.heap.size = sz ∧ va_P D vwCl ws U.heap ∧ jBs D dA U ∧ va_D (fun _ => True) ws)) (jBQ D P (va_A ws sz)) mc ms (va_A ws sz)
theorem jBC.of {av : List Value} {P : va_W → Prop} (hy : plainName M.1.cls = true) (hret : M.2.2.2 = none) (hlen : (lg_sl av).length ≤ M.2.2.1) (hlv : jsub lv (jargs av)) (kk : jB D dA M n (fun _ _ => True) mc ms (fun _ ws' => P ws') 0 lv [] ws 0 0) : jBC D dA M n mc ms av ws P := by
  intro l sz
  refine Met.ofW (cc := M.2.1) (maxL := M.2.2.1) (ret := M.2.2.2) hy rfl ?_
  intro p e s m args below meth c s₁ B hml hv
  obtain ⟨rfl, hsz, hP, hBs, hD0⟩ := hv
  subst hsz
  have hts := atoms_spec (ws := Cond.code M.1 M.2.1 M.2.2.1 M.2.2.2 :: jT) B.pre
  have hown : s.vm.findClass M.1.cls = some m.cls := findClass_of_methodNamed B.named
  have hname : meth.name = M.1.name := (name_of_methodNamed B.named B.method).1
  have hlocks := B.notSynchronized
  have hl := lv_entry av (n := M.2.2.1) hlen
  rw [lg_entry_eq]
  refine kk p l e (jRb n mc ms) s m _ below meth c s.heap [] _ _ (va_A ws s.heap.size) ⟨B.exec, B.bytes, hml, hown, fun w hw => hts w (List.mem_cons_of_mem _ hw), B.returns, hlocks, hBs, Nat.le_refl _, Nat.le_refl _, fun z => hname.trans z⟩ (Nat.le_refl _) (Nat.le_refl _) trivial hP hD0.self va_S.rf (fun q hq => Or.inr hq) ⟨hl.1, hl.2.1, fun i v hv => ?_⟩ ?_
  · have h1 := jargs_at (E := jB0) av 0 i v (jsub_at _ _ hlv i v hv)
    rw [Nat.zero_add, jB0_V] at h1
    have e1 : av.map (jV jB0) = av := by
      conv => rhs; rw [← List.map_id av]
      exact List.map_congr_left (fun v _ => jB0_V v)
    rw [e1] at h1
    rw [jB0_V]
    exact hl.2.2 (i, v) h1
  · intro pc' ls' v ws' H' locs' hrt hpost hP' hD' hS'
    rcases hrt with ⟨_, x, ty, _, hr, _⟩ | ⟨_, hr, _⟩ | ⟨hd, hr, rfl⟩
    · rw [hret] at hr; cases hr
    · rw [hret] at hr; cases hr
    · exact W.vret B.exec B.bytes (B.returns.trans hr) (fun t ht hW => ⟨⟨rfl, ws', hpost, by rw [ht]; exact hP', hD'⟩, hS'.F ht⟩) hS'.2.2 hd hlocks
theorem va_nd_of : ∀ l : List Nat, l.Nodup → va_nd l = true
  | [], _ => rfl
  | a :: l, h => by
    have := List.nodup_cons.mp h
    simp only [va_nd, Bool.and_eq_true, decide_eq_true_eq]
    exact ⟨this.1, va_nd_of l this.2⟩
theorem jb_pick (wr : va_W) (x : Nat × va_E) : (List.range wr.length).map (fun i => (wr ++ [x])[i]?) = wr.map some := by
  apply List.ext_getElem?
  intro i
  by_cases h : i < wr.length
  · simp [h, List.getElem?_append_left h]
  · rw [List.getElem?_eq_none (by simpa using h), List.getElem?_eq_none (by simpa using h)]
variable {Mc : jM} {nc1 ns1 : Nat} {P1 : va_W → Prop} {av stk : List Value} {na : Nat}
/-- a constructor of the object that was made last -/
theorem jb_callI {i b : Nat} {e0 : va_E} {wr : va_W} (hM : jMd Mc na) (hin : Cond.instanceMethod Mc.1 ∈ lw_tbl) (hnm : Mc.1.name = "<init>") (hrt : Mc.2.2.2 = none) (hw : Cond.methodLink M.1.cls i Mc.1 ∈ lw_tbl ∨ ∃ host, Cond.methodLinkNest M.1.cls i Mc.1 host ∈ jNest) (hd : decode M.2.1 pc = .ok (.invokespecial i, 3)) (hn : pc + 3 = pc') (hna : av.length = na) (hst : (st.map fun v => v.category).sum ≤ 8) (hstk : stk = av.reverse ++ .ref b :: st) (hws : ws = wr ++ [(b, e0)]) (hcc : nc + nc1 ≤ mc) (hcs : ns + ns1 ≤ ms)
    (hC1 : jBC D dA Mc n nc1 ns1 (.ref b :: av) [(b, e0)] P1) (kk : ∀ w1 : va_W, P1 w1 → jB D dA M (n + 1) X mc ms Post pc' lv st (wr ++ w1) (nc + nc1) (ns + ns1)) : jB D dA M (n + 1) X mc ms Post pc lv stk ws nc ns := by
  intro p l e R s m args below meth c H locs Q ls A hC h1 h2 hX hP hD hS hA hL hF
  subst hn; subst hstk; subst hws
  have hts := hC.2.2.2.2.1
  have hlo := hC.2.2.2.2.2.2.2.2.2.1
  have hfr := hC.2.2.2.2.2.2.2.2.1
  have hml := hM.2.2.2
  have hCm : [wr.length].map (fun i => (wr ++ [(b, e0)])[i]?) = [(b, e0)].map some := by simp
  have hPc : va_P D vwCl [(b, e0)] H := hP.sub [wr.length] (by simp)
  have hDc := hD.sub (ws' := [(b, e0)]) [wr.length] rfl hCm
  have hFc := va_free (wc := [(b, e0)]) hD hS hA [wr.length] hCm
  have hpre : ∀ U : State, U.heap = H → s.WarmedH U.vm → va_Pc (.ref b :: av) (fun U => U.heap.size = H.size ∧ va_P D vwCl [(b, e0)] U.heap ∧ jBs D dA U ∧ va_D (fun _ => True) [(b, e0)]) (Value.ref b :: av).toArray U := fun U hU hW => ⟨rfl, by rw [hU], by rw [hU]; exact hPc, hC.2.2.2.2.2.2.2.1.warm hW, hDc.weaken (fun _ _ _ _ => trivial)⟩
  have hbl : FrameBlind (va_Pc (.ref b :: av) (fun U => U.heap.size = H.size ∧ va_P D vwCl [(b, e0)] U.heap ∧ jBs D dA U ∧ va_D (fun _ => True) [(b, e0)])) := by
    intro a U g mk q
    obtain ⟨q0, q1, q2, q3, q4⟩ := q
    exact ⟨q0, q1, q2, jBs.same (u := U) rfl q3, q4⟩
  have hrun : va_Run p l e R s m args below meth c H locs nc ns nc1 ns1 (F0 m pc ls (av.reverse ++ .ref b :: st)) st (jBQ D P1 (va_A [(b, e0)] H.size) (Value.ref b :: av).toArray) (va_A [(b, e0)] H.size) := by
    rcases hw with hw | ⟨host, hw⟩
    · exact va_runI (As := av) (rest := st) (b := b) ⟨hC.1, hC.2.1, hC.2.2.1, hC.2.2.2.1, hts⟩ (hC1 l H.size) ⟨callB_of (rm := jRb n nc1 ns1) na hts (jT_all hM.1) (show _ = Cond.code Mc.1 Mc.2.1 Mc.2.2.1 none :: jT by rw [hrt]) rfl rfl (hts _ (jT_in hM.2.1 rfl)) (hts _ (jT_in hw rfl)) hM.2.2.1 ⟨hfr, by show 8 + (Mc.2.2.1 + 11) + 64 * n ≤ R.locals; omega⟩, hnm, hts _ (jT_in hin rfl)⟩ ⟨hbl, hpre⟩ rfl hna hL.1 rfl (lv_room hst) hd ⟨by omega, by omega⟩
    · exact va_runIN (host := host) (As := av) (rest := st) (b := b) ⟨hC.1, hC.2.1, hC.2.2.1, hC.2.2.2.1, hts⟩ (hC1 l H.size) ⟨va_cnB (rm := jRb n nc1 ns1) na hts (jT_all hM.1) (show _ = Cond.code Mc.1 Mc.2.1 Mc.2.2.1 none :: jT by rw [hrt]) rfl rfl (hC.2.2.2.2.2.2.2.1.2.1 _ hw) (hts _ (jT_in hM.2.1 rfl)) hM.2.2.1 ⟨hfr, by show 8 + (Mc.2.2.1 + 11) + 64 * n ≤ R.locals; omega⟩, hnm, hts _ (jT_in hin rfl)⟩ ⟨hbl, hpre⟩ rfl hna hL.1 rfl (lv_room hst) hd ⟨by omega, by omega⟩
  intro T hT X'
  obtain ⟨v, st₀, t, T', L, h0, X'', hL2, e1, e2, ⟨⟨hv, w1, hp1, hP1, hD1⟩, hz, hk⟩, stp⟩ := hrun T hT X'
  cases hv
  rw [h0] at hz hk
  obtain ⟨hPj, hDj⟩ := va_join (wr := wr) (w1 := w1) (H1 := t.heap) hP hD [wr.length] (List.range wr.length) hCm (jb_pick wr (b, e0)) (va_nd_of _ List.nodup_range) (fun i hi hj => by simp at hi hj; omega) (fun q q1 q2 => hk q q1 q2) hFc hP1 hD1
  obtain ⟨t2, a1, b1⟩ := kk w1 hp1 p l e R s m args below meth c t.heap (locs ++ L) Q ls A hC h1 h2 hX hPj hDj
    ⟨Nat.le_trans hS.1 hz, fun q q1 q2 => by rw [hk q (Nat.lt_of_lt_of_le q1 hS.1) (fun z => q2 (hFc q z))]; exact hS.2.1 q q1 q2, fun q hq => by
      rcases List.mem_append.mp hq with hh | hh
      · exact hS.2.2 q hh
      · exact hFc _ (hL2 q hh)⟩ hA hL hF T' e1 X''
  exact ⟨t2, stp t2 a1, b1⟩
end JB
