/-! THE CLAIM OUT OF ONE WALK OF THE LAW'S BODY. Your part is whole_start (and what it stands on); all else here is the same for every law, but numbers. -/
def R_law : String := "StiltHeraldsLaw"
def lw_P (b : Addr) (xs : List Int32) (args : Array Value) (s : State) : Prop := args = #[.ref b] ∧ s.IntsAt b xs ∧ xs.length ≤ 2048 ∧ (Jvm.Cond.and given_1 narrow_1).before args s = true
def lw_Q (_ : Array Value) (s : State) (o : Outcome) (t : State) : Prop := o = .returned (some (.int 1)) ∧ Framed s o t [] 600000 7302250
def lw_Z (below : List Frame) (a : Array Value) (s : State) : State → Prop := fun t => ∃ o, t.status = .running ∧ Ended t below o ∧ lw_Q a s o t
/-- the law's own end, with 1 on the stack, nothing written that was there before, its room as the claim has it -/
theorem lw_ret {p : Program} {l : Launch} {e : Env} {s : State} {m : MethodId} {below : List Frame} {meth : Method} {c : Code} {b : Nat} (hx : p.tables.exec = Jvm.exec) (hb : c.code = code) (hr : meth.sig.returnType = ret) (hlocks : meth.locks = false) {pc : Nat} {H : Heap} {ls : Array Slot} (hdg : decode code pc = .ok (.ireturn, 1)) : W p l e room_1 s m #[Value.ref b] below meth c H [] 600000 7302250 (lw_Z below #[Value.ref b] s) (F0 m pc ls [.int 1]) := by
  intro T hT X
  obtain ⟨fs, hret, hrun, hended, hW, hframe⟩ := X.leave (v := some (.int 1)) (hlocks := hlocks) (fun h => by rw [hr] at h; cases h)
  have hmeth' : T.vm.method? m = some meth := X.method'
  refine ⟨T.setFrames fs, ?_, .returned (some (.int 1)), hrun, hended, rfl, ⟨_, rfl⟩, hW, hframe⟩
  jvm_step X.here [X.here.top, hx, hb, hdg, hmeth', hr, ret, narrow_b1]
  (try refine ⟨rfl, ?_⟩); (try refine ⟨rfl, ?_⟩)
  first | (intro acts; rw [hret _ acts rfl rfl rfl]) | rw [hret _ _ rfl rfl rfl]
  exact Steps.refl _
/-- what holds at the law's entry: the machine, the code, the tables' words (any of lw_tbl by 'hts w (by decide +kernel)'), the script of L ints xs at the cell b, what the Statement gives of the start (any of its parts by flat_of_before) -/
def lw_At (p : Program) (s : State) (m : MethodId) (meth : Method) (c : Code) (b L : Nat) (xs : Nat → Int32) : Prop :=
  p.tables.exec = Jvm.exec ∧ c.code = code ∧ meth.sig.returnType = ret ∧ c.maxLocals = 4 ∧ s.vm.findClass R_law = some m.cls ∧ (∀ w ∈ lw_tbl, w.before #[Value.ref b] s = true) ∧ va_X b L xs s s.heap ∧ b < s.heap.size ∧ meth.locks = false ∧ (Jvm.Cond.and given_1 narrow_1).before #[Value.ref b] s = true
theorem wAO : Cond.arrayOver (.object "StiltHeralds$State") ∈ lw_tbl := List.mem_of_getElem? (i := 369) (by decide +kernel)
theorem wLS : Cond.laysStatic "java/lang/String" "COMPACT_STRINGS" "Z" ∈ lw_tbl := List.mem_of_getElem? (i := 457) (by decide +kernel)
theorem wIS : Cond.initialized "java/lang/String" ∈ lw_tbl := List.mem_of_getElem? (i := 69) (by decide +kernel)
theorem wLP : Cond.laysStatic "jdk/internal/util/Preconditions" "SIOOBE_FORMATTER" "Ljava/util/function/BiFunction;" ∈ lw_tbl := List.mem_of_getElem? (i := 473) (by decide +kernel)
theorem wIP : Cond.initialized "jdk/internal/util/Preconditions" ∈ lw_tbl := List.mem_of_getElem? (i := 71) (by decide +kernel)
theorem jNest_in : ∀ w ∈ jNest, w ∈ lw_tbl := by decide +kernel
theorem jNest_on : ∀ w ∈ jNest, w.onTables = true := by decide +kernel
theorem wSR : ∀ i : Nat, i < 6 → Cond.stringRef "StiltHeralds$LandReader" (jSi i) (jSt i) ∈ lw_tbl := by
  intro i hi
  have h : ∀ i, i < 6 → lw_tbl[[443, 525, 537, 546, 555, 560].getD i 0]? = some (Cond.stringRef "StiltHeralds$LandReader" (jSi i) (jSt i)) := by decide +kernel
  exact List.mem_of_getElem? (h i hi)
def jTm (i : Nat) : Term := Term.string "StiltHeralds$LandReader" (jSi i)
def jNar : List Cond := flatC (Jvm.Cond.and given_1 narrow_1)
theorem jN1 : ∀ i, i < 6 → Cond.exactly (jTm i) "java/lang/String" ∈ jNar := by decide +kernel
theorem jN2 : ∀ i, i < 6 → Cond.eq (.field (jTm i) "java/lang/String" "coder" "B") (.int 0) ∈ jNar := by decide +kernel
theorem jN3 : ∀ i, i < 6 → Cond.arrayOf (.field (jTm i) "java/lang/String" "value" "[B") .byte ∈ jNar := by decide +kernel
theorem jN4 : ∀ i, i < 6 → Cond.eq (.length (.field (jTm i) "java/lang/String" "value" "[B")) (.int (Int32.ofNat (jSl.getD i 0))) ∈ jNar := by decide +kernel
theorem jN5 : ∀ i, i < 6 → ∀ j, j < jSl.getD i 0 → Cond.eq (.elem (.field (jTm i) "java/lang/String" "value" "[B") (.int (Int32.ofNat j))) (.int ((jSb.getD i []).getD j 0)) ∈ jNar := by decide +kernel
theorem jN6 : ∀ i, i < 6 → ∀ j, j < 6 → i ≠ j → Cond.not (Cond.eq (jTm i) (jTm j)) ∈ jNar ∨ Cond.not (Cond.eq (jTm j) (jTm i)) ∈ jNar := by decide +kernel
theorem jN7 : ∀ i, i < 6 → jSl.getD i 0 < 2 ^ 31 := by decide +kernel
theorem jN9 : Cond.isRef (.static "jdk/internal/util/Preconditions" "SIOOBE_FORMATTER" "Ljava/util/function/BiFunction;") ∈ jNar := by decide +kernel
theorem jN8 : Cond.eq (.static "java/lang/String" "COMPACT_STRINGS" "Z") (.int 1) ∈ jNar := by decide +kernel
set_option maxHeartbeats 4000000 in
set_option maxRecDepth 20000 in
theorem whole_of {Inv : Nat → HP → Prop} (hmono : ∀ j h, Inv j h → Inv (j + 1) h) (hI0 : Inv 0 h0) (hp : ∀ E, jPairs E 100 Inv) {p : Program} {e : Env} {s : State} {m : MethodId} {below : List Frame} {meth : Method} {c : Code} (l : Launch) {b L : Nat} {xs : Nat → Int32} (hL : L ≤ 2048) (C0 : lw_At p s m meth c b L xs) : W p l e room_1 s m #[Value.ref b] below meth c s.heap [] 0 0 (lw_Z below #[Value.ref b] s) (entryFrame m ([Value.ref b] : List Value).toArray 4) := by
  obtain ⟨hx, hb, hr, hml, hown, hts, hX, hbl, hlocks, hgv⟩ := id C0
  have hjT : ∀ w ∈ jT, w.before #[Value.ref b] s = true := fun w hw => hts w (List.mem_filter.mp hw).1
  obtain ⟨c0, i0, k0⟩ := u_known (C := RX0) (T := TX0) (N := 6) (n := 6) hjT jin0 (hjT _ (jT_in wins_RX0 rfl))
  obtain ⟨c1, i1, k1⟩ := u_known (C := RX1) (T := TX1) (N := 6) (n := 6) hjT jin1 (hjT _ (jT_in wins_RX1 rfl))
  obtain ⟨c2, i2, k2⟩ := u_known (C := RX2) (T := TX2) (N := 15) (n := 15) hjT jin2 (hjT _ (jT_in wins_RX2 rfl))
  obtain ⟨c3, i3, k3⟩ := u_known (C := RX3) (T := TX3) (N := 9) (n := 9) hjT jin3 (hjT _ (jT_in wins_RX3 rfl))
  obtain ⟨c4, i4, k4⟩ := u_known (C := RX4) (T := TX4) (N := 11) (n := 11) hjT jin4 (hjT _ (jT_in wins_RX4 rfl))
  obtain ⟨c5, i5, k5⟩ := u_known (C := RX5) (T := TX5) (N := 9) (n := 9) hjT jin5 (hjT _ (jT_in wins_RX5 rfl))
  obtain ⟨c6, i6, k6⟩ := u_known (C := RX6) (T := TX6) (N := 2) (n := 2) hjT jin6 (hjT _ (jT_in wins_RX6 rfl))
  obtain ⟨c7, i7, k7⟩ := u_known (C := RX7) (T := TX7) (N := 9) (n := 9) hjT jin7 (hjT _ (jT_in wins_RX7 rfl))
  obtain ⟨c8, i8, k8⟩ := u_known (C := RX8) (T := TX8) (N := 45) (n := 45) hjT jin8 (hjT _ (jT_in wins_RX8 rfl))
  obtain ⟨dC, dI, hKc⟩ : ∃ (dC : Nat → ClassId) (dI : Nat → Nat → Nat), ∀ (k : Nat) (q : vw_C), vwCl[k]? = some q → u_Kn s q.1 q.2.1 q.2.2 (dC k) (dI k) := by
    refine ⟨fun k => match k with | 0 => c0 | 1 => c1 | 2 => c2 | 3 => c3 | 4 => c4 | 5 => c5 | 6 => c6 | 7 => c7 | _ => c8, fun k => match k with | 0 => i0 | 1 => i1 | 2 => i2 | 3 => i3 | 4 => i4 | 5 => i5 | 6 => i6 | 7 => i7 | _ => i8, ?_⟩
    intro k q hq
    match k, hq with
    | 0, hq => cases hq; exact k0
    | 1, hq => cases hq; exact k1
    | 2, hq => cases hq; exact k2
    | 3, hq => cases hq; exact k3
    | 4, hq => cases hq; exact k4
    | 5, hq => cases hq; exact k5
    | 6, hq => cases hq; exact k6
    | 7, hq => cases hq; exact k7
    | 8, hq => cases hq; exact k8
    | k + 9, hq => simp [vwCl] at hq
  obtain ⟨cB, kB, oB, eB1, eB2, eB3⟩ := Cond.arrayClass_spec (hts _ wA_byte)
  obtain ⟨cI, kI, oI, eI1, eI2, eI3⟩ := Cond.arrayClass_spec (hts _ wA_int)
  obtain ⟨cJ, kJ, oJ, eJ1, eJ2, eJ3⟩ := Cond.arrayClass_spec (hts _ wA_long)
  obtain ⟨cZ, kZ, oZ, eZ1, eZ2, eZ3⟩ := Cond.arrayClass_spec (hts _ wA_boolean)
  obtain ⟨oS, cS, kS, eS0, -, eS2, eS3, eS1⟩ := Cond.arrayOver_spec (hts _ wAO)
  obtain ⟨dA, hd9, hd10, hd11, hd12, hd13⟩ : ∃ dA : Nat → ClassId, dA 9 = cB ∧ dA 10 = cI ∧ dA 11 = cJ ∧ dA 12 = cZ ∧ dA 13 = cS := ⟨fun k => match k with | 9 => cB | 10 => cI | 11 => cJ | 12 => cZ | _ => cS, rfl, rfl, rfl, rfl, rfl⟩
  have hK : va_K (dC, dI) vwCl (jTys dA) s := by
    refine ⟨hKc, fun k q hq => ?_⟩
    match k, hq with
    | 0, hq => cases hq; rw [hd9]; exact ⟨fun n z => ⟨fun k h => (by cases h), kB, eB2, oB, eB3⟩, eB1⟩
    | 1, hq => cases hq; rw [hd10]; exact ⟨fun n z => ⟨fun k h => (by cases h), kI, eI2, oI, eI3⟩, eI1⟩
    | 2, hq => cases hq; rw [hd11]; exact ⟨fun n z => ⟨fun k h => (by cases h), kJ, eJ2, oJ, eJ3⟩, eJ1⟩
    | 3, hq => cases hq; rw [hd12]; exact ⟨fun n z => ⟨fun k h => (by cases h), kZ, eZ2, oZ, eZ3⟩, eZ1⟩
    | 4, hq => cases hq; rw [hd13]; exact ⟨fun n z => ⟨fun k h => (by cases h), kS, eS2, oS, eS3⟩, kS, oS, eS2, eS3, eS0, eS1⟩
    | k + 5, hq => simp [jTys] at hq
  have hBs : jBs (dC, dI) dA s := ⟨hK, fun w hw => va_Nw.of (jNest_on w hw) (hts w (jNest_in w hw)), va_AO.of (hts _ wAO)⟩
  have hn := flat_of_before _ hgv
  have hnA : ∀ a : Nat, a < s.heap.size → ¬ (fun q : Nat => s.heap.size ≤ q) a := fun a h => Nat.not_le.mpr h
  obtain ⟨adK, adV0, hSS0, htm⟩ := vk_Sof (args := #[Value.ref b]) (s := s) (N := 6) (tm := jTm) (len := jSl) (byt := jSb) (A := fun q : Nat => s.heap.size ≤ q) jN7 (fun i hi => hn _ (jN1 i hi)) (fun i hi => hn _ (jN2 i hi)) (fun i hi => hn _ (jN3 i hi)) (fun i hi => hn _ (jN4 i hi)) (fun i hi j hj => hn _ (jN5 i hi j hj)) (fun i j hi hj hne => (jN6 i hi j hj hne).imp (fun h => hn _ h) (fun h => hn _ h)) hnA
  have hZq := va_Zqof (C := "jdk/internal/util/Preconditions") (n := "SIOOBE_FORMATTER") (d := "Ljava/util/function/BiFunction;") (hts _ wLP) (hts _ wIP) (hn _ jN9) hnA
  obtain ⟨adV, hSS, hZ2⟩ : ∃ adV : Nat → Nat, vk_S 6 jSl jSb adK adV (fun q : Nat => s.heap.size ≤ q) s s.heap ∧ (va_Z "jdk/internal/util/Preconditions" "SIOOBE_FORMATTER" "Ljava/util/function/BiFunction;" .null (fun q : Nat => s.heap.size ≤ q) s s.heap ∨ va_Z "jdk/internal/util/Preconditions" "SIOOBE_FORMATTER" "Ljava/util/function/BiFunction;" (.ref (adV 1000)) (fun q : Nat => s.heap.size ≤ q) s s.heap) := by
    rcases hZq with hq | ⟨t, hq⟩
    · exact ⟨adV0, hSS0, Or.inl hq⟩
    · refine ⟨fun k => if k = 1000 then t else adV0 k, ⟨fun i hi => ?_, hSS0.2⟩, Or.inr hq⟩
      have h1 := hSS0.1 i hi
      have h2 : (if i = 1000 then t else adV0 i) = adV0 i := if_neg (by omega)
      show _ ∧ _ ∧ va_OF _ _ _ (.ref (if i = 1000 then t else adV0 i)) _ _ _ _ ∧ va_T _ (if i = 1000 then t else adV0 i) _ _ _ _ _
      rw [h2]
      exact h1
  have hZ : va_Z "java/lang/String" "COMPACT_STRINGS" "Z" (.int 1) (fun q : Nat => s.heap.size ≤ q) s s.heap := va_Zof (hts _ wLS) (hts _ wIS) (va_eqi (hn _ jN8)) hnA
  have hR : ∀ i : Nat, i < 6 → vk_R "StiltHeralds$LandReader" (jSi i) (jSt i) (adK i) s := fun i hi => by
    have h1 := hts _ (wSR i hi)
    have h2 := htm i hi
    refine ⟨?_, ?_⟩
    · first
        | exact va_tabs rfl rfl h1
        | (simp only [Cond.before, Cond.holds, Cond.value, State.names, State.poolOf?, State.resolvedAt?] at h1 ⊢; exact h1)
    · rw [Term.string_eval_of_vm (args := #[]) (rfl : s.vm = s.vm)]
      first | exact h2 | (rw [Term.string_eval_of_vm (args := #[Value.ref b]) (rfl : s.vm = s.vm)] at h2; exact h2)
  have hl := lv_entry ([.ref b]) (n := 4) (Nat.le_of_ble_eq_true rfl)
  rw [lg_entry_eq]
  refine law_start (D := (dC, dI)) (dA := dA) (b := b) (L := L) (xs := xs) (adK := adK) (adV := adV) (n := 97) (Inv := Inv) hL hmono hI0 hp p l e room_1 s m #[Value.ref b] below meth c s.heap [] _ _ (fun q : Nat => s.heap.size ≤ q) ⟨hx, hb, hml, hown, hjT, hr, hlocks, hBs, by decide, by decide, fun z => absurd z (by decide)⟩ (by decide) (by decide) ⟨fun q => Iff.rfl, hX, hbl, hR, hSS, hZ, hZ2⟩ (fun k q h => by simp at h) ⟨fun i j p q h => by simp at h, fun k q h => by simp at h⟩ va_S.rf (fun q h => h) ⟨hl.1, hl.2.1, fun i v hv => ?_⟩ ?_
  · match i, hv with
    | 0, hv => cases hv; rw [jB0_V]; exact hl.2.2 (0, .ref b) (by simp [lv_args])
    | 1, hv => simp at hv
    | 2, hv => simp at hv
    | 3, hv => simp at hv
    | i + 4, hv => simp at hv
  · intro pc' ls' v ws' H' locs' hret hpost hP' hD' hS'
    subst hpost
    rcases hret with ⟨hd, x, ty, hv, _, _⟩ | ⟨_, h, _⟩ | ⟨_, h, _⟩
    · exact va_forget (fun q hq => hS'.2.2 q hq) (lw_ret hx hb hr hlocks hd)
    · cases h
    · cases h
