/-! ===== the heap of one fixed shape: 72 cells, as two constructors make them ===== -/
/-- what the cells hold: the ints by cell and place (fields or elements), the longs by cell and place -/
abbrev HP : Type := (Nat → Nat → Int32) × (Nat → Nat → Int64)
/-- the addresses (72 cells; 1000 the script; 2000.. the String constants, 3000.. their bytes), the classes' numbers and slots, the array classes -/
abbrev jEnv : Type := (Nat → Nat) × va_G × (Nat → ClassId)
/-- a method: its name, bytes, locals, return type -/
abbrev jM : Type := MethodName × ByteArray × Nat × Option FieldType
/-- the kind of a cell: 0 .. 8 a class of vwCl, 9 byte[], 10 int[], 11 long[], 12 boolean[], 13 State[] -/
def jKind (k : Nat) : Nat := [7, 6, 9, 2, 10, 10, 10, 10, 10, 11, 3, 2, 10, 10, 10, 10, 10, 11, 5, 10, 10, 10, 10, 10, 4, 10, 11, 11, 10, 10, 1, 10, 10, 0, 10, 10, 10, 10, 13, 12, 5, 10, 10, 10, 10, 10, 5, 10, 10, 10, 10, 10, 8, 10, 10, 10, 10, 10, 12, 10, 10, 10, 10, 10, 10, 10, 11, 11, 10, 10, 10, 10].getD k 99
def jLen (k : Nat) : Nat := [0, 0, 500, 0, 36, 6, 4, 4, 4, 48, 0, 0, 36, 6, 4, 4, 4, 48, 0, 4, 4, 4, 4, 4, 0, 4, 4, 4, 4, 4, 0, 20, 20, 0, 40, 40, 4, 4, 2, 2, 0, 4, 4, 4, 4, 4, 0, 4, 4, 4, 4, 4, 0, 36, 6, 4, 62, 124, 2, 40, 80, 500, 36, 6, 12, 4, 4, 4, 4, 4, 4, 4].getD k 0
/-- number of fields by class -/
def jNF (c : Nat) : Nat := [6, 6, 15, 9, 11, 9, 2, 9, 45].getD c 0
/-- a field's kind: 0 int, 1 long, 2 reference, 3 boolean -/
def jFt (c j : Nat) : Nat := ([[2, 0, 2, 2, 2, 2], [2, 2, 0, 0, 2, 2], [0, 0, 0, 0, 0, 0, 1, 1, 1, 2, 2, 2, 2, 2, 2], [2, 2, 0, 0, 0, 0, 0, 3, 3], [2, 2, 2, 1, 2, 2, 2, 2, 0, 0, 0], [2, 0, 0, 1, 2, 2, 2, 2, 2], [2, 0], [2, 2, 2, 2, 2, 2, 2, 2, 2], [0, 0, 2, 2, 0, 0, 0, 2, 0, 2, 2, 2, 0, 2, 0, 2, 0, 2, 0, 0, 0, 0, 0, 0, 0, 0, 0, 0, 2, 2, 0, 0, 2, 0, 2, 0, 0, 3, 2, 2, 0, 2, 2, 2, 2]].getD c []).getD j 0
/-- the cell that a reference field, or an element of State[], names -/
def jRef (k j : Nat) : Nat := match k with
  | 0 => [1, 3, 10, 18, 24, 30, 33, 38, 39].getD j 0
  | 1 => [2].getD j 0
  | 3 => [0, 0, 0, 0, 0, 0, 0, 0, 0, 4, 5, 6, 7, 8, 9].getD j 0
  | 10 => [1, 11].getD j 0
  | 11 => [0, 0, 0, 0, 0, 0, 0, 0, 0, 12, 13, 14, 15, 16, 17].getD j 0
  | 18 => [3, 0, 0, 0, 19, 20, 21, 22, 23].getD j 0
  | 24 => [3, 18, 25, 0, 26, 27, 28, 29].getD j 0
  | 30 => [3, 18, 0, 0, 31, 32].getD j 0
  | 33 => [18, 0, 34, 35, 36, 37].getD j 0
  | 38 => [40, 46].getD j 0
  | 40 => [3, 0, 0, 0, 41, 42, 43, 44, 45].getD j 0
  | 46 => [3, 0, 0, 0, 47, 48, 49, 50, 51].getD j 0
  | 52 => [0, 0, 53, 54, 0, 0, 0, 55, 0, 56, 57, 58, 0, 59, 0, 60, 0, 61, 0, 0, 0, 0, 0, 0, 0, 0, 0, 0, 62, 63, 0, 0, 64, 0, 65, 0, 0, 0, 66, 67, 0, 68, 69, 70, 71].getD j 0
  | _ => 0
def jFv (ad : Nat → Nat) (h : HP) (k j : Nat) : Value := if jFt (jKind k) j = 1 then .long (h.2 k j) else if jFt (jKind k) j = 2 then .ref (ad (jRef k j)) else .int (h.1 k j)
def jE (E : jEnv) (h : HP) (k : Nat) : va_E :=
  if jKind k ≤ 8 then .inr (jKind k, (List.range (jNF (jKind k))).map (jFv E.1 h k))
  else if jKind k = 11 then .inl (E.2.2 11, jLen k, .inr (.inl (h.2 k)))
  else if jKind k = 13 then .inl (E.2.2 13, jLen k, .inr (.inr (.inr (.inr (fun i => some (E.1 (jRef k i)))))))
  else .inl (E.2.2 (jKind k), jLen k, .inl (h.1 k))
def jW (E : jEnv) (h : HP) : va_W := (List.range 72).map (fun k => (E.1 k, jE E h k))
def jPI (h : HP) (k j : Nat) (x : Int32) : HP := (va_up h.1 k (upd (h.1 k) j x), h.2)
def jPL (h : HP) (k j : Nat) (x : Int64) : HP := (h.1, va_up h.2 k (vp_updL (h.2 k) j x))
/-- a whole int array anew -/
def jPA (h : HP) (k : Nat) (f : Nat → Int32) : HP := (va_up h.1 k f, h.2)
theorem jE_congr {E : jEnv} {h h' : HP} {k : Nat} (e1 : h'.1 k = h.1 k) (e2 : h'.2 k = h.2 k) : jE E h' k = jE E h k := by
  have e3 : jFv E.1 h' k = jFv E.1 h k := by funext j; simp only [jFv, e1, e2]
  simp only [jE, e1, e2, e3]
theorem jW_at {E : jEnv} {h : HP} {k : Nat} (hk : k < 72) : (jW E h)[k]? = some (E.1 k, jE E h k) := by
  simp [jW, hk]
theorem jW_len {E : jEnv} {h : HP} : (jW E h).length = 72 := by simp [jW]
theorem jW_get {E : jEnv} {h : HP} {k : Nat} {q : Nat × va_E} (hq : (jW E h)[k]? = some q) : k < 72 ∧ q = (E.1 k, jE E h k) := by
  have hk : k < 72 := by
    have := (List.getElem?_eq_some_iff.mp hq).1
    rwa [jW_len] at this
  rw [jW_at hk] at hq
  exact ⟨hk, (Option.some.inj hq).symm⟩
theorem jW_set {E : jEnv} {h h' : HP} {k : Nat} {e : va_E} (hk : k < 72) (he : jE E h' k = e) (ho : ∀ j, j ≠ k → jE E h' j = jE E h j) : (jW E h).set k (E.1 k, e) = jW E h' := by
  apply List.ext_getElem?
  intro i
  by_cases hi : i = k
  · subst hi
    rw [List.getElem?_set_self (by rw [jW_len]; exact hk), jW_at hk, he]
  · rw [List.getElem?_set_ne (Ne.symm hi)]
    by_cases h72 : i < 72
    · rw [jW_at h72, jW_at h72, ho i hi]
    · rw [List.getElem?_eq_none (by rw [jW_len]; omega), List.getElem?_eq_none (by rw [jW_len]; omega)]
def jIn (E : jEnv) : Nat → Prop := fun q => ∃ k, k < 72 ∧ q = E.1 k
def jInj (E : jEnv) : Prop := ∀ i j : Nat, i < 72 → j < 72 → E.1 i = E.1 j → i = j
theorem jW_D {E : jEnv} (hj : jInj E) (h : HP) : va_D (jIn E) (jW E h) := by
  refine ⟨fun i j p q hp hq e => ?_, fun k q hq => ?_⟩
  · obtain ⟨h1, rfl⟩ := jW_get hp
    obtain ⟨h2, rfl⟩ := jW_get hq
    exact hj i j h1 h2 e
  · obtain ⟨h1, rfl⟩ := jW_get hq
    exact ⟨k, h1, rfl⟩
/-- what is always known of a state: the classes, the nest mates' links, the String constants -/
def jTys (dA : Nat → ClassId) : List (ClassId × FieldType) := [(dA 9, .byte), (dA 10, .int), (dA 11, .long), (dA 12, .boolean), (dA 13, .object "StiltHeralds$State")]
def jNest : List Cond := [(Jvm.Cond.methodLinkNest "StiltHeralds" (11 : Nat) ({ cls := "StiltHeralds$Text", name := "<init>", desc := "()V" } : Jvm.MethodName) "StiltHeralds"), (Jvm.Cond.methodLinkNest "StiltHeralds$LandReader" (123 : Nat) ({ cls := "StiltHeralds", name := "has", desc := "(JI)Z" } : Jvm.MethodName) "StiltHeralds"), (Jvm.Cond.methodLinkNest "StiltHeralds$State" (65 : Nat) ({ cls := "StiltHeralds", name := "has", desc := "(JI)Z" } : Jvm.MethodName) "StiltHeralds"), (Jvm.Cond.methodLinkNest "StiltHeralds$Outlook" (82 : Nat) ({ cls := "StiltHeralds", name := "has", desc := "(JI)Z" } : Jvm.MethodName) "StiltHeralds"), (Jvm.Cond.methodLinkNest "StiltHeralds$Land" (94 : Nat) ({ cls := "StiltHeralds", name := "has", desc := "(JI)Z" } : Jvm.MethodName) "StiltHeralds")]
def jSi (i : Nat) : Nat := [69, 98, 103, 108, 113, 118].getD i 0
def jSt (i : Nat) : String := ["land", "row", "tide", "man", "news", "castle"].getD i ""
def jSl : List Nat := [4, 3, 4, 3, 4, 6]
def jSb : List (List Int32) := [[108, 97, 110, 100], [114, 111, 119], [116, 105, 100, 101], [109, 97, 110], [110, 101, 119, 115], [99, 97, 115, 116, 108, 101]]
def jSC (E : jEnv) (U : State) (H : Heap) : Prop :=
  va_K E.2.1 vwCl (jTys E.2.2) U ∧ (∀ w ∈ jNest, va_Nw w U) ∧ (∀ i : Nat, i < 6 → vk_R "StiltHeralds$LandReader" (jSi i) (jSt i) (E.1 (2000 + i)) U) ∧
  vk_S 6 jSl jSb (fun i => E.1 (2000 + i)) (fun i => E.1 (3000 + i)) (jIn E) U H ∧ (va_Z "java/lang/String" "COMPACT_STRINGS" "Z" (.int 1) (jIn E) U H ∧ (va_Z "jdk/internal/util/Preconditions" "SIOOBE_FORMATTER" "Ljava/util/function/BiFunction;" .null (jIn E) U H ∨ va_Z "jdk/internal/util/Preconditions" "SIOOBE_FORMATTER" "Ljava/util/function/BiFunction;" (.ref (E.1 4000)) (jIn E) U H)) ∧ jInj E
theorem jSC.moved {E : jEnv} {s U : State} {H H1 : Heap} (h : jSC E s H) (hW : s.WarmedH U.vm) (hq : ∀ a : Nat, a < H.size → ¬ jIn E a → H1[a]? = H[a]?) : jSC E U H1 := by
  obtain ⟨h1, h2, h3, h4, h5, h6⟩ := h
  refine ⟨va_K.moved hW.alike h1, fun w hw => ?_, fun i hi => (h3 i hi).warm hW, (h4.moved hW.alike).kept hq, ⟨(h5.1.moved hW.alike).kept hq, h5.2.imp (fun z => (z.moved hW.alike).kept hq) (fun z => (z.moved hW.alike).kept hq)⟩, h6⟩
  have hz := h2 w hw
  simp only [jNest, List.mem_cons, List.not_mem_nil, or_false] at hw
  rcases hw with rfl | rfl | rfl | rfl | rfl <;> exact hz.warmM hW
theorem jSC.same {E : jEnv} {u U : State} {H : Heap} (hv : U.vm = u.vm) (h : jSC E u H) : jSC E U H := by
  obtain ⟨h1, h2, h3, h4, h5, h6⟩ := h
  have ha : u.vm.Alike U.vm := by rw [hv]; exact Vm.Alike.refl u.vm
  refine ⟨va_K.moved ha h1, fun w hw => ?_, fun i hi => (h3 i hi).same hv, h4.moved ha, ⟨h5.1.moved ha, h5.2.imp (fun z => z.moved ha) (fun z => z.moved ha)⟩, h6⟩
  have hz := h2 w hw
  simp only [jNest, List.mem_cons, List.not_mem_nil, or_false] at hw
  rcases hw with rfl | rfl | rfl | rfl | rfl <;> exact va_Nw.same rfl hv.symm hz
/-- the tables' words that a method may use -/
def jT : List Cond := lw_tbl.filter goodWord
theorem jT_in {w : Cond} (h : w ∈ lw_tbl) (hg : goodWord w = true) : w ∈ jT := List.mem_filter.mpr ⟨h, hg⟩
theorem jT_good : ∀ w ∈ jT, goodWord w = true := fun w h => (List.mem_filter.mp h).2
/-! ===== values and locals ===== -/
def jV (E : jEnv) (v : Value) : Value := match v with
  | .ref k => .ref (E.1 k)
  | w => w
theorem jV_cat (E : jEnv) (v : Value) : (jV E v).category = v.category := by cases v <;> rfl
def jL (E : jEnv) (ls : Array Slot) (nL : Nat) (lv : List (Option Value)) : Prop := ls.size = nL ∧ lv_wf ls ∧ ∀ (i : Nat) (v : Value), lv[i]? = some (some v) → ls[i]? = some (.val (jV E v))
def jset (lv : List (Option Value)) (i : Nat) (v : Value) : List (Option Value) :=
  lv.mapIdx (fun j o => if j = i then some v else if v.category = 2 ∧ j = i + 1 then none else match o with
    | some w => if j + 1 = i ∧ w.category = 2 then none else some w
    | none => none)
/-- the locals as the kit lists them -/
def jA (E : jEnv) (lv : List (Option Value)) : List (Nat × Value) := (List.range lv.length).filterMap (fun i => match lv[i]? with
    | some (some v) => some (i, jV E v)
    | _ => none)
theorem jA_mem {E : jEnv} {lv : List (Option Value)} {i : Nat} {v : Value} (h : lv[i]? = some (some v)) : (i, jV E v) ∈ jA E lv := by
  refine List.mem_filterMap.mpr ⟨i, List.mem_range.mpr (List.getElem?_eq_some_iff.mp h).1, ?_⟩
  simp [h]
theorem jA_of {E : jEnv} {lv : List (Option Value)} {q : Nat × Value} (h : q ∈ jA E lv) : ∃ v, lv[q.1]? = some (some v) ∧ q.2 = jV E v := by
  obtain ⟨i, -, hi⟩ := List.mem_filterMap.mp h
  cases hv : lv[i]? with
  | none => simp [hv] at hi
  | some o =>
    cases o with
    | none => simp [hv] at hi
    | some v =>
      simp [hv] at hi
      subst hi
      exact ⟨v, hv, rfl⟩
theorem jL.has {E : jEnv} {ls : Array Slot} {nL : Nat} {lv : List (Option Value)} (h : jL E ls nL lv) : lv_has ls nL (jA E lv) := by
  refine ⟨h.1, h.2.1, fun q hq => ?_⟩
  obtain ⟨v, h1, h2⟩ := jA_of hq
  rw [h2]
  exact h.2.2 _ _ h1
theorem jset_at {lv : List (Option Value)} {i j : Nat} {v w : Value} (h : (jset lv i v)[j]? = some (some w)) : (j = i ∧ w = v) ∨ (j ≠ i ∧ ¬ (v.category = 2 ∧ j = i + 1) ∧ lv[j]? = some (some w) ∧ ¬ (j + 1 = i ∧ w.category = 2)) := by
  simp only [jset, List.getElem?_mapIdx] at h
  cases ho : lv[j]? with
  | none => simp [ho] at h
  | some o =>
    simp only [ho, Option.map_some, Option.some.injEq] at h
    by_cases c1 : j = i
    · rw [if_pos c1] at h
      exact Or.inl ⟨c1, (Option.some.inj h).symm⟩
    · rw [if_neg c1] at h
      by_cases c2 : v.category = 2 ∧ j = i + 1
      · rw [if_pos c2] at h; cases h
      · rw [if_neg c2] at h
        cases o with
        | none => cases h
        | some u =>
          dsimp only at h
          by_cases c3 : j + 1 = i ∧ u.category = 2
          · rw [if_pos c3] at h; cases h
          · rw [if_neg c3] at h
            cases h
            exact Or.inr ⟨c1, c2, rfl, c3⟩
theorem jL.set1 {E : jEnv} {ls : Array Slot} {nL i : Nat} {lv : List (Option Value)} {v : Value} (hc : v.category = 1) (h : lv_has ls nL ((i, jV E v) :: (jA E lv).filter (fun q => !(q.1 == i) && !(q.1 + 1 == i && q.2.category == 2)))) : jL E ls nL (jset lv i v) := by
  refine ⟨h.1, h.2.1, fun j w hw => ?_⟩
  rcases jset_at hw with ⟨rfl, rfl⟩ | ⟨h1, h2, h3, h4⟩
  · exact h.2.2 _ List.mem_cons_self
  · refine h.2.2 (j, jV E w) (List.mem_cons_of_mem _ (List.mem_filter.mpr ⟨jA_mem h3, ?_⟩))
    simp only [jV_cat]
    by_cases h5 : j + 1 = i
    · have : ¬ w.category = 2 := fun z => h4 ⟨h5, z⟩
      simp [h1, h5, this]
    · simp [h1, h5]
theorem jL.set2 {E : jEnv} {ls : Array Slot} {nL i : Nat} {lv : List (Option Value)} {v : Value} (hc : v.category = 2) (h : lv_has ls nL ((i, jV E v) :: (jA E lv).filter (fun q => !(q.1 == i) && (!(q.1 == i + 1) && !(q.1 + 1 == i && q.2.category == 2))))) : jL E ls nL (jset lv i v) := by
  refine ⟨h.1, h.2.1, fun j w hw => ?_⟩
  rcases jset_at hw with ⟨rfl, rfl⟩ | ⟨h1, h2, h3, h4⟩
  · exact h.2.2 _ List.mem_cons_self
  · refine h.2.2 (j, jV E w) (List.mem_cons_of_mem _ (List.mem_filter.mpr ⟨jA_mem h3, ?_⟩))
    simp only [jV_cat]
    have h6 : ¬ j = i + 1 := fun z => h2 ⟨hc, z⟩
    by_cases h5 : j + 1 = i
    · have : ¬ w.category = 2 := fun z => h4 ⟨h5, z⟩
      simp [h1, h5, this, h6]
    · simp [h1, h5, h6]
