/-! ===== numbers ===== -/
theorem z_of {x : Int32} {n : Nat} (h : x.toInt = (n : Int)) : x = nI n := by
  have h1 := Int32.toInt_lt x
  have hn : n < 2 ^ 31 := by omega
  apply Int32.toInt_inj.mp
  rw [h, nI_toInt hn]
theorem z_Moin (x y z : Int64) : f_Moin x y z = if y.toInt ≤ x.toInt ∧ x.toInt ≤ z.toInt then 1 else 0 := by
  unfold f_Moin
  simp only [lg_cmp_lt, lg_cmp_gt, Int64.lt_iff_toInt_lt]
  by_cases h1 : x.toInt < y.toInt
  · rw [if_pos h1, if_neg (by omega)]
  · rw [if_neg h1]
    by_cases h2 : z.toInt < x.toInt
    · rw [if_pos h2, if_neg (by omega)]
    · rw [if_neg h2, if_pos (by omega)]
theorem z_l (x : Int32) : (x.toInt64).toInt = x.toInt := by
  simp
/-- an index below n, as the model asks it -/
theorem z_idx {x : Int32} {n : Nat} (hn : n < 2 ^ 30) : f_Moin x.toInt64 0 ((nI n - 1).toInt64) = if 0 ≤ x.toInt ∧ x.toInt < n then 1 else 0 := by
  rw [z_Moin, z_l, z_l]
  have h1 : (nI n - 1).toInt = (n : Int) - 1 := pk_sub_toInt (a := n) (b := 1) hn (by omega)
  rw [h1]
  have h0 : (0 : Int64).toInt = 0 := by decide
  rw [h0]
  by_cases h : 0 ≤ x.toInt ∧ x.toInt < n
  · rw [if_pos h, if_pos (by omega)]
  · rw [if_neg h, if_neg (by omega)]
theorem z_lt0 (x : Int32) : x < 0 ↔ x.toInt < 0 := by rw [Int32.lt_iff_toInt_lt, Int32.toInt_zero]
theorem z_ge {x : Int32} {n : Nat} (hn : n < 2 ^ 31) : nI n ≤ x ↔ (n : Int) ≤ x.toInt := by rw [Int32.le_iff_toInt_le, nI_toInt hn]
/-- a man, a piece of news: class and model ask alike -/
theorem z_isMan {n : Nat} (hn : n < 2 ^ 30) (x : Int32) : (f_LdisMan (nI n) x = 1 ∧ f_MoisMan (nI n) x = 1 ∧ ∃ m, m < n ∧ x = nI m) ∨ (f_LdisMan (nI n) x = 0 ∧ f_MoisMan (nI n) x = 0) := by
  unfold f_LdisMan f_MoisMan
  rw [z_idx hn]
  simp only [z_lt0, z_ge (show n < 2 ^ 31 by omega)]
  by_cases h : 0 ≤ x.toInt ∧ x.toInt < n
  · left
    rw [if_neg (by omega), if_neg (by omega), if_pos h]
    exact ⟨rfl, rfl, x.toInt.toNat, by omega, z_of (by omega)⟩
  · right
    rw [if_neg h]
    refine ⟨?_, rfl⟩
    by_cases h1 : x.toInt < 0
    · rw [if_pos h1]
    · rw [if_neg h1, if_pos (by omega)]
theorem z_isNews {n : Nat} (hn : n < 2 ^ 30) (x : Int32) : (f_LdisNews (nI n) x = 1 ∧ f_MoisNews (nI n) x = 1 ∧ ∃ m, m < n ∧ x = nI m) ∨ (f_LdisNews (nI n) x = 0 ∧ f_MoisNews (nI n) x = 0) := z_isMan hn x
/-- a cell -/
theorem z_cell {w g : Nat} (hw : w ≤ 9) (hg : g ≤ 9) (x y : Int32) : (∃ a b, a < w ∧ b < g ∧ x = nI a ∧ y = nI b ∧ f_LdisCell (nI w) (nI g) x y = 1 ∧ f_LdcellOf3 (nI w) x y = nI (w * b + a) ∧ f_Mocell (nI w) (nI g) x y = nI (w * b + a)) ∨ (f_LdisCell (nI w) (nI g) x y = 0 ∧ f_Mocell (nI w) (nI g) x y = -1) := by
  unfold f_LdisCell f_Mocell f_LdcellOf3
  rw [z_idx (show w < 2 ^ 30 by omega), z_idx (show g < 2 ^ 30 by omega)]
  simp only [z_lt0, z_ge (show w < 2 ^ 31 by omega), z_ge (show g < 2 ^ 31 by omega)]
  by_cases h1 : (0 ≤ x.toInt ∧ x.toInt < w) ∧ (0 ≤ y.toInt ∧ y.toInt < g)
  · left
    have e1 : x = nI x.toInt.toNat := z_of (by omega)
    have e2 : y = nI y.toInt.toNat := z_of (by omega)
    have h2 : y * nI w + x = nI (w * y.toInt.toNat + x.toInt.toNat) := by
      conv => lhs; rw [e1, e2]
      rw [pk_mul, nI_add, Nat.mul_comm]
    have h3 : nI w * y + x = nI (w * y.toInt.toNat + x.toInt.toNat) := by
      conv => lhs; rw [e1, e2]
      rw [pk_mul, nI_add]
    refine ⟨x.toInt.toNat, y.toInt.toNat, by omega, by omega, e1, e2, ?_, h2, ?_⟩
    · (repeat' split) <;> first | rfl | omega
    · rw [if_pos h1.1, if_pos h1.2, if_neg (by decide), if_neg (by decide), h3]
  · right
    refine ⟨?_, ?_⟩
    · (repeat' split) <;> first | rfl | omega
    · by_cases h2 : 0 ≤ x.toInt ∧ x.toInt < w
      · rw [if_pos h2, if_neg (show ¬ (0 ≤ y.toInt ∧ y.toInt < g) from fun h3 => h1 ⟨h2, h3⟩), if_neg (show ¬ (1 : Int32) = 0 by decide), if_pos rfl]
      · rw [if_neg h2, if_pos rfl]
/-- a number between 0 and a small bound -/
theorem z_upto {x : Int32} {b : Int64} {k : Nat} (hb : b.toInt = (k : Int)) : f_Moin x.toInt64 0 b = if 0 ≤ x.toInt ∧ x.toInt ≤ k then 1 else 0 := by
  rw [z_Moin, z_l, hb]
  rfl
theorem z_way (x : Int32) : (f_ShisWay x = 1 ∧ f_Moin x.toInt64 0 4 = 1 ∧ ∃ k, k ≤ 4 ∧ x = nI k) ∨ (f_ShisWay x = 0 ∧ f_Moin x.toInt64 0 4 = 0) := by
  rw [z_upto (k := 4) (by decide)]
  unfold f_ShisWay
  have h4 : (4 : Int32) < x ↔ 4 < x.toInt := by rw [Int32.lt_iff_toInt_lt]; rfl
  simp only [z_lt0, h4]
  by_cases h : 0 ≤ x.toInt ∧ x.toInt ≤ 4
  · left
    have h' : 0 ≤ x.toInt ∧ x.toInt ≤ ((4 : Nat) : Int) := h
    rw [if_neg (by omega), if_neg (by omega), if_pos h']
    exact ⟨rfl, rfl, x.toInt.toNat, by omega, z_of (by omega)⟩
  · right
    have h' : ¬ (0 ≤ x.toInt ∧ x.toInt ≤ ((4 : Nat) : Int)) := h
    rw [if_neg h']
    refine ⟨?_, rfl⟩
    (repeat' split) <;> first | rfl | omega
