/-! ===== bits of longs ===== -/
theorem bt_or (x y : Int64) (c : Nat) : bt (x ||| y) c = (bt x c || bt y c) := by
  unfold bt; rw [Int64.toBitVec_or, BitVec.getLsbD_or]
theorem bt_and (x y : Int64) (c : Nat) : bt (x &&& y) c = (bt x c && bt y c) := by
  unfold bt; rw [Int64.toBitVec_and, BitVec.getLsbD_and]
theorem bt_xor (x y : Int64) (c : Nat) : bt (x ^^^ y) c = (bt x c ^^ bt y c) := by
  unfold bt; rw [Int64.toBitVec_xor, BitVec.getLsbD_xor]
theorem bt_m1 {c : Nat} (hc : c < 64) : bt (-1) c = true := by
  have h : ∀ c, c < 64 → bt (-1) c = true := by decide +kernel
  exact h c hc
theorem bt_ext {x y : Int64} (h : ∀ c, c < 64 → bt x c = bt y c) : x = y := by
  apply Int64.toBitVec_inj.mp
  apply BitVec.eq_of_getLsbD_eq
  intro i hi
  exact h i hi
theorem bt_ge {x : Int64} {c : Nat} (hc : 64 ≤ c) : bt x c = false := BitVec.getLsbD_of_ge _ _ hc
theorem sh_amt {c : Nat} (hc : c < 64) : (((nI c).toInt64 &&& 63).toBitVec.smod 64).toNat = c := by
  have h : ∀ c, c < 64 → (((nI c).toInt64 &&& 63).toBitVec.smod 64).toNat = c := by decide +kernel
  exact h c hc
theorem bt_shl (x : Int64) {k : Nat} (hk : k < 64) (c : Nat) : bt (x <<< ((nI k).toInt64 &&& 63)) c = (decide (c < 64) && !decide (c < k) && bt x (c - k)) := by
  unfold bt
  rw [Int64.toBitVec_shiftLeft]
  rw [BitVec.shiftLeft_eq', sh_amt hk, BitVec.getLsbD_shiftLeft]
theorem bt_shr (x : Int64) {k : Nat} (hk : k < 64) {c : Nat} (hc : c + k < 64) : bt (x >>> ((nI k).toInt64 &&& 63)) c = bt x (c + k) := by
  unfold bt
  rw [Int64.toBitVec_shiftRight]
  rw [BitVec.sshiftRight_eq', sh_amt hk, BitVec.getLsbD_sshiftRight]
  rw [if_pos (by omega), Nat.add_comm]
  simp
  omega
theorem sh_amtU {c : Nat} (hc : c < 64) : ((((nI c).toInt64.toUInt64 &&& Int64.toUInt64 63)).toBitVec % 64).toNat = c := by
  have h : ∀ c, c < 64 → ((((nI c).toInt64.toUInt64 &&& Int64.toUInt64 63)).toBitVec % 64).toNat = c := by decide +kernel
  exact h c hc
theorem bt_ushr (x : Int64) {k : Nat} (hk : k < 64) (c : Nat) : bt ((x.toUInt64 >>> ((nI k).toInt64.toUInt64 &&& Int64.toUInt64 63)).toInt64) c = bt x (c + k) := by
  unfold bt
  show (x.toUInt64 >>> ((nI k).toInt64.toUInt64 &&& Int64.toUInt64 63)).toBitVec.getLsbD c = _
  rw [UInt64.toBitVec_shiftRight]
  rw [BitVec.ushiftRight_eq', sh_amtU hk, BitVec.getLsbD_ushiftRight, Nat.add_comm]
  rfl
theorem bt_1 (c : Nat) : bt 1 c = decide (c = 0) := by
  unfold bt
  show (1#64).getLsbD c = _
  rw [BitVec.getLsbD_one]
  by_cases h : c = 0 <;> simp [h]
theorem bt_one {k : Nat} (hk : k < 64) {c : Nat} (hc : c < 64) : bt (1 <<< ((nI k).toInt64 &&& 63)) c = decide (c = k) := by
  rw [bt_shl 1 hk, bt_1]
  by_cases h1 : c < k
  · have h2 : ¬ c = k := by omega
    simp [h1, h2]
  · by_cases h2 : c = k
    · subst h2; simp [hc]
    · have h3 : ¬ c - k = 0 := by omega
      simp [h2, h3]
theorem lg_cmp0 (x y : Int64) : lg_cmp x y = 0 ↔ x = y := by
  unfold lg_cmp
  by_cases h1 : x > y
  · rw [if_pos h1]
    constructor
    · intro h; exact absurd h (by decide)
    · intro h; subst h; exact absurd h1 (Int64.lt_irrefl)
  · rw [if_neg h1]
    by_cases h2 : x = y
    · rw [if_pos h2]; exact ⟨fun _ => h2, fun _ => rfl⟩
    · rw [if_neg h2]; exact ⟨fun h => absurd h (by decide), fun h => absurd h h2⟩
theorem and1_0 (x : Int64) : x &&& 1 = 0 ↔ bt x 0 = false := by
  constructor
  · intro h
    have : bt (x &&& 1) 0 = bt 0 0 := by rw [h]
    rw [bt_and, bt_1, bt0] at this
    simpa using this
  · intro h
    apply bt_ext
    intro c hc
    rw [bt_and, bt_1, bt0]
    by_cases h0 : c = 0
    · subst h0; simp [h]
    · simp [h0]
theorem z_has (x : Int64) {c : Nat} (hc : c < 64) : f_Shhas x (nI c) = if bt x c = true then 1 else 0 := by
  unfold f_Shhas
  have h : lg_cmp ((x >>> ((nI c).toInt64 &&& 63)) &&& 1) 0 = 0 ↔ bt x c = false := by
    rw [lg_cmp0, and1_0, bt_shr x hc (by omega), Nat.zero_add]
  by_cases hb : bt x c = true
  · rw [if_pos hb, if_neg (fun z => by rw [h.mp z] at hb; cases hb)]
  · rw [if_neg hb, if_pos (h.mpr (by simpa using hb))]
