/-! ===== counting bits ===== -/
def zCn (p : Nat → Bool) : Nat → Nat
  | 0 => 0
  | n + 1 => zCn p n + (if p n = true then 1 else 0)
theorem zCn_congr {p q : Nat → Bool} : ∀ {n : Nat}, (∀ k, k < n → p k = q k) → zCn p n = zCn q n
  | 0, _ => rfl
  | n + 1, h => by
    unfold zCn
    rw [zCn_congr (fun k hk => h k (by omega)), h n (by omega)]
theorem zCn_le (p : Nat → Bool) : ∀ n, zCn p n ≤ n
  | 0 => Nat.le_refl _
  | n + 1 => by
    have := zCn_le p n
    unfold zCn
    split <;> omega
theorem zCn_add (p : Nat → Bool) (a : Nat) : ∀ b, zCn p (a + b) = zCn p a + zCn (fun k => p (a + k)) b
  | 0 => rfl
  | b + 1 => by
    have := zCn_add p a b
    show zCn p (a + b) + _ = zCn p a + (zCn (fun k => p (a + k)) b + _)
    rw [this, Nat.add_assoc]
    rfl
theorem zCn_0 {p : Nat → Bool} : ∀ {n : Nat}, (∀ k, k < n → p k = false) → zCn p n = 0
  | 0, _ => rfl
  | n + 1, h => by
    unfold zCn
    rw [zCn_0 (fun k hk => h k (by omega)), h n (by omega)]
    rfl
theorem zCn_sup {p : Nat → Bool} {a b : Nat} (hab : a ≤ b) (h : ∀ c, p c = true → c < a) : zCn p b = zCn p a := by
  obtain ⟨k, rfl⟩ : ∃ k, b = a + k := ⟨b - a, by omega⟩
  rw [zCn_add, zCn_0 (n := k), Nat.add_zero]
  intro c hc
  cases q : p (a + c)
  · rfl
  · have := h _ q; omega
/-- a mask of n bytes -/
def kM (m : Nat) : Nat → Nat
  | 0 => 0
  | n + 1 => m + 256 * kM m n
theorem kM_s (m n : Nat) : kM m (n + 1) = m + 256 * kM m n := rfl
theorem k_and {a m : Nat} (ha : a < 256) (hm : m < 256) (u v : Nat) : (a + 256 * u) &&& (m + 256 * v) = (a &&& m) + 256 * (u &&& v) := by
  have h1 : a &&& m < 256 := Nat.lt_of_le_of_lt Nat.and_le_left ha
  apply Nat.eq_of_testBit_eq
  intro i
  rw [Nat.testBit_and]
  have e : ∀ b c : Nat, b < 256 → (b + 256 * c).testBit i = if i < 8 then b.testBit i else c.testBit (i - 8) := fun b c hb => by
    rw [Nat.add_comm]
    exact Nat.testBit_two_pow_mul_add c (i := 8) hb i
  rw [e a u ha, e m v hm, e _ _ h1]
  by_cases q : i < 8
  · rw [if_pos q, if_pos q, if_pos q, Nat.testBit_and]
  · rw [if_neg q, if_neg q, if_neg q, Nat.testBit_and]
def k1 (n x : Nat) : Nat := x - ((x / 2) &&& kM 0x55 n)
def k2 (n x : Nat) : Nat := (x &&& kM 0x33 n) + ((x / 4) &&& kM 0x33 n)
def k3 (n x : Nat) : Nat := (x + x / 16) &&& kM 0x0f n
def b1 (a : Nat) : Nat := a - ((a / 2) &&& 0x55)
def b2 (a : Nat) : Nat := (a &&& 0x33) + ((a / 4) &&& 0x33)
def b3 (a : Nat) : Nat := (a + a / 16) &&& 0x0f
theorem k_d1 : ∀ a, a < 256 → ∀ e, e < 2 → (a / 2 + 128 * e) &&& 0x55 = (a / 2) &&& 0x55 := by decide +kernel
theorem k_d2 : ∀ a, a < 256 → ∀ e, e < 4 → (a / 4 + 64 * e) &&& 0x33 = (a / 4) &&& 0x33 := by decide +kernel
theorem k_d3 : ∀ a, a < 103 → ∀ e, e < 7 → (a + a / 16 + 16 * e) &&& 0x0f = (a + a / 16) &&& 0x0f := by decide +kernel
theorem k_b2 : ∀ a, a < 256 → b1 a < 256 ∧ b2 a < 103 ∧ b2 a % 16 < 7 ∧ b3 (b2 (b1 a)) ≤ 8 ∧ b3 (b2 (b1 a)) = zCn (fun k => a.testBit k) 8 := by decide +kernel
theorem k1_s (n : Nat) {a : Nat} (ha : a < 256) (b : Nat) : k1 (n + 1) (a + 256 * b) = b1 a + 256 * k1 n b := by
  unfold k1 b1
  rw [kM_s]
  have e : (a + 256 * b) / 2 = (a / 2 + 128 * (b % 2)) + 256 * (b / 2) := by omega
  rw [e, k_and (by omega) (by decide), k_d1 a ha _ (Nat.mod_lt _ (by decide))]
  have h1 : (a / 2) &&& 0x55 ≤ a / 2 := Nat.and_le_left
  have h2 : (b / 2) &&& kM 0x55 n ≤ b / 2 := Nat.and_le_left
  omega
theorem k2_s (n : Nat) {a : Nat} (ha : a < 256) (b : Nat) : k2 (n + 1) (a + 256 * b) = b2 a + 256 * k2 n b := by
  unfold k2 b2
  rw [kM_s]
  have e : (a + 256 * b) / 4 = (a / 4 + 64 * (b % 4)) + 256 * (b / 4) := by omega
  rw [e, k_and (a := a) ha (by decide), k_and (a := a / 4 + 64 * (b % 4)) (by omega) (by decide), k_d2 a ha _ (Nat.mod_lt _ (by decide))]
  omega
theorem k2_16 (n x : Nat) : k2 n x % 16 < 7 := by
  cases n with
  | zero => unfold k2 kM; rw [Nat.and_zero, Nat.and_zero]; decide
  | succ n =>
    have e : x = x % 256 + 256 * (x / 256) := by omega
    rw [e, k2_s n (Nat.mod_lt _ (by decide))]
    have := (k_b2 (x % 256) (Nat.mod_lt _ (by decide))).2.2.1
    omega
theorem k3_s (n : Nat) {a b : Nat} (ha : a < 103) (hb : b % 16 < 7) : k3 (n + 1) (a + 256 * b) = b3 a + 256 * k3 n b := by
  unfold k3 b3
  rw [kM_s]
  have e : a + 256 * b + (a + 256 * b) / 16 = (a + a / 16 + 16 * (b % 16)) + 256 * (b + b / 16) := by omega
  rw [e, k_and (by omega) (by decide), k_d3 a ha _ hb]
/-- the sum of what the bytes hold -/
def kT (n x : Nat) : Nat := k3 n (k2 n (k1 n x))
theorem kT_s (n x : Nat) : kT (n + 1) x = b3 (b2 (b1 (x % 256))) + 256 * kT n (x / 256) := by
  have hx : x % 256 < 256 := Nat.mod_lt _ (by decide)
  obtain ⟨h1, _, _, _, _⟩ := k_b2 (x % 256) hx
  obtain ⟨_, h2, _, _, _⟩ := k_b2 (b1 (x % 256)) h1
  have e : kT (n + 1) x = kT (n + 1) (x % 256 + 256 * (x / 256)) := by congr 1; omega
  rw [e]
  unfold kT
  rw [k1_s n hx, k2_s n h1, k3_s n h2 (k2_16 n _)]
theorem kT_0 (x : Nat) : kT 0 x = 0 := by unfold kT k3 kM; rw [Nat.and_zero]
theorem zCn_byte (x n : Nat) : zCn (fun k => x.testBit k) (8 + n) = b3 (b2 (b1 (x % 256))) + zCn (fun k => (x / 256).testBit k) n := by
  have hx : x % 256 < 256 := Nat.mod_lt _ (by decide)
  rw [(k_b2 (x % 256) hx).2.2.2.2, zCn_add]
  congr 1
  · apply zCn_congr
    intro k hk
    rw [show (256 : Nat) = 2 ^ 8 from rfl, Nat.testBit_mod_two_pow]
    simp [hk]
  · apply zCn_congr
    intro k hk
    rw [show (256 : Nat) = 2 ^ 8 from rfl, Nat.testBit_div_two_pow]
    congr 1
    omega
theorem k_sum {p0 p1 p2 p3 p4 p5 p6 p7 y1 y2 y3 y4 y5 y6 y a b c : Nat} (h0 : p0 ≤ 8) (h1 : p1 ≤ 8) (h2 : p2 ≤ 8) (h3 : p3 ≤ 8) (h4 : p4 ≤ 8) (h5 : p5 ≤ 8) (h6 : p6 ≤ 8) (h7 : p7 ≤ 8) (e6 : y6 = p6 + 256 * p7) (e5 : y5 = p5 + 256 * y6) (e4 : y4 = p4 + 256 * y5) (e3 : y3 = p3 + 256 * y4) (e2 : y2 = p2 + 256 * y3) (e1 : y1 = p1 + 256 * y2) (e0 : y = p0 + 256 * y1) (ea : a = y + y / 256) (eb : b = a + a / 65536) (ec : c = b + b / 4294967296) : c % 128 = p0 + p1 + p2 + p3 + p4 + p5 + p6 + p7 ∧ y < 2 ^ 62 ∧ a < 2 ^ 62 ∧ b < 2 ^ 62 := by
  have q6 : y6 ≤ 8 * 257 := by omega
  have q5 : y5 ≤ 8 + 256 * (8 * 257) := by omega
  have q4 : y4 ≤ 8 + 256 * (8 + 256 * (8 * 257)) := by omega
  have q3 : y3 ≤ 8 + 256 * (8 + 256 * (8 + 256 * (8 * 257))) := by omega
  have q2 : y2 ≤ 8 + 256 * (8 + 256 * (8 + 256 * (8 + 256 * (8 * 257)))) := by omega
  have q1 : y1 ≤ 8 + 256 * (8 + 256 * (8 + 256 * (8 + 256 * (8 + 256 * (8 * 257))))) := by omega
  have f1 : y / 256 = y1 := by clear ea eb ec e1 e2 e3 e4 e5 e6; omega
  rw [f1] at ea
  have g1 : a = (p0 + p1) + 256 * (p1 + p2) + 65536 * (y2 + y3) := by clear eb ec f1; omega
  have f2 : a / 65536 = y2 + y3 := by clear ea eb ec f1 e0 e1 e2 e3 e4 e5 e6; omega
  rw [f2] at eb
  have g2 : b = (p0 + p1 + p2 + p3) + 256 * (p1 + p2 + p3 + p4) + 65536 * ((p2 + p3 + p4 + p5) + 256 * (p3 + p4 + p5 + p6) + 65536 * (y4 + y5 + y6 + p7)) := by clear ea ec f1 f2 e0 e1; omega
  have f3 : b / 4294967296 = y4 + y5 + y6 + p7 := by clear ea eb ec f1 f2 g1 e0 e1 e2 e3 e4 e5 e6; omega
  rw [f3] at ec
  have g3 : c = (p0 + p1 + p2 + p3 + p4 + p5 + p6 + p7) + 128 * (2 * (p1 + p2 + p3 + p4) + 512 * ((p2 + p3 + p4 + p5) + 256 * (p3 + p4 + p5 + p6) + 65536 * (y4 + y5 + y6 + p7)) + 2 * y5 + 2 * y6 + 2 * p7) := by clear ea eb f1 f2 f3 g1 e0 e1 e2 e3; omega
  refine ⟨?_, ?_, ?_, ?_⟩
  · clear ea eb ec f1 f2 f3 g1 g2 e0 e1 e2 e3 e4 e5 e6 q1 q2 q3 q4 q5 q6; omega
  · clear ea eb ec f1 f2 f3 g1 g2 g3 e1 e2 e3 e4 e5 e6; omega
  · clear eb ec f1 f2 f3 g1 g2 g3 e1 e2 e3 e4 e5 e6; omega
  · clear ec f1 f2 f3 g1 g2 g3 e1 e2 e3 e4 e5 e6; omega
/-- the same for longs -/
def u1 (x : Int64) : Int64 := x - (((x.toUInt64 >>> ((1 : Int32).toInt64.toUInt64 &&& Int64.toUInt64 63)).toInt64) &&& 6148914691236517205)
def u2 (x : Int64) : Int64 := (x &&& 3689348814741910323) + (((x.toUInt64 >>> ((2 : Int32).toInt64.toUInt64 &&& Int64.toUInt64 63)).toInt64) &&& 3689348814741910323)
def u3 (x : Int64) : Int64 := (x + ((x.toUInt64 >>> ((4 : Int32).toInt64.toUInt64 &&& Int64.toUInt64 63)).toInt64)) &&& 1085102592571150095
def u4 (x : Int64) : Int64 := x + ((x.toUInt64 >>> ((8 : Int32).toInt64.toUInt64 &&& Int64.toUInt64 63)).toInt64)
def u5 (x : Int64) : Int64 := x + ((x.toUInt64 >>> ((16 : Int32).toInt64.toUInt64 &&& Int64.toUInt64 63)).toInt64)
def u6 (x : Int64) : Int64 := x + ((x.toUInt64 >>> ((32 : Int32).toInt64.toUInt64 &&& Int64.toUInt64 63)).toInt64)
theorem f_bc (x : Int64) : f_bitCount x = (u6 (u5 (u4 (u3 (u2 (u1 x)))))).toInt32 &&& 127 := by
  unfold f_bitCount u6 u5 u4 u3 u2 u1
  rfl
theorem lN_ushr {a : Nat} (k : Nat) (ha : a < 2 ^ 64) (hk : k < 64) : ((lN a).toUInt64 >>> ((nI k).toInt64.toUInt64 &&& Int64.toUInt64 63)).toInt64 = lN (a / 2 ^ k) := by
  apply Int64.toBitVec_inj.mp
  show ((lN a).toUInt64 >>> ((nI k).toInt64.toUInt64 &&& Int64.toUInt64 63)).toBitVec = BitVec.ofNat 64 (a / 2 ^ k)
  rw [UInt64.toBitVec_shiftRight, BitVec.ushiftRight_eq', sh_amtU hk]
  apply BitVec.eq_of_toNat_eq
  rw [BitVec.toNat_ushiftRight, Nat.shiftRight_eq_div_pow]
  show (BitVec.ofNat 64 a).toNat / 2 ^ k = _
  have h2 : a / 2 ^ k ≤ a := Nat.div_le_self _ _
  rw [BitVec.toNat_ofNat, BitVec.toNat_ofNat, Nat.mod_eq_of_lt ha, Nat.mod_eq_of_lt (by omega)]
theorem u1_n {a : Nat} (ha : a < 2 ^ 64) : u1 (lN a) = lN (k1 8 a) := by
  unfold u1 k1
  have h1 : (a / 2) &&& kM 0x55 8 ≤ a / 2 := Nat.and_le_left
  rw [show ((1 : Int32).toInt64) = (nI 1).toInt64 from rfl, lN_ushr 1 ha (by decide), show (6148914691236517205 : Int64) = lN (kM 0x55 8) from by decide +kernel, fb_andL, show 2 ^ 1 = 2 from rfl, lN_sub (by omega)]
theorem u2_n {a : Nat} (ha : a < 2 ^ 64) : u2 (lN a) = lN (k2 8 a) := by
  unfold u2 k2
  rw [show ((2 : Int32).toInt64) = (nI 2).toInt64 from rfl, lN_ushr 2 ha (by decide), show (3689348814741910323 : Int64) = lN (kM 0x33 8) from by decide +kernel, fb_andL, fb_andL, show 2 ^ 2 = 4 from rfl, lN_add]
theorem u3_n {a : Nat} (ha : a < 2 ^ 64) : u3 (lN a) = lN (k3 8 a) := by
  unfold u3 k3
  rw [show ((4 : Int32).toInt64) = (nI 4).toInt64 from rfl, lN_ushr 4 ha (by decide), show (1085102592571150095 : Int64) = lN (kM 0x0f 8) from by decide +kernel, show 2 ^ 4 = 16 from rfl, lN_add, fb_andL]
theorem u4_n {a : Nat} (ha : a < 2 ^ 64) : u4 (lN a) = lN (a + a / 256) := by
  unfold u4
  rw [show ((8 : Int32).toInt64) = (nI 8).toInt64 from rfl, lN_ushr 8 ha (by decide), show 2 ^ 8 = 256 from rfl, lN_add]
theorem u5_n {a : Nat} (ha : a < 2 ^ 64) : u5 (lN a) = lN (a + a / 65536) := by
  unfold u5
  rw [show ((16 : Int32).toInt64) = (nI 16).toInt64 from rfl, lN_ushr 16 ha (by decide), show 2 ^ 16 = 65536 from rfl, lN_add]
theorem u6_n {a : Nat} (ha : a < 2 ^ 64) : u6 (lN a) = lN (a + a / 4294967296) := by
  unfold u6
  rw [show ((32 : Int32).toInt64) = (nI 32).toInt64 from rfl, lN_ushr 32 ha (by decide), show 2 ^ 32 = 4294967296 from rfl, lN_add]
theorem k_lt2 (a : Nat) : k2 8 a < 2 ^ 64 := by
  have h1 : a &&& kM 0x33 8 ≤ kM 0x33 8 := Nat.and_le_right
  have h2 : (a / 4) &&& kM 0x33 8 ≤ kM 0x33 8 := Nat.and_le_right
  have h3 : kM 0x33 8 < 2 ^ 62 := by decide +kernel
  unfold k2
  omega
theorem z_pop (x : Int64) : f_bitCount x = nI (zCn (bt x) 64) := by
  obtain ⟨N, hN, hx⟩ : ∃ N : Nat, N < 2 ^ 64 ∧ x = lN N := ⟨x.toBitVec.toNat, x.toBitVec.isLt, by
    apply Int64.toBitVec_inj.mp
    show x.toBitVec = BitVec.ofNat 64 x.toBitVec.toNat
    rw [BitVec.ofNat_toNat, BitVec.setWidth_eq]⟩
  have hc : zCn (bt x) 64 = zCn (fun k => N.testBit k) 64 := by
    apply zCn_congr
    intro k hk
    rw [hx]
    show (BitVec.ofNat 64 N).getLsbD k = _
    rw [BitVec.getLsbD_ofNat]
    simp [hk]
  have hk1 : k1 8 N < 2 ^ 64 := by unfold k1; omega
  have hk2 := k_lt2 (k1 8 N)
  have hb : ∀ y : Nat, b3 (b2 (b1 (y % 256))) ≤ 8 := fun y => (k_b2 (y % 256) (Nat.mod_lt _ (by decide))).2.2.2.1
  have eT : k3 8 (k2 8 (k1 8 N)) = kT 8 N := rfl
  have e0 := kT_s 7 N
  have e1 := kT_s 6 (N / 256)
  have e2 := kT_s 5 (N / 256 / 256)
  have e3 := kT_s 4 (N / 256 / 256 / 256)
  have e4 := kT_s 3 (N / 256 / 256 / 256 / 256)
  have e5 := kT_s 2 (N / 256 / 256 / 256 / 256 / 256)
  have e6 := kT_s 1 (N / 256 / 256 / 256 / 256 / 256 / 256)
  have e7 := kT_s 0 (N / 256 / 256 / 256 / 256 / 256 / 256 / 256)
  rw [kT_0, Nat.mul_zero, Nat.add_zero] at e7
  have g0 := zCn_byte N 56
  have g1 := zCn_byte (N / 256) 48
  have g2 := zCn_byte (N / 256 / 256) 40
  have g3 := zCn_byte (N / 256 / 256 / 256) 32
  have g4 := zCn_byte (N / 256 / 256 / 256 / 256) 24
  have g5 := zCn_byte (N / 256 / 256 / 256 / 256 / 256) 16
  have g6 := zCn_byte (N / 256 / 256 / 256 / 256 / 256 / 256) 8
  have g7 := zCn_byte (N / 256 / 256 / 256 / 256 / 256 / 256 / 256) 0
  rw [show zCn (fun k => (N / 256 / 256 / 256 / 256 / 256 / 256 / 256 / 256).testBit k) 0 = 0 from rfl, Nat.add_zero, Nat.add_zero] at g7
  rw [show 8 + 8 = 16 from rfl] at g6
  rw [show 8 + 16 = 24 from rfl] at g5
  rw [show 8 + 24 = 32 from rfl] at g4
  rw [show 8 + 32 = 40 from rfl] at g3
  rw [show 8 + 40 = 48 from rfl] at g2
  rw [show 8 + 48 = 56 from rfl] at g1
  rw [show 8 + 56 = 64 from rfl] at g0
  rw [g7] at g6; rw [g6] at g5; rw [g5] at g4; rw [g4] at g3; rw [g3] at g2; rw [g2] at g1; rw [g1] at g0
  have hy : ∀ a b c : Nat, a = kT 8 N + kT 8 N / 256 → b = a + a / 65536 → c = b + b / 4294967296 → c % 128 = zCn (fun k => N.testBit k) 64 ∧ kT 8 N < 2 ^ 62 ∧ a < 2 ^ 62 ∧ b < 2 ^ 62 := by
    intro a b c ea eb ec
    rw [e7] at e6
    have := k_sum (hb N) (hb _) (hb _) (hb _) (hb _) (hb _) (hb _) (hb _) e6 e5 e4 e3 e2 e1 e0 ea eb ec
    refine ⟨?_, this.2⟩
    rw [this.1, g0]
    simp only [Nat.add_assoc]
  obtain ⟨s1, s2, s3, s4⟩ := hy _ _ _ rfl rfl rfl
  rw [f_bc, hx, u1_n hN, u2_n hk1, u3_n hk2, eT, u4_n (by omega), u5_n (by omega), u6_n (by omega), lN_i, pk_and _ 7 (by decide)]
  congr 1
  rw [← hx, hc, ← s1]
  show (BitVec.ofNat 32 _).toNat % 2 ^ 7 = _
  rw [BitVec.toNat_ofNat]
  generalize kT 8 N + kT 8 N / 256 + (kT 8 N + kT 8 N / 256) / 65536 + (kT 8 N + kT 8 N / 256 + (kT 8 N + kT 8 N / 256) / 65536) / 4294967296 = w
  omega
