/-! ===== feed, told ===== -/
/-- the byte as the class and as the model hold it -/
def cby (y : Int64) (k : Nat) : Int32 := vp_nar .byte (((((Int64.toUInt64 y) >>> ((nI (8 * k)).toInt64.toUInt64 &&& Int64.toUInt64 63)).toInt64).toInt32).toInt8.toInt32)
def mby (y : Int64) (k : Nat) : Int32 := ((y >>> ((nI (8 * k)).toInt64 &&& 63)) &&& 255).toInt32
theorem z_b32 (b : Int8) : b.toInt32 = 32 ↔ b.toInt32 &&& 255 = 32 := by
  have h : ∀ n, n < 256 → ((Int8.ofNat n).toInt32 = 32 ↔ (Int8.ofNat n).toInt32 &&& 255 = 32) := by decide +kernel
  have e : b = Int8.ofNat b.toBitVec.toNat := by
    apply Int8.toBitVec_inj.mp
    show b.toBitVec = BitVec.ofNat 8 b.toBitVec.toNat
    rw [BitVec.ofNat_toNat, BitVec.setWidth_eq]
  rw [e]
  exact h _ b.toBitVec.isLt
theorem z_by (y : Int64) {k : Nat} (hk : k ≤ 7) : ∃ t, t < 256 ∧ cby y k &&& 255 = nI t ∧ mby y k = nI t ∧ (cby y k = 32 ↔ t = 32) := by
  have e : cby y k &&& 255 = mby y k := by
    unfold cby mby
    rw [pk_vb, bp_b]
    apply Int32.toBitVec_inj.mp
    rw [Int32.toBitVec_and, Int64.toBitVec_toInt32, Int64.toBitVec_toInt32]
    apply BitVec.eq_of_getLsbD_eq
    intro i hi
    rw [BitVec.getLsbD_and, BitVec.getLsbD_signExtend, BitVec.getLsbD_signExtend, if_pos (show i < 64 by omega), if_pos (show i < 64 by omega)]
    have hm : ∀ i < 32, (255 : Int32).toBitVec.getLsbD i = bt 255 i := by decide
    have hm8 : ∀ i < 32, 8 ≤ i → bt 255 i = false := by decide
    rw [hm i hi]
    show (decide (i < 32) && bt _ i && bt 255 i) = (decide (i < 32) && bt _ i)
    rw [bt_and]
    rcases Nat.lt_or_ge i 8 with z | z
    · rw [bt_ushr y (show 8 * k < 64 by omega), bt_shr y (show 8 * k < 64 by omega) (by omega)]
      simp [hi]
    · rw [hm8 i hi z, Bool.and_false, Bool.and_false, Bool.and_false]
  obtain ⟨t, ht, e2⟩ := pk_andE (cby y k) (m := 255) 8 (by decide)
  refine ⟨t, ht, e2, by rw [← e]; exact e2, ?_⟩
  have e3 : cby y k = (((((Int64.toUInt64 y) >>> ((nI (8 * k)).toInt64.toUInt64 &&& Int64.toUInt64 63)).toInt64).toInt32).toInt8).toInt32 := pk_vb _
  rw [e3, z_b32, ← e3, e2]
  exact nI_eq (b := 32) (by omega) (by omega)
theorem z_8x (k : Nat) : 8 * nI k = nI (8 * k) := by
  show nI 8 * nI k = _
  rw [pk_mul]
theorem z_add1m (x : Int32) : x + (-1) = x - 1 := by rw [Int32.sub_eq_add_neg]
theorem z_appL {E : jEnv} {n : Nat} {X : State → Prop} (y : Int64) {P : Option Value → HP → Prop} : ∀ (a p : Nat) (h : HP), h.1 1 1 = nI p → a ≤ 8 → p + a ≤ 500 →
    (∀ h2, h2.1 1 1 = nI (p + a) → zFr [1, 2] h h2 → (∀ i, i < p → h2.1 2 i = h.1 2 i) → (∀ i, i < a → h2.1 2 (p + i) = cby y (a - 1 - i)) → P none h2) →
    jG E mX6_append n X P 5 [some (.ref 1), none, some (.long y), none, some (.int (nI a - 1))] [] h := by
  intro a
  induction a with
  | zero =>
    intro p h h1 ha hp hP
    refine q_Txappend_5 y (nI 0 - 1) h (fun _ => hP h h1 (zFr.refl _ h) (fun _ _ => rfl) (fun i hi => absurd hi (by omega))) (fun c => absurd (by decide) c) (fun c => absurd (by decide) c) (fun c => absurd (by decide) c)
  | succ a ih =>
    intro p h h1 ha hp hP
    rw [nI_pred]
    have h500 : ¬ (500 : Int32) ≤ h.1 1 1 := by rw [h1, show (500 : Int32) = nI 500 from rfl]; exact nI_ge (by omega) (by omega)
    refine q_Txappend_5 y (nI a) h (fun c => absurd c (nI_pos (by omega))) (fun _ c => absurd c h500) (fun _ _ => by rw [h1]; exact z_vp (by omega) (by omega)) (fun _ _ => ?_)
    rw [z_add1m, h1, nI_clamp (by omega), nI_1, z_8x]
    refine ih (p + 1) _ rfl (by omega) (by omega) (fun h2 g1 g2 g3 g4 => ?_)
    refine hP h2 (by rw [g1]; congr 1; omega) ((zFr.trans (zFr_I (by decide)) (zFr_I (by decide))).trans g2) (fun i hi => ?_) (fun i hi => ?_)
    · rw [g3 i (by omega)]
      show upd (h.1 2) p _ i = h.1 2 i
      exact upd_ne (by omega)
    · by_cases h0 : i = 0
      · subst h0
        rw [Nat.add_zero, g3 p (by omega)]
        show upd (h.1 2) p _ p = _
        rw [upd_eq]
        rfl
      · have := g4 (i - 1) (by omega)
        rw [show p + 1 + (i - 1) = p + i by omega, show a - 1 - (i - 1) = a + 1 - 1 - i by omega] at this
        exact this
theorem z_mfdL {E : jEnv} {n : Nat} {X : State → Prop} (y : Int64) {P : Option Value → HP → Prop} : ∀ (a p : Nat) (h : HP), h.1 52 18 = nI p → a ≤ 8 → p + a ≤ 500 →
    (∀ h2, h2.1 52 18 = nI (p + a) → zFr [52, 61] h h2 → (∀ i, i ≠ 18 → h2.1 52 i = h.1 52 i) → (∀ i, i < p → h2.1 61 i = h.1 61 i) → (∀ i, i < a → h2.1 61 (p + i) = mby y (a - 1 - i)) → P (some (.int (nI (p + a)))) h2) →
    jG E mX8_feed (n + 1) X P 35 [some (.ref 52), none, some (.long y), none, some (.int (nI a - 1))] [] h := by
  intro a
  induction a with
  | zero =>
    intro p h h1 ha hp hP
    refine q_Mofeed_35 y (nI 0 - 1) h (fun _ => ?_) (fun c => absurd (by decide) c) (fun c => absurd (by decide) c)
    rw [h1]
    exact hP h h1 (zFr.refl _ h) (fun _ _ => rfl) (fun _ _ => rfl) (fun i hi => absurd hi (by omega))
  | succ a ih =>
    intro p h h1 ha hp hP
    rw [nI_pred]
    refine q_Mofeed_35 y (nI a) h (fun c => absurd c (nI_pos (by omega))) (fun _ => by rw [h1]; exact z_vp (by omega) (by omega)) (fun _ => ?_)
    rw [z_add1m, h1, nI_clamp (by omega), nI_1, z_8x]
    refine ih (p + 1) _ rfl (by omega) (by omega) (fun h2 g1 g2 g5 g3 g4 => ?_)
    rw [show p + 1 + a = p + (a + 1) by omega]
    refine hP h2 (by rw [g1]; congr 1; omega) ((zFr.trans (zFr_I (by decide)) (zFr_I (by decide))).trans g2) (fun i hi => ?_) (fun i hi => ?_) (fun i hi => ?_)
    · rw [g5 i hi]
      show upd (h.1 52) 18 _ i = h.1 52 i
      exact upd_ne hi
    · rw [g3 i (by omega)]
      show upd (h.1 61) p _ i = h.1 61 i
      exact upd_ne (by omega)
    · by_cases h0 : i = 0
      · subst h0
        rw [Nat.add_zero, g3 p (by omega)]
        show upd (h.1 61) p _ p = _
        rw [upd_eq]
        rfl
      · have := g4 (i - 1) (by omega)
        rw [show p + 1 + (i - 1) = p + i by omega, show a - 1 - (i - 1) = a + 1 - 1 - i by omega] at this
        exact this
theorem p_feed (E : jEnv) (x : Int32) (y : Int64) : jPair E 100 zInv mX7_feed mX8_feed [.int x, .long y] := by
  intro j h hj hI
  have hI' := hI
  obtain ⟨L, S, hL, hCl, hMl, hS, hCs, hMs, hIm, hFt, hBk, hTx, hFa⟩ := hI
  obtain ⟨k, hk, q1, q2, q3⟩ := hTx
  have hin : f_Moin x.toInt64 1 8 = if 1 ≤ x.toInt ∧ x.toInt ≤ 8 then 1 else 0 := by
    rw [z_Moin, z_l]; rfl
  have hx1 : x < 1 ↔ x.toInt < 1 := by rw [Int32.lt_iff_toInt_lt]; rfl
  have hx8 : x ≤ 8 ↔ x.toInt ≤ 8 := by rw [Int32.le_iff_toInt_le]; rfl
  by_cases hx : 1 ≤ x.toInt ∧ x.toInt ≤ 8
  · rw [if_pos hx] at hin
    obtain ⟨a, ha, rfl⟩ : ∃ a : Nat, (1 ≤ a ∧ a ≤ 8) ∧ x = nI a := ⟨x.toInt.toNat, by omega, z_of (by omega)⟩
    have h500 : h.1 1 1 + nI a ≤ 500 ↔ k + a ≤ 500 := by rw [q1, nI_add]; exact nI_leI (b := 500) (by omega) (by omega)
    have h500' : h.1 52 18 + nI a ≤ 500 ↔ k + a ≤ 500 := by rw [q2, nI_add]; exact nI_leI (b := 500) (by omega) (by omega)
    by_cases hf : k + a ≤ 500
    · have c1 : jC E mX7_feed 100 [.ref 0, .int (nI a), .long y] h (fun v h2 => v = some (.int (nI (k + a))) ∧ h2.1 1 1 = nI (k + a) ∧ zFr [1, 2] h h2 ∧ (∀ i, i < k → h2.1 2 i = h.1 2 i) ∧ (∀ i, i < a → h2.1 2 (k + i) = cby y (a - 1 - i))) := by
        refine jC.of (lv := [some (.ref 0), some (.int (nI a)), some (.long y), none]) (by decide) (Nat.le_of_ble_eq_true rfl) ⟨rfl, rfl, rfl, trivial⟩ (q_Shfeed_0 (n := 99) (nI a) y h (fun c => absurd (hx1.mp c) (by omega)) (fun _ _ _ => ?_) (fun _ _ c => absurd (h500.mpr hf) c) (fun _ c => absurd (hx8.mpr hx.2) c))
        refine ⟨fun v h2 => v = none ∧ h2.1 1 1 = nI (k + a) ∧ zFr [1, 2] h h2 ∧ (∀ i, i < k → h2.1 2 i = h.1 2 i) ∧ (∀ i, i < a → h2.1 2 (k + i) = cby y (a - 1 - i)), ?_, fun v h2 hp => ?_⟩
        · exact jC.of (lv := [some (.ref 1), some (.int (nI a)), some (.long y), none, none]) (by decide) (Nat.le_of_ble_eq_true rfl) ⟨rfl, rfl, rfl, trivial⟩ (q_Txappend_0 (nI a) y h (z_appL y a k h q1 (by omega) hf (fun h2 g1 g2 g3 g4 => ⟨rfl, g1, g2, g3, g4⟩)))
        · rw [hp.1]
          exact q_Shfeed_41 h2 ⟨by rw [hp.2.1], hp.2⟩
      refine ⟨_, c1, fun v h2 hp => ?_⟩
      obtain ⟨ev, g1, g2, g3, g4⟩ := hp
      have h18 : h2.1 52 18 = nI k := by rw [(g2 52 (by decide)).1]; exact q2
      have c2 : jC E mX8_feed 100 [.ref 52, .int (nI a), .long y] h2 (fun v h3 => v = some (.int (nI (k + a))) ∧ h3.1 52 18 = nI (k + a) ∧ zFr [52, 61] h2 h3 ∧ (∀ i, i ≠ 18 → h3.1 52 i = h2.1 52 i) ∧ (∀ i, i < k → h3.1 61 i = h2.1 61 i) ∧ (∀ i, i < a → h3.1 61 (k + i) = mby y (a - 1 - i))) := by
        have h500'' : h2.1 52 18 + nI a ≤ 500 := by rw [h18, ← q2]; exact h500'.mpr hf
        refine jC.of (lv := [some (.ref 52), some (.int (nI a)), some (.long y), none, none]) (by decide) (Nat.le_of_ble_eq_true rfl) ⟨rfl, rfl, rfl, trivial⟩ (q_Mofeed_0 (n := 99) (nI a) y h2 (fun c => by rw [hin] at c; exact absurd c one0) (fun _ _ => ?_) (fun _ c => absurd h500'' c))
        exact z_mfdL y a k h2 h18 (by omega) hf (fun h3 r1 r2 r3 r4 r5 => ⟨rfl, r1, r2, r3, r4, r5⟩)
      refine ⟨_, ev, _, c2, fun v2 h3 hp2 => ?_⟩
      obtain ⟨ev2, r1, r2, r3, r4, r5⟩ := hp2
      refine ⟨ev2, ?_⟩
      have e := fun (k : Nat) (w1 : k ∉ [1, 2]) (w2 : k ∉ [52, 61]) => ((r2 k w2).1.trans (g2 k w1).1 : h3.1 k = h.1 k)
      have e' := fun (k : Nat) (w1 : k ∉ [1, 2]) (w2 : k ∉ [52, 61]) => ((r2 k w2).2.trans (g2 k w1).2 : h3.2 k = h.2 k)
      have h52 : ∀ i, i ≠ 18 → h3.1 52 i = h.1 52 i := fun i hi => (r3 i hi).trans (by rw [(g2 52 (by decide)).1])
      have up := zIm_up hIm
      refine ⟨L, S, hL, zCl_c (e 3 (by decide) (by decide)) (e' 3 (by decide) (by decide)) (e 4 (by decide) (by decide)) (e 5 (by decide) (by decide)) (e 8 (by decide) (by decide)) (e' 9 (by decide) (by decide)) hCl, zMl_c (fun i hi => h52 i (by omega)) (e 53 (by decide) (by decide)) (e 54 (by decide) (by decide)) (e 55 (by decide) (by decide)) hMl, zSok_up hS, zCs_c (e 18 (by decide) (by decide)) (e' 18 (by decide) (by decide)) (e 19 (by decide) (by decide)) (e 20 (by decide) (by decide)) (e 21 (by decide) (by decide)) (e 22 (by decide) (by decide)) (e 23 (by decide) (by decide)) hCs, ?_, ⟨?_, ?_⟩, zFt_c (e 30 (by decide) (by decide)) (e 31 (by decide) (by decide)) (e 32 (by decide) (by decide)) (e 59 (by decide) (by decide)) (h52 12 (by decide)) (h52 14 (by decide)) hFt, zBk_c (e 33 (by decide) (by decide)) (e 34 (by decide) (by decide)) (e 35 (by decide) (by decide)) (e 60 (by decide) (by decide)) (h52 16 (by decide)) hBk, ?_, ?_⟩
      · rw [e 56 (by decide) (by decide)]; exact hMs
      · exact zI1_c (e 39 (by decide) (by decide)) (e 58 (by decide) (by decide)) (e 57 (by decide) (by decide)) (e 40 (by decide) (by decide)) (e' 40 (by decide) (by decide)) (e 41 (by decide) (by decide)) (e 42 (by decide) (by decide)) (e 43 (by decide) (by decide)) (e 44 (by decide) (by decide)) (e 45 (by decide) (by decide)) up.1
      · exact zI1_c (e 39 (by decide) (by decide)) (e 58 (by decide) (by decide)) (e 57 (by decide) (by decide)) (e 46 (by decide) (by decide)) (e' 46 (by decide) (by decide)) (e 47 (by decide) (by decide)) (e 48 (by decide) (by decide)) (e 49 (by decide) (by decide)) (e 50 (by decide) (by decide)) (e 51 (by decide) (by decide)) up.2
      · refine ⟨k + a, hf, by rw [(r2 1 (by decide)).1]; exact g1, r1, fun i hi => ?_⟩
        rw [(r2 2 (by decide)).1]
        by_cases hik : i < k
        · rw [g3 i hik, r4 i hik, (g2 61 (by decide)).1]
          exact q3 i hik
        · have w1 := g4 (i - k) (by omega)
          have w2 := r5 (i - k) (by omega)
          rw [show k + (i - k) = i by omega] at w1 w2
          rw [w1, w2]
          exact z_by y (by omega)
      · unfold zFa at *
        rw [e 10 (by decide) (by decide), h52 24 (by decide)]
        exact hFa
    · have c1 : jC E mX7_feed 100 [.ref 0, .int (nI a), .long y] h (fun v h2 => v = some (.int (-1000000004)) ∧ h2 = h) :=
        jC.of (lv := [some (.ref 0), some (.int (nI a)), some (.long y), none]) (by decide) (Nat.le_of_ble_eq_true rfl) ⟨rfl, rfl, rfl, trivial⟩ (q_Shfeed_0 (n := 99) (nI a) y h (fun c => absurd (hx1.mp c) (by omega)) (fun _ _ c => absurd (h500.mp c) hf) (fun _ _ _ => ⟨rfl, rfl⟩) (fun _ c => absurd (hx8.mpr hx.2) c))
      have c2 : jC E mX8_feed 100 [.ref 52, .int (nI a), .long y] h (fun v h2 => v = some (.int (-1000000004)) ∧ h2 = h) :=
        jC.of (lv := [some (.ref 52), some (.int (nI a)), some (.long y), none, none]) (by decide) (Nat.le_of_ble_eq_true rfl) ⟨rfl, rfl, rfl, trivial⟩ (q_Mofeed_0 (n := 99) (nI a) y h (fun c => by rw [hin] at c; exact absurd c one0) (fun _ c => absurd (h500'.mp c) hf) (fun _ _ => ⟨rfl, rfl⟩))
      exact z_pair c1 c2 rfl (zInv_mono j h hI')
  · rw [if_neg hx] at hin
    have c1 : jC E mX7_feed 100 [.ref 0, .int x, .long y] h (fun v h2 => v = some (.int (-1000000002)) ∧ h2 = h) :=
      jC.of (lv := [some (.ref 0), some (.int x), some (.long y), none]) (by decide) (Nat.le_of_ble_eq_true rfl) ⟨rfl, rfl, rfl, trivial⟩ (q_Shfeed_0 (n := 99) x y h (fun _ => ⟨rfl, rfl⟩) (fun w1 w2 _ => absurd ⟨by have := mt hx1.mpr w1; omega, hx8.mp w2⟩ hx) (fun w1 w2 _ => absurd ⟨by have := mt hx1.mpr w1; omega, hx8.mp w2⟩ hx) (fun _ _ => ⟨rfl, rfl⟩))
    have c2 : jC E mX8_feed 100 [.ref 52, .int x, .long y] h (fun v h2 => v = some (.int (-1000000002)) ∧ h2 = h) :=
      jC.of (lv := [some (.ref 52), some (.int x), some (.long y), none, none]) (by decide) (Nat.le_of_ble_eq_true rfl) ⟨rfl, rfl, rfl, trivial⟩ (q_Mofeed_0 (n := 99) x y h (fun _ => ⟨rfl, rfl⟩) (fun c => absurd hin c) (fun c => absurd hin c))
    exact z_pair c1 c2 rfl (zInv_mono j h hI')
/-! what is known at a place -/
def zKa (ce kn : Nat → Nat) (c : Nat) : Nat → Nat
  | 0 => 0
  | m + 1 => if ce m = c then zKa ce kn c m ||| kn m else zKa ce kn c m
theorem zKa_lt {ce kn : Nat → Nat} {c b : Nat} : ∀ m, (∀ i, i < m → kn i < 2 ^ b) → zKa ce kn c m < 2 ^ b
  | 0, _ => Nat.two_pow_pos b
  | m + 1, hk => by
    have h1 := zKa_lt (ce := ce) (c := c) m (fun i hi => hk i (by omega))
    unfold zKa
    split
    · exact Nat.or_lt_two_pow h1 (hk m (by omega))
    · exact h1
theorem z_knL {E : jEnv} {n : Nat} {X : State → Prop} {P : Option Value → HP → Prop} {M : Nat} (hM : M ≤ 4) {ce kn : Nat → Nat} {c : Nat} (hc : c < 2 ^ 31) (h : HP) (h3 : h.1 3 3 = nI M) (hce : ∀ m, m < M → h.1 19 m = nI (ce m) ∧ ce m < 2 ^ 31) (hkn : ∀ m, m < M → h.1 21 m = nI (kn m)) (hP : P (some (.int (nI (zKa ce kn c M)))) h) : ∀ (k m : Nat), m + k = M → jG E mX5_knownAt n X P 4 [some (.ref 18), some (.int (nI c)), some (.int (nI (zKa ce kn c m))), some (.int (nI m))] [] h := by
  intro k
  induction k with
  | zero =>
    intro m hm
    have : m = M := by omega
    subst this
    have hle : h.1 3 3 ≤ nI m := by rw [h3]; exact Int32.le_refl _
    exact q_StknownAt_4 _ _ _ h (fun _ => hP) (fun c => absurd hle c) (fun c => absurd hle c) (fun c => absurd hle c) (fun c => absurd hle c)
  | succ k ih =>
    intro m hm
    have hlt : ¬ h.1 3 3 ≤ nI m := by rw [h3]; exact nI_ge (by omega) (by omega)
    have hcl : (nI m).toNatClampNeg = m := nI_clamp (by omega)
    obtain ⟨e1, e2⟩ := hce m (by omega)
    have e3 := hkn m (by omega)
    have ih' := ih (m + 1) (by omega)
    refine q_StknownAt_4 _ _ _ h (fun c => absurd c hlt) (fun _ => z_vp (by omega) (by omega)) (fun _ _ => z_vp (by omega) (by omega)) (fun _ w => ?_) (fun _ w => ?_)
    · rw [hcl, e1] at w
      have w' := (nI_eq e2 hc).mp w
      rw [hcl, e3, nI_1, fa_or]
      unfold zKa at ih'
      rw [if_pos w'] at ih'
      exact ih'
    · rw [hcl, e1] at w
      have w' : ¬ ce m = c := fun q => w (by rw [q])
      rw [nI_1]
      unfold zKa at ih'
      rw [if_neg w'] at ih'
      exact ih'
theorem c_StknownAt {E : jEnv} {n : Nat} {M : Nat} (hM : M ≤ 4) {ce kn : Nat → Nat} {c : Nat} (hc : c < 2 ^ 31) (h : HP) (h3 : h.1 3 3 = nI M) (hce : ∀ m, m < M → h.1 19 m = nI (ce m) ∧ ce m < 2 ^ 31) (hkn : ∀ m, m < M → h.1 21 m = nI (kn m)) : jC E mX5_knownAt n [.ref 18, .int (nI c)] h (fun v h2 => v = some (.int (nI (zKa ce kn c M))) ∧ h2 = h) := by
  refine jC.of (lv := [some (.ref 18), some (.int (nI c)), none, none]) (by decide) (Nat.le_of_ble_eq_true rfl) ⟨rfl, rfl, trivial⟩ (q_StknownAt_0 _ h ?_)
  exact z_knL hM hc h h3 hce hkn ⟨rfl, rfl⟩ M 0 (by omega)
def zEar (h : HP) (a : Int32) : Int32 := if a = 0 then h.1 52 0 else if a = 1 then h.1 52 1 else if a = 2 then h.1 52 4 else if a = 3 then h.1 52 5 else h.1 52 6
def zLat (h : HP) (a k : Int32) : Int32 := if a = 7 then (if h.1 52 0 = 0 then 0 else f_MocodeOf (h.1 52 0) (h.1 52 8)) else if a = 8 then h.1 52 14 else if a = 9 then h.1 52 16 else k
def zTld (h : HP) (a k : Int32) : Int32 := if (5 : Int32) ≤ a then (if a = 5 then h.1 52 18 else if a = 6 then h.1 56 0 else zLat h a k) else zEar h a
theorem z_told172 {E : jEnv} {n : Nat} {X : State → Prop} (a k : Int32) (h : HP) {P : Option Value → HP → Prop} (hP : P (some (.int (zTld h a k))) h) : jG E mX8_told (n + 1) X P 172 [some (.ref 52), some (.int a), none, some (.int (zEar h a)), none] [.int (zLat h a k)] h := by
  unfold zTld at hP
  refine q_Motold_172 a _ _ h (fun c1 c2 => ?_) (fun c1 c2 c3 => ?_) (fun c1 c2 c3 => ?_) (fun c1 => ?_)
  · rw [if_pos c1, if_pos c2] at hP; exact hP
  · rw [if_pos c1, if_neg c2, if_pos c3] at hP; exact hP
  · rw [if_pos c1, if_neg c2, if_neg c3] at hP; exact hP
  · rw [if_neg c1] at hP; exact hP
theorem z_told116 {E : jEnv} {n : Nat} {X : State → Prop} (a k : Int32) (h : HP) {P : Option Value → HP → Prop} (hP : P (some (.int (zTld h a k))) h) : jG E mX8_told (n + 1) X P 116 [some (.ref 52), some (.int a), some (.int k), none, none] [.int (zEar h a)] h := by
  have h1 := z_told172 (E := E) (n := n) (X := X) a k h hP
  unfold zLat at h1
  refine q_Motold_116 a k _ h (fun c1 c2 => ?_) (fun _ c => c) (fun _ c => c) (fun c1 c2 => ?_) (fun c1 c2 => ?_) (fun c1 c2 c3 => ?_) (fun c1 c2 c3 => ?_)
  · rw [if_pos c1, if_pos c2] at h1; exact h1
  · rw [if_pos c1, if_neg c2] at h1; exact h1
  · rw [if_neg c1, if_pos c2] at h1; exact h1
  · rw [if_neg c1, if_neg c2, if_pos c3] at h1; exact h1
  · rw [if_neg c1, if_neg c2, if_neg c3] at h1; exact h1
theorem z_toldL {E : jEnv} {n : Nat} {X : State → Prop} {L : ZL} {S : ZS} (hL : zLok L) (h : HP) (hMl : zMl L h) (hMs : zMs L S (h.1 56)) (hCe : ∀ m, m < zM L → zCe S m < 2 ^ 31) (hC : zC L < 2 ^ 31) (a : Int32) {P : Option Value → HP → Prop} (hP : P (some (.int (zTld h a (nI (zKa (zCe S) (zKn S) (zC L) (zM L)))))) h) : ∀ (k m : Nat), m + k = zM L → jG E mX8_told (n + 1) X P 19 [some (.ref 52), some (.int a), some (.int (nI (zKa (zCe S) (zKn S) (zC L) m))), some (.int (nI m)), none] [] h := by
  have hM : zM L ≤ 4 := hL.2.2.2.2.2.1
  have e5 : h.1 52 5 = nI (zM L) := hMl.1.2.2.2.1
  intro k
  induction k with
  | zero =>
    intro m hm
    have hm' : m = zM L := by omega
    rw [hm']
    have hle : h.1 52 5 ≤ nI (zM L) := by rw [e5]; exact Int32.le_refl _
    have h1 := z_told116 (E := E) (n := n) (X := X) a _ h hP
    unfold zEar at h1
    refine q_Motold_19 a _ _ h (fun _ c1 => ?_) (fun _ c1 c2 => ?_) (fun _ c1 c2 c3 => ?_) (fun _ c1 c2 c3 c4 => ?_) (fun _ c1 c2 c3 c4 => ?_) (fun c => absurd hle c) (fun c => absurd hle c) (fun c => absurd hle c) (fun c => absurd hle c) (fun c => absurd hle c)
    · rw [if_pos c1] at h1; exact h1
    · rw [if_neg c1, if_pos c2] at h1; exact h1
    · rw [if_neg c1, if_neg c2, if_pos c3] at h1; exact h1
    · rw [if_neg c1, if_neg c2, if_neg c3, if_pos c4] at h1; exact h1
    · rw [if_neg c1, if_neg c2, if_neg c3, if_neg c4] at h1; exact h1
  | succ k ih =>
    intro m hm
    have hlt : ¬ h.1 52 5 ≤ nI m := by rw [e5]; exact nI_ge (by omega) (by omega)
    have e3 := (hMs.2.2.2 m (by omega)).2.2.2.1
    have ih' := ih (m + 1) (by omega)
    have esp : f_MospotOf (h.1 52 0) (h.1 56) (nI m) = nI (zCe S m) := by rw [hMl.1.1]; exact z_spot hMs hM (by omega)
    refine q_Motold_19 a _ _ h (fun c => absurd c hlt) (fun c => absurd c hlt) (fun c => absurd c hlt) (fun c => absurd c hlt) (fun c => absurd c hlt) (fun _ => by rw [z_ix1]; exact z_vp (by omega) (by omega)) (fun _ => by rw [z_ix0]; exact z_vp (by omega) (by omega)) (fun _ _ => by rw [z_ix3]; exact z_vp (by omega) (by omega)) (fun _ w => ?_) (fun _ w => ?_)
    · rw [esp, hMl.1.2.2.2.2.2] at w
      have w' := (nI_eq (hCe m (by omega)) hC).mp w
      rw [z_ix3, nI_clamp (by omega), e3, nI_1, fa_or]
      unfold zKa at ih'
      rw [if_pos w'] at ih'
      exact ih'
    · rw [esp, hMl.1.2.2.2.2.2] at w
      have w' : ¬ zCe S m = zC L := fun q => w (by rw [q])
      rw [nI_1, Int32.or_zero]
      unfold zKa at ih'
      rw [if_neg w'] at ih'
      exact ih'
theorem z_code {w c : Nat} (hw : 0 < w) (hw9 : w ≤ 9) (hc : c < 36) : f_MocodeOf (nI w) (nI c) = f_LdnameOf (nI w) (nI c) := by
  obtain ⟨h1, h2⟩ := z_col hw hw9 hc
  unfold f_MocodeOf f_LdnameOf
  rw [h1, h2, pk_rem (by omega) hw (by omega), pk_div (by omega) hw (by omega)]
theorem p_told (E : jEnv) (x : Int32) : jPair E 100 zInv mX7_told mX8_told [.int x] := by
  intro j h hj hI
  have hI' := hI
  obtain ⟨L, S, hL, hCl, hMl, hS, hCs, hMs, hIm, hFt, hBk, hTx, hFa⟩ := hI
  have hM4 : zM L ≤ 4 := hL.2.2.2.2.2.1
  have hA := hL.2.2.1
  have hC36 : zC L < 36 := by
    by_cases hw : 0 < zW L
    · have := hL.2.2.2.2.2.2.2.2.1 hw; omega
    · have := (hL.2.2.2.2.2.2.2.1 (by omega)).1; omega
  have hCe : ∀ m, m < zM L → zCe S m < 2 ^ 31 := fun m hm => by have := (hS.2.2.2 m hm).1; omega
  have hin : f_Moin x.toInt64 0 10 = if 0 ≤ x.toInt ∧ x.toInt ≤ 10 then 1 else 0 := z_upto (k := 10) (by decide)
  by_cases hx : 0 ≤ x.toInt ∧ x.toInt ≤ 10
  · rw [if_pos hx] at hin
    have ev : ∃ r : Int32, r = zTld h x (nI (zKa (zCe S) (zKn S) (zC L) (zM L))) ∧ jC E mX7_told 100 [.ref 0, .int x] h (fun v h2 => v = some (.int r) ∧ h2 = h) := by
      obtain ⟨k, hk, rfl⟩ : ∃ k : Nat, k ≤ 10 ∧ x = nI k := ⟨x.toInt.toNat, by omega, z_of (by omega)⟩
      have et : (nI k).toInt = (k : Int) := nI_toInt (by omega)
      refine ⟨_, rfl, ?_⟩
      refine jC.of (lv := [some (.ref 0), some (.int (nI k))]) (by decide) (Nat.le_of_ble_eq_true rfl) ⟨rfl, rfl, trivial⟩ (q_Shtold_0 (n := 98) (nI k) h (fun c => by omega) (fun c => ?_) (fun c => ?_) (fun c => ?_) (fun c => ?_) (fun c => ?_) (fun c => ?_) (fun c => ?_) (fun c => ?_) (fun c => ?_) (fun c => ?_) (fun c => ?_))
      · obtain rfl : k = 0 := by omega
        exact ⟨by rw [hCl.1.1]; unfold zTld zEar; rw [if_neg (by decide), if_pos (by decide), hMl.1.1], rfl⟩
      · obtain rfl : k = 1 := by omega
        exact ⟨by rw [hCl.1.2.1]; unfold zTld zEar; rw [if_neg (by decide), if_neg (by decide), if_pos (by decide), hMl.1.2.1], rfl⟩
      · obtain rfl : k = 2 := by omega
        exact ⟨by rw [hCl.1.2.2.1]; unfold zTld zEar; rw [if_neg (by decide), if_neg (by decide), if_neg (by decide), if_pos (by decide), hMl.1.2.2.1], rfl⟩
      · obtain rfl : k = 3 := by omega
        exact ⟨by rw [hCl.1.2.2.2.1]; unfold zTld zEar; rw [if_neg (by decide), if_neg (by decide), if_neg (by decide), if_neg (by decide), if_pos (by decide), hMl.1.2.2.2.1], rfl⟩
      · obtain rfl : k = 4 := by omega
        exact ⟨by rw [hCl.1.2.2.2.2.1]; unfold zTld zEar; rw [if_neg (by decide), if_neg (by decide), if_neg (by decide), if_neg (by decide), if_neg (by decide), hMl.1.2.2.2.2.1], rfl⟩
      · obtain rfl : k = 5 := by omega
        obtain ⟨q, _, t1, t2, _⟩ := hTx
        exact ⟨by rw [t1]; unfold zTld; rw [if_pos (by decide), if_pos (by decide), t2], rfl⟩
      · obtain rfl : k = 6 := by omega
        exact ⟨by rw [hCs.1]; unfold zTld; rw [if_pos (by decide), if_neg (by decide), if_pos (by decide), hMs.1], rfl⟩
      · obtain rfl : k = 7 := by omega
        refine ⟨?_, rfl⟩
        unfold zTld zLat
        rw [if_pos (by decide), if_neg (by decide), if_neg (by decide), if_pos (by decide), hMl.1.1, hMl.1.2.2.2.2.2, hCl.1.1, hCl.1.2.2.2.2.2]
        by_cases hw : 0 < zW L
        · rw [if_neg (nI_ne0 hw (by have := hL.1; omega)), z_code hw hL.1 hC36]
        · rw [show zW L = 0 by omega, nI_0, if_pos rfl]
          rfl
      · obtain rfl : k = 8 := by omega
        obtain ⟨_, _, q, _, t1, t2, _⟩ := hFt
        exact ⟨by rw [t1]; unfold zTld zLat; rw [if_pos (by decide), if_neg (by decide), if_neg (by decide), if_neg (by decide), if_pos (by decide), t2], rfl⟩
      · obtain rfl : k = 9 := by omega
        obtain ⟨q, _, t1, t2, _⟩ := hBk
        exact ⟨by rw [t1]; unfold zTld zLat; rw [if_pos (by decide), if_neg (by decide), if_neg (by decide), if_neg (by decide), if_neg (by decide), if_pos (by decide), t2], rfl⟩
      · obtain rfl : k = 10 := by omega
        rw [hCl.1.2.2.2.2.2]
        refine ⟨_, c_StknownAt hM4 (by omega) h hCl.1.2.2.2.1 (fun m hm => ⟨(hCs.2.2.2 m hm).1, hCe m hm⟩) (fun m hm => (hCs.2.2.2 m hm).2.2.1), fun v h2 hp => ?_⟩
        rw [hp.1, hp.2]
        exact q_Shtold_161 _ h ⟨by unfold zTld zLat; rw [if_pos (by decide), if_neg (by decide), if_neg (by decide), if_neg (by decide), if_neg (by decide), if_neg (by decide)], rfl⟩
    obtain ⟨r, er, c1⟩ := ev
    have c2 : jC E mX8_told 100 [.ref 52, .int x] h (fun v h2 => v = some (.int (zTld h x (nI (zKa (zCe S) (zKn S) (zC L) (zM L))))) ∧ h2 = h) := by
      refine jC.of (lv := [some (.ref 52), some (.int x), none, none, none]) (by decide) (Nat.le_of_ble_eq_true rfl) ⟨rfl, rfl, trivial⟩ (q_Motold_0 (n := 99) x h (fun c => by rw [hin] at c; exact absurd c one0) (fun _ => ?_))
      exact z_toldL hL h hMl hMs hCe (by omega) x ⟨rfl, rfl⟩ (zM L) 0 (by omega)
    exact z_pair c1 c2 er (zInv_mono j h hI')
  · rw [if_neg hx] at hin
    have c1 : jC E mX7_told 100 [.ref 0, .int x] h (fun v h2 => v = some (.int (-1000000002)) ∧ h2 = h) := by
      refine jC.of (lv := [some (.ref 0), some (.int x)]) (by decide) (Nat.le_of_ble_eq_true rfl) ⟨rfl, rfl, trivial⟩ (q_Shtold_0 (n := 98) x h (fun c => ⟨rfl, rfl⟩) (fun c => ?_) (fun c => ?_) (fun c => ?_) (fun c => ?_) (fun c => ?_) (fun c => ?_) (fun c => ?_) (fun c => ?_) (fun c => ?_) (fun c => ?_) (fun c => ?_)) <;> exact absurd ⟨by omega, by omega⟩ hx
    have c2 : jC E mX8_told 100 [.ref 52, .int x] h (fun v h2 => v = some (.int (-1000000002)) ∧ h2 = h) :=
      jC.of (lv := [some (.ref 52), some (.int x), none, none, none]) (by decide) (Nat.le_of_ble_eq_true rfl) ⟨rfl, rfl, trivial⟩ (q_Motold_0 (n := 99) x h (fun _ => ⟨rfl, rfl⟩) (fun c => absurd hin c))
    exact z_pair c1 c2 rfl (zInv_mono j h hI')
