/-! ===== who can be where ===== -/
/-- what the outlook sees of a state: the class's side -/
def zOl (L : ZL) (S : ZS) (h : HP) : Prop := h.1 18 1 = nI (zH S) ∧ zB (h.2 24 3) (zSk S) ∧ ∀ m, m < zM L → h.1 19 m = nI (zCe S m) ∧ h.1 21 m = nI (zKn S m) ∧ h.1 25 m = nI (zSl S m)
/-- a state that may be looked from -/
def zSh (L : ZL) (S : ZS) : Prop := zH S < 2 ^ 30 ∧ zSup L (zSk S) ∧ ∀ m, m < zM L → zCe S m < zA L ∧ zSl S m ≤ 7 ∧ zKn S m < 2 ^ zN L
theorem zSok.sh {L : ZL} {S : ZS} {B : Nat} (h : zSok L S B) (hB : B < 2 ^ 30) : zSh L S := ⟨by have := h.1; omega, h.2.2.1, fun m hm => by
  obtain ⟨a, b, c, _, _⟩ := h.2.2.2 m hm
  exact ⟨a, by omega, c⟩⟩
/-- behind takeAsItIs -/
def hTk (h : HP) : HP := jPL (jPA h 25 (va_cpy (h.1 20) (h.1 25) (0 : Int32).toNatClampNeg (0 : Int32).toNatClampNeg (4 : Int32).toNatClampNeg)) 24 3 (h.2 18 3)
theorem hTk_fr (h : HP) : zFr [24, 25] h (hTk h) := (zFr_A (by decide)).trans (zFr_L (by decide))
theorem zOl_tk {L : ZL} {S : ZS} {h : HP} (hM : zM L ≤ 4) (q : zCs L S 18 h) : zOl L S (hTk h) := by
  refine ⟨q.1, q.2.2.1, fun m hm => ?_⟩
  obtain ⟨a, b, c, d, e⟩ := q.2.2.2 m hm
  refine ⟨a, c, ?_⟩
  show va_cpy (h.1 20) (h.1 25) _ _ _ m = _
  rw [z_cp4 (by omega)]
  exact b
theorem zOl_fr {L : ZL} {S : ZS} {b : List Nat} {h h2 : HP} (hf : zFr b h h2) (hb : 18 ∉ b ∧ 19 ∉ b ∧ 21 ∉ b ∧ 24 ∉ b ∧ 25 ∉ b) (q : zOl L S h) : zOl L S h2 := by
  obtain ⟨h1, h2, h3⟩ := q
  refine ⟨by rw [(hf 18 hb.1).1]; exact h1, by rw [(hf 24 hb.2.2.2.1).2]; exact h2, fun m hm => ?_⟩
  rw [(hf 19 hb.2.1).1, (hf 21 hb.2.2.1).1, (hf 25 hb.2.2.2.2).1]
  exact h3 m hm
def zRe (L : ZL) (S : ZS) (m : Nat) : Nat → Nat → Bool
  | 0 => fun c => decide (c = zCe S m)
  | n + 1 => zSt L (zSk S) (zSl S m) (zH S + (n + 1)) (zRe L S m n)
theorem zRe_sup {L : ZL} {S : ZS} (hS : zSh L S) {m : Nat} (hm : m < zM L) : ∀ n, zSup L (zRe L S m n)
  | 0 => fun c h => by rw [of_decide_eq_true h]; exact (hS.2.2 m hm).1
  | n + 1 => zSt_sup _ _ _ _ _
/-- the first that is so -/
def zFi (p : Nat → Bool) : Nat → Nat → Int32
  | 0, _ => -1
  | k + 1, i => if p i = true then nI i else zFi p k (i + 1)
theorem zFi_y {p : Nat → Bool} {k i : Nat} (h : p i = true) : zFi p (k + 1) i = nI i := if_pos h
theorem zFi_n {p : Nat → Bool} {k i : Nat} (h : p i = false) : zFi p (k + 1) i = zFi p k (i + 1) := if_neg (by rw [h]; decide)
theorem zB_one {k : Nat} (hk : k < 64) : zB (1 <<< ((nI k).toInt64 &&& 63)) (fun c => decide (c = k)) := fun c hc => bt_one hk hc
theorem zB_or {x y : Int64} {p q : Nat → Bool} (hx : zB x p) (hy : zB y q) : zB (x ||| y) (fun c => p c || q c) := fun c hc => by rw [bt_or, hx c hc, hy c hc]
theorem zB_and {x y : Int64} {p q : Nat → Bool} (hx : zB x p) (hy : zB y q) : zB (x &&& y) (fun c => p c && q c) := fun c hc => by rw [bt_and, hx c hc, hy c hc]
theorem zB_sub {x y : Int64} {p q : Nat → Bool} (hx : zB x p) (hy : zB y q) : zB (x &&& (y ^^^ (-1))) (fun c => p c && !q c) := fun c hc => by
  rw [bt_and, bt_xor, hx c hc, hy c hc, bt_m1 hc, Bool.xor_true]
theorem zB_0 : zB 0 (fun _ => false) := fun c _ => bt0 c
theorem zB_eq {x : Int64} {p q : Nat → Bool} (hx : zB x p) (h : ∀ c, c < 64 → p c = q c) : zB x q := fun c hc => by rw [hx c hc, h c hc]
theorem nle40 {i : Nat} (hi : i ≤ 40) : ¬ (40 : Int32) < nI i := by
  rw [show (40 : Int32) = nI 40 from rfl]; exact nI_nlt (by omega) (by omega)
section RE
variable {E : jEnv} {n : Nat} {X : State → Prop} {P : Option Value → HP → Prop} {L : ZL} {S : ZS}
theorem z_hourC (hL : zLok L) {h : HP} (hCl : zCl L h) (hS : zSh L S) (hO : zOl L S h) {m t : Nat} (hm : m < zM L) (ht : t < 2 ^ 29) {x : Int64} {p : Nat → Bool} (hx : zB x p) (hp : zSup L p) : zB (f_OlanHourOn (h.2 9) (h.1 18 1) (h.1 3 0) (h.1 3 2) (h.2 24 3) (h.2 3 7) (h.2 3 8) (h.1 25) (nI m) x (nI t)) (zSt L (zSk S) (zSl S m) (zH S + t) p) := by
  have hM : zM L ≤ 4 := hL.2.2.2.2.2.1
  have hH := hS.1
  unfold f_OlanHourOn
  rw [nI_clamp (by omega), (hO.2.2 m hm).2.2, hO.1, nI_add]
  exact zc_step hL hCl hO.2.1 hS.2.1 (hS.2.2 m hm).2.1 (by omega) hx hp
theorem zc_beL (hL : zLok L) {h : HP} (hCl : zCl L h) (hS : zSh L S) (hO : zOl L S h) {m c : Nat} (hm : m < zM L) (hc : c < 64) : ∀ (k i : Nat) (x : Int64), i + k = 41 → zB x (zRe L S m i) → P (some (.int (zFi (fun i => zRe L S m i c) k i))) h → jG E mX4_hoursToBe (n + 2) X P 15 [some (.ref 24), some (.int (nI m)), some (.int (nI c)), some (.long x), none, some (.int (nI i))] [] h := by
  have hM : zM L ≤ 4 := hL.2.2.2.2.2.1
  intro k
  induction k with
  | zero =>
    intro i x hi hx hP
    obtain rfl : i = 41 := by omega
    exact q_OlhoursToBe_15 _ _ _ _ h (fun _ => hP) (fun q => absurd (by decide) q) (fun q => absurd (by decide) q) (fun q => absurd (by decide) q)
  | succ k ih =>
    intro i x hi hx hP
    have h40 : ¬ (40 : Int32) < nI i := nle40 (by omega)
    refine q_OlhoursToBe_15 _ _ _ _ h (fun q => absurd q h40) (fun _ _ => z_vp (by omega) (by omega)) (fun _ w => ?_) (fun _ w => ?_)
    · rw [z_has x hc, hx c hc] at w
      have hb : zRe L S m i c = false := by
        cases q : zRe L S m i c
        · rfl
        · rw [q, if_pos rfl] at w; exact absurd w one0
      rw [zFi_n (p := fun i => zRe L S m i c) hb] at hP
      rw [nI_1]
      exact ih (i + 1) _ (by omega) (z_hourC hL hCl hS hO hm (by omega) hx (zRe_sup hS hm i)) hP
    · rw [z_has x hc, hx c hc] at w
      have hb : zRe L S m i c = true := by
        cases q : zRe L S m i c
        · rw [q] at w; exact absurd rfl w
        · rfl
      rw [zFi_y (p := fun i => zRe L S m i c) hb] at hP
      exact hP
theorem c_OlhoursToBe (hL : zLok L) (h : HP) (hCl : zCl L h) (hS : zSh L S) (hO : zOl L S h) {m c : Nat} (hm : m < zM L) (hc : c < 64) : jC E mX4_hoursToBe (n + 2) [.ref 24, .int (nI m), .int (nI c)] h (fun v h2 => v = some (.int (zFi (fun i => zRe L S m i c) 41 0)) ∧ h2 = h) := by
  have hM : zM L ≤ 4 := hL.2.2.2.2.2.1
  have hA := hL.2.2.1
  refine jC.of (lv := [some (.ref 24), some (.int (nI m)), some (.int (nI c)), none, none, none]) (by decide) (Nat.le_of_ble_eq_true rfl) ⟨rfl, rfl, rfl, trivial⟩ (q_OlhoursToBe_0 _ _ h (z_vp (by omega) (by omega)) ?_)
  rw [nI_clamp (by omega), (hO.2.2 m hm).1]
  exact zc_beL hL hCl hS hO hm hc 41 0 _ rfl (zB_one (by have := (hS.2.2 m hm).1; omega)) ⟨rfl, rfl⟩
theorem zm_beL (hL : zLok L) {h : HP} (hMl : zMl L h) (hS : zSh L S) (hs : zMs L S (h.1 56)) {m c : Nat} (hm : m < zM L) (hc : c < 64) : ∀ (k i : Nat) (x : Int64), i + k = 41 → zB x (zRe L S m i) → P (some (.int (zFi (fun i => zRe L S m i c) k i))) h → jG E mX8_reaches (n + 5) X P 11 [some (.ref 52), some (.int (nI m)), some (.int (nI c)), some (.long x), none, some (.int (nI i))] [] h := by
  have hM : zM L ≤ 4 := hL.2.2.2.2.2.1
  have hH := hS.1
  intro k
  induction k with
  | zero =>
    intro i x hi hx hP
    obtain rfl : i = 41 := by omega
    exact q_Moreaches_11 _ _ _ _ h (fun _ => hP) (fun q => absurd (by decide) q) (fun q => absurd (by decide) q) (fun q => absurd (by decide) q)
  | succ k ih =>
    intro i x hi hx hP
    have h40 : ¬ (40 : Int32) < nI i := nle40 (by omega)
    refine q_Moreaches_11 _ _ _ _ h (fun q => absurd q h40) (fun _ w => ?_) (fun _ _ => by rw [z_ix2]; exact z_vp (by omega) (by omega)) (fun _ w => ?_)
    · have hb := (z_has1 x hc).mp w
      rw [hx c hc] at hb
      rw [zFi_y (p := fun i => zRe L S m i c) hb] at hP
      exact hP
    · have hb : zRe L S m i c = false := by
        cases q : zRe L S m i c
        · rfl
        · exact absurd ((z_has1 x hc).mpr (by rw [hx c hc]; exact q)) w
      rw [zFi_n (p := fun i => zRe L S m i c) hb] at hP
      rw [z_ix2, nI_clamp (by omega), (hs.2.2.2 m hm).2.2.1, hs.1, nI_add, nI_1]
      refine ⟨_, c_Mostepped hL h hMl hs.2.2.1 (hS.2.2 m hm).2.1 (by omega) hx (zRe_sup hS hm i), fun v h2 hp => ?_⟩
      obtain ⟨⟨y, ev, hy⟩, eh⟩ := hp
      rw [ev, eh]
      refine q_Moreaches_60 _ _ _ y h ?_
      rw [nI_1]
      exact ih (i + 1) y (by omega) hy hP
theorem c_Moreaches (hL : zLok L) (h : HP) (hMl : zMl L h) (hS : zSh L S) (hs : zMs L S (h.1 56)) {m c : Nat} (hm : m < zM L) (hc : c < 64) : jC E mX8_reaches (n + 5) [.ref 52, .int (nI m), .int (nI c)] h (fun v h2 => v = some (.int (zFi (fun i => zRe L S m i c) 41 0)) ∧ h2 = h) := by
  have hM : zM L ≤ 4 := hL.2.2.2.2.2.1
  have hA := hL.2.2.1
  refine jC.of (lv := [some (.ref 52), some (.int (nI m)), some (.int (nI c)), none, none, none]) (by decide) (Nat.le_of_ble_eq_true rfl) ⟨rfl, rfl, rfl, trivial⟩ (q_Moreaches_0 _ _ h (by rw [z_ix1]; exact z_vp (by omega) (by omega)) (by rw [z_ix0]; exact z_vp (by omega) (by omega)) ?_)
  rw [hMl.1.1, z_spot hs hM hm]
  exact zm_beL hL hMl hS hs hm hc 41 0 _ rfl (zB_one (by have := (hS.2.2 m hm).1; omega)) ⟨rfl, rfl⟩
/-- all the cells within 40 hours -/
theorem zc_ceL (hL : zLok L) {h : HP} (hCl : zCl L h) (hS : zSh L S) (hO : zOl L S h) {m : Nat} (hm : m < zM L) (hP : ∀ x, zB x (zRe L S m 40) → P (some (.long x)) h) : ∀ (k i : Nat) (x : Int64), i + k = 40 → zB x (zRe L S m i) → jG E mX4_cellsOf (n + 2) X P 15 [some (.ref 24), some (.int (nI m)), some (.long x), none, some (.int (nI (i + 1)))] [] h := by
  have hM : zM L ≤ 4 := hL.2.2.2.2.2.1
  intro k
  induction k with
  | zero =>
    intro i x hi hx
    obtain rfl : i = 40 := by omega
    exact q_OlcellsOf_15 _ _ _ h (fun _ => hP x hx) (fun q => absurd (by decide) q) (fun q => absurd (by decide) q)
  | succ k ih =>
    intro i x hi hx
    have h40 : ¬ (40 : Int32) < nI (i + 1) := nle40 (by omega)
    refine q_OlcellsOf_15 _ _ _ h (fun q => absurd q h40) (fun _ => z_vp (by omega) (by omega)) (fun _ => ?_)
    rw [nI_1]
    exact ih (i + 1) _ (by omega) (z_hourC hL hCl hS hO hm (by omega) hx (zRe_sup hS hm i))
theorem c_OlcellsOf (hL : zLok L) (h : HP) (hCl : zCl L h) (hS : zSh L S) (hO : zOl L S h) {m : Nat} (hm : m < zM L) : jC E mX4_cellsOf (n + 2) [.ref 24, .int (nI m)] h (fun v h2 => (∃ x, v = some (.long x) ∧ zB x (zRe L S m 40)) ∧ h2 = h) := by
  have hM : zM L ≤ 4 := hL.2.2.2.2.2.1
  have hA := hL.2.2.1
  refine jC.of (lv := [some (.ref 24), some (.int (nI m)), none, none, none]) (by decide) (Nat.le_of_ble_eq_true rfl) ⟨rfl, rfl, trivial⟩ (q_OlcellsOf_0 _ h (z_vp (by omega) (by omega)) ?_)
  rw [nI_clamp (by omega), (hO.2.2 m hm).1]
  exact zc_ceL hL hCl hS hO hm (fun x hx => ⟨⟨x, rfl, hx⟩, rfl⟩) 40 0 _ rfl (zB_one (by have := (hS.2.2 m hm).1; omega))
theorem zm_ceL (hL : zLok L) {h : HP} (hMl : zMl L h) (hS : zSh L S) (hs : zMs L S (h.1 56)) {m : Nat} (hm : m < zM L) (hP : ∀ x, zB x (zRe L S m 40) → P (some (.long x)) h) : ∀ (k i : Nat) (x : Int64), i + k = 40 → zB x (zRe L S m i) → jG E mX8_reach (n + 5) X P 11 [some (.ref 52), some (.int (nI m)), some (.long x), none, some (.int (nI (i + 1)))] [] h := by
  have hM : zM L ≤ 4 := hL.2.2.2.2.2.1
  have hH := hS.1
  intro k
  induction k with
  | zero =>
    intro i x hi hx
    obtain rfl : i = 40 := by omega
    exact q_Moreach_11 _ _ _ h (fun _ => hP x hx) (fun q => absurd (by decide) q) (fun q => absurd (by decide) q)
  | succ k ih =>
    intro i x hi hx
    have h40 : ¬ (40 : Int32) < nI (i + 1) := nle40 (by omega)
    refine q_Moreach_11 _ _ _ h (fun q => absurd q h40) (fun _ => by rw [z_ix2]; exact z_vp (by omega) (by omega)) (fun _ => ?_)
    rw [z_ix2, nI_clamp (by omega), (hs.2.2.2 m hm).2.2.1, hs.1, nI_add]
    refine ⟨_, c_Mostepped hL h hMl hs.2.2.1 (hS.2.2 m hm).2.1 (by omega) hx (zRe_sup hS hm i), fun v h2 hp => ?_⟩
    obtain ⟨⟨y, ev, hy⟩, eh⟩ := hp
    rw [ev, eh]
    refine q_Moreach_45 _ _ y h ?_
    rw [nI_1]
    exact ih (i + 1) y (by omega) hy
theorem c_Moreach (hL : zLok L) (h : HP) (hMl : zMl L h) (hS : zSh L S) (hs : zMs L S (h.1 56)) {m : Nat} (hm : m < zM L) : jC E mX8_reach (n + 5) [.ref 52, .int (nI m)] h (fun v h2 => (∃ x, v = some (.long x) ∧ zB x (zRe L S m 40)) ∧ h2 = h) := by
  have hM : zM L ≤ 4 := hL.2.2.2.2.2.1
  have hA := hL.2.2.1
  refine jC.of (lv := [some (.ref 52), some (.int (nI m)), none, none, none]) (by decide) (Nat.le_of_ble_eq_true rfl) ⟨rfl, rfl, trivial⟩ (q_Moreach_0 _ h (by rw [z_ix1]; exact z_vp (by omega) (by omega)) (by rw [z_ix0]; exact z_vp (by omega) (by omega)) ?_)
  rw [hMl.1.1, z_spot hs hM hm]
  exact zm_ceL hL hMl hS hs hm (fun x hx => ⟨⟨x, rfl, hx⟩, rfl⟩) 40 0 _ rfl (zB_one (by have := (hS.2.2 m hm).1; omega))
end RE
def zAny (p : Nat → Bool) : Nat → Bool
  | 0 => false
  | k + 1 => zAny p k || p k
theorem zAny_iff {p : Nat → Bool} : ∀ {n : Nat}, zAny p n = true ↔ ∃ k, k < n ∧ p k = true
  | 0 => ⟨fun h => (by cases h), fun ⟨k, h, _⟩ => absurd h (by omega)⟩
  | n + 1 => by
    show (zAny p n || p n) = true ↔ _
    rw [Bool.or_eq_true, zAny_iff]
    constructor
    · rintro (⟨k, h1, h2⟩ | h)
      · exact ⟨k, by omega, h2⟩
      · exact ⟨n, by omega, h⟩
    · rintro ⟨k, h1, h2⟩
      by_cases q : k = n
      · right; rw [← q]; exact h2
      · left; exact ⟨k, by omega, h2⟩
/-- cells to which one of the men marked can come -/
def zOt (L : ZL) (S : ZS) (b : Nat → Bool) (a c : Nat) : Bool := zAny (fun m => b m && zRe L S m 40 c) a
theorem zOt_sup {L : ZL} {S : ZS} (hS : zSh L S) (b : Nat → Bool) {a : Nat} (ha : a ≤ zM L) : zSup L (zOt L S b a) := fun c h => by
  obtain ⟨k, h1, h2⟩ := zAny_iff.mp h
  rw [Bool.and_eq_true] at h2
  exact zRe_sup hS (by omega) 40 c h2.2
theorem zOt_s {L : ZL} {S : ZS} {b : Nat → Bool} {a : Nat} {x y : Int64} (hx : zB x (zOt L S b a)) (hb : b a = true) (hy : zB y (zRe L S a 40)) : zB (x ||| y) (zOt L S b (a + 1)) := zB_eq (zB_or hx hy) (fun c _ => by
  show _ = (zAny _ a || (b a && zRe L S a 40 c))
  rw [hb]
  rfl)
theorem zOt_n {L : ZL} {S : ZS} {b : Nat → Bool} {a : Nat} {x : Int64} (hx : zB x (zOt L S b a)) (hb : b a = false) : zB x (zOt L S b (a + 1)) := zB_eq hx (fun c _ => by
  show _ = (zAny _ a || (b a && zRe L S a 40 c))
  rw [hb, Bool.false_and, Bool.or_false]
  rfl)
section OT
variable {E : jEnv} {n : Nat} {X : State → Prop} {P : Option Value → HP → Prop} {L : ZL} {S : ZS}
theorem zc_otL (hL : zLok L) {h : HP} (hCl : zCl L h) (hS : zSh L S) (hO : zOl L S h) {u : Int32} {b : Nat → Bool} (hu : ∀ m, m < zM L → (nI m = u ↔ b m = false)) (hP : ∀ x, zB x (zOt L S b (zM L)) → P (some (.long x)) h) : ∀ (k a : Nat) (x : Int64), a + k = zM L → zB x (zOt L S b a) → jG E mX4_cellsOfOthers (n + 3) X P 5 [some (.ref 24), some (.int u), some (.long x), none, some (.int (nI a))] [] h := by
  have hM : zM L ≤ 4 := hL.2.2.2.2.2.1
  have e3 : h.1 3 3 = nI (zM L) := hCl.1.2.2.2.1
  intro k
  induction k with
  | zero =>
    intro a x ha hx
    obtain rfl : a = zM L := by omega
    have hle : h.1 3 3 ≤ nI (zM L) := by rw [e3]; exact Int32.le_refl _
    exact q_OlcellsOfOthers_5 _ _ _ h (fun _ => hP x hx) (fun q => absurd hle q) (fun q => absurd hle q)
  | succ k ih =>
    intro a x ha hx
    have hlt : ¬ h.1 3 3 ≤ nI a := by rw [e3]; exact nI_ge (by omega) (by omega)
    refine q_OlcellsOfOthers_5 _ _ _ h (fun q => absurd q hlt) (fun _ w => ?_) (fun _ w => ?_)
    · rw [nI_1, Int64.or_zero]
      exact ih (a + 1) _ (by omega) (zOt_n hx ((hu a (by omega)).mp w))
    · refine ⟨_, c_OlcellsOf hL h hCl hS hO (show a < zM L by omega), fun v h2 hp => ?_⟩
      obtain ⟨⟨y, ev, hy⟩, eh⟩ := hp
      rw [ev, eh]
      refine q_OlcellsOfOthers_34 _ _ y x h ?_
      rw [nI_1]
      refine ih (a + 1) _ (by omega) (zOt_s hx ?_ hy)
      cases q : b a
      · exact absurd ((hu a (by omega)).mpr q) w
      · rfl
theorem c_OlcellsOfOthers (hL : zLok L) (h : HP) (hCl : zCl L h) (hS : zSh L S) (hO : zOl L S h) {u : Int32} {b : Nat → Bool} (hu : ∀ m, m < zM L → (nI m = u ↔ b m = false)) : jC E mX4_cellsOfOthers (n + 3) [.ref 24, .int u] h (fun v h2 => (∃ x, v = some (.long x) ∧ zB x (zOt L S b (zM L))) ∧ h2 = h) := by
  refine jC.of (lv := [some (.ref 24), some (.int u), none, none, none]) (by decide) (Nat.le_of_ble_eq_true rfl) ⟨rfl, rfl, trivial⟩ (q_OlcellsOfOthers_0 _ h ?_)
  exact zc_otL hL hCl hS hO hu (fun x hx => ⟨⟨x, rfl, hx⟩, rfl⟩) (zM L) 0 0 (by omega) zB_0
theorem zm_noL (hL : zLok L) {h : HP} (hMl : zMl L h) (hS : zSh L S) (hs : zMs L S (h.1 56)) {u : Int32} (kx : ∀ x, zB x (zOt L S (fun _ => true) (zM L)) → jG E mX8_nobody (n + 6) X P 35 [some (.ref 52), some (.int u), some (.long x), none, some (.int 0), some (.int 0)] [] h) : ∀ (k a : Nat) (x : Int64), a + k = zM L → zB x (zOt L S (fun _ => true) a) → jG E mX8_nobody (n + 6) X P 5 [some (.ref 52), some (.int u), some (.long x), none, some (.int (nI a)), none] [] h := by
  have hM : zM L ≤ 4 := hL.2.2.2.2.2.1
  have e3 : h.1 52 5 = nI (zM L) := hMl.1.2.2.2.1
  intro k
  induction k with
  | zero =>
    intro a x ha hx
    obtain rfl : a = zM L := by omega
    have hle : h.1 52 5 ≤ nI (zM L) := by rw [e3]; exact Int32.le_refl _
    exact q_Monobody_5 _ _ _ h (fun _ => kx x hx) (fun q => absurd hle q)
  | succ k ih =>
    intro a x ha hx
    have hlt : ¬ h.1 52 5 ≤ nI a := by rw [e3]; exact nI_ge (by omega) (by omega)
    refine q_Monobody_5 _ _ _ h (fun q => absurd q hlt) (fun _ => ?_)
    refine ⟨_, c_Moreach hL h hMl hS hs (show a < zM L by omega), fun v h2 hp => ?_⟩
    obtain ⟨⟨y, ev, hy⟩, eh⟩ := hp
    rw [ev, eh]
    refine q_Monobody_21 _ _ y x h ?_
    rw [nI_1]
    exact ih (a + 1) _ (by omega) (zOt_s hx rfl hy)
theorem zm_alL (hL : zLok L) {h : HP} (hMl : zMl L h) (hS : zSh L S) (hs : zMs L S (h.1 56)) {u : Nat} (hu : u < zM L) {b : Nat → Bool} (hb : ∀ m, m < zM L → (nI m = nI u ↔ b m = false)) (kx : ∀ x y, zB x (zOt L S b (zM L)) → zB y (zRe L S u 40) → jG E mX8_alone (n + 6) X P 55 [some (.ref 52), none, some (.long x), none, none, none, none, none] [.long y] h) : ∀ (k a : Nat) (x : Int64), a + k = zM L → zB x (zOt L S b a) → jG E mX8_alone (n + 6) X P 16 [some (.ref 52), some (.int (nI u)), some (.long x), none, some (.int (nI a)), none, none, none] [] h := by
  have hM : zM L ≤ 4 := hL.2.2.2.2.2.1
  have e3 : h.1 52 5 = nI (zM L) := hMl.1.2.2.2.1
  intro k
  induction k with
  | zero =>
    intro a x ha hx
    obtain rfl : a = zM L := by omega
    have hle : h.1 52 5 ≤ nI (zM L) := by rw [e3]; exact Int32.le_refl _
    refine q_Moalone_16 _ _ _ h (fun _ => ?_) (fun q => absurd hle q) (fun q => absurd hle q)
    refine ⟨_, c_Moreach hL h hMl hS hs hu, fun v h2 hp => ?_⟩
    obtain ⟨⟨y, ev, hy⟩, eh⟩ := hp
    rw [ev, eh]
    exact kx x y hx hy
  | succ k ih =>
    intro a x ha hx
    have hlt : ¬ h.1 52 5 ≤ nI a := by rw [e3]; exact nI_ge (by omega) (by omega)
    refine q_Moalone_16 _ _ _ h (fun q => absurd q hlt) (fun _ w => ?_) (fun _ w => ?_)
    · rw [nI_1, Int64.or_zero]
      exact ih (a + 1) _ (by omega) (zOt_n hx ((hb a (by omega)).mp w))
    · refine ⟨_, c_Moreach hL h hMl hS hs (show a < zM L by omega), fun v h2 hp => ?_⟩
      obtain ⟨⟨y, ev, hy⟩, eh⟩ := hp
      rw [ev, eh]
      refine q_Moalone_42 _ _ y x h ?_
      rw [nI_1]
      refine ih (a + 1) _ (by omega) (zOt_s hx ?_ hy)
      cases q : b a
      · exact absurd ((hb a (by omega)).mpr q) w
      · rfl
end OT
