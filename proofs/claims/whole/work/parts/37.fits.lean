/-! ===== footsteps ===== -/
/-- the steps seen behind n hours allow the cell -/
def zSa (bc bd : Nat → Nat) (n : Nat) : Nat → Nat → Bool
  | 0, _ => true
  | k + 1, c => zSa bc bd n k c && (!decide (bd k = n) || decide (c = bc k))
def zFp (L : ZL) (S : ZS) (bc bd : Nat → Nat) (N b l : Nat) : Nat → Nat → Bool
  | 0 => fun c => decide (c = b) && zSa bc bd 0 N c
  | n + 1 => fun c => zSt L (zSk S) l (zH S + (n + 1)) (zFp L S bc bd N b l n) c && zSa bc bd (n + 1) N c
theorem zFp_sup {L : ZL} {S : ZS} {bc bd : Nat → Nat} {N b l : Nat} (hb : b < zA L) : ∀ n, zSup L (zFp L S bc bd N b l n)
  | 0 => fun c h => by
    have h' : (decide (c = b) && zSa bc bd 0 N c) = true := h
    rw [Bool.and_eq_true] at h'
    rw [of_decide_eq_true h'.1]; exact hb
  | n + 1 => fun c h => by
    have h' : (zSt L (zSk S) l (zH S + (n + 1)) (zFp L S bc bd N b l n) c && zSa bc bd (n + 1) N c) = true := h
    rw [Bool.and_eq_true] at h'
    exact zSt_sup _ _ _ _ _ c h'.1
theorem zSt_em {L : ZL} (hL : zLok L) {K : Nat → Bool} {l t : Nat} {p : Nat → Bool} (hp : zSup L p) (h : ∀ c, p c = false) (c : Nat) : zSt L K l t p c = false := by
  have hA := hL.2.2.1
  cases q : zSt L K l t p c
  · rfl
  · have hc := zSt_sup L K l t p c q
    rcases (zSt_iff hL hp (show c < 64 by omega)).mp q with r | ⟨c', _, _, _, r, _⟩
    · rw [h c] at r; cases r
    · rw [h c'] at r; cases r
theorem zFp_em {L : ZL} (hL : zLok L) {S : ZS} {bc bd : Nat → Nat} {N b l : Nat} (hb : b < zA L) {i : Nat} (h : ∀ c, zFp L S bc bd N b l i c = false) : ∀ j c, zFp L S bc bd N b l (i + j) c = false
  | 0, c => h c
  | j + 1, c => by
    show (zSt L (zSk S) l (zH S + (i + j + 1)) (zFp L S bc bd N b l (i + j)) c && zSa bc bd (i + j + 1) N c) = false
    rw [zSt_em hL (zFp_sup hb _) (zFp_em hL hb h j), Bool.false_and]
theorem z_cmp0 {L : ZL} (hL : zLok L) {x : Int64} {p : Nat → Bool} (hx : zB x p) (hp : zSup L p) : lg_cmp x 0 = 0 ↔ ∀ c, p c = false := by
  have hA := hL.2.2.1
  rw [lg_cmp0]
  constructor
  · intro h c
    rw [← zB_all hA hx hp c, h, bt0]
  · intro h
    apply bt_ext
    intro c hc
    rw [hx c hc, h c, bt0]
theorem zAny_em {p : Nat → Bool} {n : Nat} (h : ∀ c, p c = false) : zAny p n = false := by
  cases q : zAny p n
  · rfl
  · obtain ⟨k, _, r⟩ := zAny_iff.mp q
    rw [h k] at r; cases r
theorem zAny_ne {L : ZL} (hL : zLok L) {p : Nat → Bool} (hp : zSup L p) (h : ¬ ∀ c, p c = false) : zAny p 64 = true := by
  have hA := hL.2.2.1
  cases q : zAny p 64
  · exfalso
    apply h
    intro c
    cases r : p c
    · rfl
    · have hc := hp c r
      rw [zAny_iff.mpr ⟨c, by omega, r⟩] at q
      cases q
  · rfl
def zLe (g : Nat → Bool) : Nat → Int32
  | 0 => 0
  | k + 1 => zLe g k ||| (if g k = true then (1 : Int32) <<< (nI k &&& 31) else 0)
section FI
variable {E : jEnv} {n : Nat} {X : State → Prop} {P : Option Value → HP → Prop} {L : ZL} {S : ZS} {bc bd : Nat → Nat} {N : Nat}
theorem zc_seL (hN : N ≤ 20) {h : HP} (h3 : h.1 30 3 = nI N) (hq : ∀ i, i < N → bc i < 36 ∧ bd i ≤ 40 ∧ h.1 31 i = nI (bc i) ∧ h.1 32 i = nI (bd i)) {t : Nat} (ht : t ≤ 40) {q : Nat → Bool} (hP : ∀ x, zB x (fun c => q c && zSa bc bd t N c) → P (some (.long x)) h) : ∀ (k a : Nat) (x : Int64), a + k = N → zB x (fun c => q c && zSa bc bd t a c) → jG E mX1_seenAt n X P 11 [some (.ref 30), some (.int (nI t)), some (.long x), none, some (.int (nI a))] [] h := by
  intro k
  induction k with
  | zero =>
    intro a x ha hx
    obtain rfl : a = N := by omega
    have hle : h.1 30 3 ≤ nI a := by rw [h3]; exact Int32.le_refl _
    exact q_FsseenAt_11 _ _ _ h (fun _ => hP x hx) (fun q => absurd hle q) (fun q => absurd hle q) (fun q => absurd hle q) (fun q => absurd hle q)
  | succ k ih =>
    intro a x ha hx
    have hlt : ¬ h.1 30 3 ≤ nI a := by rw [h3]; exact nI_ge (by omega) (by omega)
    obtain ⟨q1, q2, q3, q4⟩ := hq a (by omega)
    have hcl : (nI a).toNatClampNeg = a := nI_clamp (by omega)
    have hv : vp_in (nI a) 20 := z_vp (by omega) (by omega)
    have es : ∀ c, zSa bc bd t (a + 1) c = (zSa bc bd t a c && (!decide (bd a = t) || decide (c = bc a))) := fun c => rfl
    refine q_FsseenAt_11 _ _ _ h (fun q => absurd q hlt) (fun _ => hv) (fun _ _ => hv) (fun _ w => ?_) (fun _ w => ?_)
    · rw [hcl, q4] at w
      have w' := (nI_eq (by omega) (by omega)).mp w
      rw [hcl, q3, nI_1]
      refine ih (a + 1) _ (by omega) (zB_eq (zB_and hx (zB_one (show bc a < 64 by omega))) (fun c _ => ?_))
      rw [es, decide_eq_true w', Bool.not_true, Bool.false_or, Bool.and_assoc]
    · rw [hcl, q4] at w
      have w' : ¬ bd a = t := fun r => w (by rw [r])
      rw [nI_1]
      refine ih (a + 1) _ (by omega) (zB_eq hx (fun c _ => ?_))
      rw [es, decide_eq_false w', Bool.not_false, Bool.true_or, Bool.and_true]
theorem c_FsseenAt (hN : N ≤ 20) (h : HP) (hCl : zCl L h) (h3 : h.1 30 3 = nI N) (hq : ∀ i, i < N → bc i < 36 ∧ bd i ≤ 40 ∧ h.1 31 i = nI (bc i) ∧ h.1 32 i = nI (bd i)) {t : Nat} (ht : t ≤ 40) : jC E mX1_seenAt n [.ref 30, .int (nI t)] h (fun v h2 => (∃ x, v = some (.long x) ∧ zB x (fun c => decide (c < zA L) && zSa bc bd t N c)) ∧ h2 = h) := by
  refine jC.of (lv := [some (.ref 30), some (.int (nI t)), none, none, none]) (by decide) (Nat.le_of_ble_eq_true rfl) ⟨rfl, rfl, trivial⟩ (q_FsseenAt_0 _ h ?_)
  refine zc_seL hN h3 hq ht (q := fun c => decide (c < zA L)) (fun x hx => ⟨⟨x, rfl, hx⟩, rfl⟩) N 0 _ (by omega) (zB_eq hCl.2.2.2.2.1 (fun c _ => ?_))
  show _ = (decide (c < zA L) && true)
  rw [Bool.and_true]
theorem zm_seL (hN : N ≤ 20) {h : HP} (h3 : h.1 52 14 = nI N) (hq : ∀ i, i < N → bc i < 36 ∧ bd i ≤ 40 ∧ h.1 59 (2 * i) = nI (bc i) ∧ h.1 59 (2 * i + 1) = nI (bd i)) {t : Nat} (ht : t ≤ 40) {q : Nat → Bool} (hP : ∀ x, zB x (fun c => q c && zSa bc bd t N c) → P (some (.long x)) h) : ∀ (k a : Nat) (x : Int64), a + k = N → zB x (fun c => q c && zSa bc bd t a c) → jG E mX8_allowed n X P 6 [some (.ref 52), none, none, some (.int (nI t)), some (.long x), none, some (.int (nI a))] [] h := by
  intro k
  induction k with
  | zero =>
    intro a x ha hx
    obtain rfl : a = N := by omega
    have hle : h.1 52 14 ≤ nI a := by rw [h3]; exact Int32.le_refl _
    exact q_Moallowed_6 _ _ _ h (fun _ => hP x hx) (fun q => absurd hle q) (fun q => absurd hle q) (fun q => absurd hle q) (fun q => absurd hle q)
  | succ k ih =>
    intro a x ha hx
    have hlt : ¬ h.1 52 14 ≤ nI a := by rw [h3]; exact nI_ge (by omega) (by omega)
    obtain ⟨q1, q2, q3, q4⟩ := hq a (by omega)
    have es : ∀ c, zSa bc bd t (a + 1) c = (zSa bc bd t a c && (!decide (bd a = t) || decide (c = bc a))) := fun c => rfl
    refine q_Moallowed_6 _ _ _ h (fun q => absurd q hlt) (fun _ => by rw [z_2x1]; exact z_vp (by omega) (by omega)) (fun _ _ => by rw [z_2x]; exact z_vp (by omega) (by omega)) (fun _ w => ?_) (fun _ w => ?_)
    · rw [z_2x1, nI_clamp (by omega), q4] at w
      have w' := (nI_eq (by omega) (by omega)).mp w
      rw [z_2x, nI_clamp (by omega), q3, nI_1]
      refine ih (a + 1) _ (by omega) (zB_eq (zB_and hx (zB_one (show bc a < 64 by omega))) (fun c _ => ?_))
      rw [es, decide_eq_true w', Bool.not_true, Bool.false_or, Bool.and_assoc]
    · rw [z_2x1, nI_clamp (by omega), q4] at w
      have w' : ¬ bd a = t := fun r => w (by rw [r])
      rw [nI_1]
      refine ih (a + 1) _ (by omega) (fun c hc => ?_)
      rw [bt_and, bt_m1 hc, Bool.and_true, hx c hc]; dsimp only; rw [es, decide_eq_false w', Bool.not_false, Bool.true_or, Bool.and_true]
theorem c_Moallowed (hN : N ≤ 20) (h : HP) (h3 : h.1 52 14 = nI N) (hq : ∀ i, i < N → bc i < 36 ∧ bd i ≤ 40 ∧ h.1 59 (2 * i) = nI (bc i) ∧ h.1 59 (2 * i + 1) = nI (bd i)) {t : Nat} (ht : t ≤ 40) {x : Int64} {q : Nat → Bool} (hx : zB x q) : jC E mX8_allowed n [.ref 52, .long x, .int (nI t)] h (fun v h2 => (∃ x, v = some (.long x) ∧ zB x (fun c => q c && zSa bc bd t N c)) ∧ h2 = h) := by
  refine jC.of (lv := [some (.ref 52), some (.long x), none, some (.int (nI t)), none, none, none]) (by decide) (Nat.le_of_ble_eq_true rfl) ⟨rfl, rfl, rfl, trivial⟩ (q_Moallowed_0 _ _ h ?_)
  refine zm_seL hN h3 hq ht (q := q) (fun x hx => ⟨⟨x, rfl, hx⟩, rfl⟩) N 0 _ (by omega) (zB_eq hx (fun c _ => ?_))
  show _ = (q c && true)
  rw [Bool.and_true]
theorem zc_alL (hL : zLok L) (hS : zSh L S) (hN : N ≤ 20) {h : HP} (hCl : zCl L h) (hs : zCs L S 18 h) (h3 : h.1 30 3 = nI N) (hq : ∀ i, i < N → bc i < 36 ∧ bd i ≤ 40 ∧ h.1 31 i = nI (bc i) ∧ h.1 32 i = nI (bd i)) {b l : Nat} (hb : b < zA L) (hl : l ≤ 6) (hP : P (some (.int (if zAny (zFp L S bc bd N b l 40) 64 = true then 1 else 0))) h) : ∀ (k i : Nat) (x : Int64), i + k = 40 → zB x (zFp L S bc bd N b l i) → jG E mX1_canBeAll (n + 1) X P 16 [some (.ref 30), some (.int (nI l)), some (.long x), none, some (.int (nI (i + 1))), none, none] [] h := by
  have hH := hS.1
  have no : ∀ i x, i ≤ 40 → zB x (zFp L S bc bd N b l i) → lg_cmp x 0 = 0 → P (some (.int 0)) h := fun i x hi hx w => by
    have he := (z_cmp0 hL hx (zFp_sup hb i)).mp w
    have h2 := zFp_em hL (S := S) hb he (40 - i)
    rw [show i + (40 - i) = 40 by omega] at h2
    rw [zAny_em h2] at hP
    exact hP
  intro k
  induction k with
  | zero =>
    intro i x hi hx
    obtain rfl : i = 40 := by omega
    refine q_FscanBeAll_16 _ _ _ h (fun _ w => no 40 x (by omega) hx w) (fun _ w => ?_) (fun q => absurd (by decide) q) (fun q => absurd (by decide) q) (fun q => absurd (by decide) q)
    rw [zAny_ne hL (zFp_sup hb 40) (fun r => w ((z_cmp0 hL hx (zFp_sup hb 40)).mpr r)), if_pos rfl] at hP
    exact hP
  | succ k ih =>
    intro i x hi hx
    have h40 : ¬ (40 : Int32) < nI (i + 1) := nle40 (by omega)
    refine q_FscanBeAll_16 _ _ _ h (fun q => absurd q h40) (fun q => absurd q h40) (fun _ w _ => no i x (by omega) hx w) (fun _ w w2 => absurd w w2) (fun _ _ => ?_)
    refine ⟨_, c_FsseenAt hN h hCl h3 hq (show i + 1 ≤ 40 by omega), fun v h2 hp => ?_⟩
    obtain ⟨⟨y, ev, hy⟩, eh⟩ := hp
    rw [ev, eh]
    refine q_FscanBeAll_80 _ _ y _ h ?_
    rw [nI_1]
    refine ih (i + 1) _ (by omega) ?_
    rw [hs.1, nI_add]
    have hz := zc_step hL hCl hs.2.2.1 hS.2.1 (show l ≤ 7 by omega) (show zH S + (i + 1) < 2 ^ 31 by omega) hx (zFp_sup hb i)
    refine zB_eq (zB_and hz hy) (fun c _ => ?_)
    show _ = (zSt L (zSk S) l (zH S + (i + 1)) (zFp L S bc bd N b l i) c && zSa bc bd (i + 1) N c)
    cases q : zSt L (zSk S) l (zH S + (i + 1)) (zFp L S bc bd N b l i) c
    · rfl
    · have := zSt_sup _ _ _ _ _ c q
      simp [this]
theorem c_FscanBeAll (hL : zLok L) (hS : zSh L S) (hN : N ≤ 20) (h : HP) (hCl : zCl L h) (hs : zCs L S 18 h) (h3 : h.1 30 3 = nI N) (hq : ∀ i, i < N → bc i < 36 ∧ bd i ≤ 40 ∧ h.1 31 i = nI (bc i) ∧ h.1 32 i = nI (bd i)) {b l : Nat} (hb : b < zA L) (h2 : h.1 30 2 = nI b) (hl : l ≤ 6) : jC E mX1_canBeAll (n + 1) [.ref 30, .int (nI l)] h (fun v h2 => v = some (.int (if zAny (zFp L S bc bd N b l 40) 64 = true then 1 else 0)) ∧ h2 = h) := by
  have hA := hL.2.2.1
  refine jC.of (lv := [some (.ref 30), some (.int (nI l)), none, none, none, none, none]) (by decide) (Nat.le_of_ble_eq_true rfl) ⟨rfl, rfl, trivial⟩ (q_FscanBeAll_0 _ h ?_)
  refine ⟨_, c_FsseenAt hN h hCl h3 hq (show 0 ≤ 40 by omega), fun v h2' hp => ?_⟩
  obtain ⟨⟨y, ev, hy⟩, eh⟩ := hp
  rw [ev, eh, h2]
  refine q_FscanBeAll_11 _ y _ h ?_
  refine zc_alL hL hS hN hCl hs h3 hq hb hl ⟨rfl, rfl⟩ 40 0 _ rfl (zB_eq (zB_and (zB_one (show b < 64 by omega)) hy) (fun c _ => ?_))
  show _ = (decide (c = b) && zSa bc bd 0 N c)
  by_cases q : c = b
  · have : c < zA L := by omega
    simp [this]
  · simp [q]
theorem c_Fslengths (hL : zLok L) (hS : zSh L S) (hN : N ≤ 20) (h : HP) (hCl : zCl L h) (hs : zCs L S 18 h) (h3 : h.1 30 3 = nI N) (hq : ∀ i, i < N → bc i < 36 ∧ bd i ≤ 40 ∧ h.1 31 i = nI (bc i) ∧ h.1 32 i = nI (bd i)) {b : Nat} (hb : b < zA L) (h2 : h.1 30 2 = nI b) : jC E mX1_lengthsThatFit (n + 2) [.ref 30] h (fun v h2 => v = some (.int (zLe (fun l => zAny (zFp L S bc bd N b l 40) 64) 7)) ∧ h2 = h) := by
  refine jC.of (lv := [some (.ref 30), none, none]) (by decide) (Nat.le_of_ble_eq_true rfl) ⟨rfl, trivial⟩ (q_FslengthsThatFit_0 h ?_)
  have main : ∀ (k a : Nat), a + k = 7 → jG E mX1_lengthsThatFit (n + 2) (fun _ => True) (fun v h2 => v = some (.int (zLe (fun l => zAny (zFp L S bc bd N b l 40) 64) 7)) ∧ h2 = h) 4 [some (.ref 30), some (.int (zLe (fun l => zAny (zFp L S bc bd N b l 40) 64) a)), some (.int (nI a))] [] h := by
    intro k
    induction k with
    | zero =>
      intro a ha
      obtain rfl : a = 7 := by omega
      exact q_FslengthsThatFit_4 _ _ h (fun _ => ⟨rfl, rfl⟩) (fun q => absurd (by decide) q)
    | succ k ih =>
      intro a ha
      have h6 : ¬ (6 : Int32) < nI a := by rw [show (6 : Int32) = nI 6 from rfl]; exact nI_nlt (by omega) (by omega)
      refine q_FslengthsThatFit_4 _ _ h (fun q => absurd q h6) (fun _ => ?_)
      refine ⟨_, c_FscanBeAll hL hS hN h hCl hs h3 hq hb h2 (show a ≤ 6 by omega), fun v h2' hp => ?_⟩
      rw [hp.1, hp.2]
      have := ih (a + 1) (by omega)
      have es : zLe (fun l => zAny (zFp L S bc bd N b l 40) 64) (a + 1) = zLe (fun l => zAny (zFp L S bc bd N b l 40) 64) a ||| (if zAny (zFp L S bc bd N b a 40) 64 = true then (1 : Int32) <<< (nI a &&& 31) else 0) := rfl
      rw [es] at this
      by_cases q : zAny (zFp L S bc bd N b a 40) 64 = true
      · rw [if_pos q] at this ⊢
        refine q_FslengthsThatFit_16 _ _ _ h (fun w => absurd w one0) (fun _ => ?_)
        rw [nI_1]
        exact this
      · rw [if_neg q] at this ⊢
        refine q_FslengthsThatFit_16 _ _ _ h (fun _ => ?_) (fun w => absurd rfl w)
        rw [nI_1]
        exact this
  exact main 7 0 rfl
theorem zm_fiL (hL : zLok L) (hS : zSh L S) (hN : N ≤ 20) {h : HP} (hMl : zMl L h) (hs : zMs L S (h.1 56)) (h3 : h.1 52 14 = nI N) (hq : ∀ i, i < N → bc i < 36 ∧ bd i ≤ 40 ∧ h.1 59 (2 * i) = nI (bc i) ∧ h.1 59 (2 * i + 1) = nI (bd i)) {b l : Nat} (hb : b < zA L) (hl : l ≤ 6) {u : Int32} (kx : jG E mX8_fits (n + 5) X P 16 [some (.ref 52), some (.int (u ||| (if zAny (zFp L S bc bd N b l 40) 64 = true then (1 : Int32) <<< (nI l &&& 31) else 0))), some (.int (nI (l + 1))), none, none, none] [] h) : ∀ (k i : Nat) (x : Int64), i + k = 40 → zB x (zFp L S bc bd N b l i) → jG E mX8_fits (n + 5) X P 37 [some (.ref 52), some (.int u), some (.int (nI l)), some (.long x), none, some (.int (nI (i + 1)))] [] h := by
  have hH := hS.1
  intro k
  induction k with
  | zero =>
    intro i x hi hx
    obtain rfl : i = 40 := by omega
    refine q_Mofits_37 _ _ _ _ h (fun _ w => ?_) (fun _ w => ?_) (fun q => absurd (by decide) q)
    · rw [zAny_em ((z_cmp0 hL hx (zFp_sup hb 40)).mp w)] at kx
      rw [nI_1]
      exact kx
    · rw [zAny_ne hL (zFp_sup hb 40) (fun r => w ((z_cmp0 hL hx (zFp_sup hb 40)).mpr r)), if_pos rfl] at kx
      rw [nI_1]
      exact kx
  | succ k ih =>
    intro i x hi hx
    have h40 : ¬ (40 : Int32) < nI (i + 1) := nle40 (by omega)
    refine q_Mofits_37 _ _ _ _ h (fun q => absurd q h40) (fun q => absurd q h40) (fun _ => ?_)
    rw [hs.1, nI_add]
    refine ⟨_, c_Mostepped hL h hMl hs.2.2.1 (show l ≤ 7 by omega) (show zH S + (i + 1) < 2 ^ 31 by omega) hx (zFp_sup hb i), fun v h2 hp => ?_⟩
    obtain ⟨⟨y, ev, hy⟩, eh⟩ := hp
    rw [ev, eh]
    refine q_Mofits_60 _ _ _ y h ?_
    refine ⟨_, c_Moallowed hN h h3 hq (show i + 1 ≤ 40 by omega) hy, fun v h2 hp => ?_⟩
    obtain ⟨⟨y2, ev2, hy2⟩, eh2⟩ := hp
    rw [ev2, eh2]
    refine q_Mofits_65 _ _ _ y2 h ?_
    rw [nI_1]
    exact ih (i + 1) y2 (by omega) hy2
theorem c_Mofits (hL : zLok L) (hS : zSh L S) (hN : N ≤ 20) (h : HP) (hMl : zMl L h) (hs : zMs L S (h.1 56)) (h3 : h.1 52 14 = nI N) (hq : ∀ i, i < N → bc i < 36 ∧ bd i ≤ 40 ∧ h.1 59 (2 * i) = nI (bc i) ∧ h.1 59 (2 * i + 1) = nI (bd i)) {b : Nat} (hb : b < zA L) (h2 : h.1 52 12 = nI b) : jC E mX8_fits (n + 5) [.ref 52] h (fun v h2 => v = some (.int (zLe (fun l => zAny (zFp L S bc bd N b l 40) 64) 7)) ∧ h2 = h) := by
  have hA := hL.2.2.1
  refine jC.of (lv := [some (.ref 52), none, none, none, none, none]) (by decide) (Nat.le_of_ble_eq_true rfl) ⟨rfl, trivial⟩ (q_Mofits_0 h (fun q => absurd q (by rw [h2]; exact nI_neg1 (by omega))) (fun _ => ?_))
  have main : ∀ (k a : Nat), a + k = 7 → jG E mX8_fits (n + 5) (fun _ => True) (fun v h2 => v = some (.int (zLe (fun l => zAny (zFp L S bc bd N b l 40) 64) 7)) ∧ h2 = h) 16 [some (.ref 52), some (.int (zLe (fun l => zAny (zFp L S bc bd N b l 40) 64) a)), some (.int (nI a)), none, none, none] [] h := by
    intro k
    induction k with
    | zero =>
      intro a ha
      obtain rfl : a = 7 := by omega
      exact q_Mofits_16 _ _ h (fun _ => ⟨rfl, rfl⟩) (fun q => absurd (by decide) q)
    | succ k ih =>
      intro a ha
      have h7 : ¬ (7 : Int32) ≤ nI a := by rw [show (7 : Int32) = nI 7 from rfl]; exact nI_ge (by omega) (by omega)
      refine q_Mofits_16 _ _ h (fun q => absurd q h7) (fun _ => ?_)
      rw [h2]
      refine ⟨_, c_Moallowed hN h h3 hq (show 0 ≤ 40 by omega) (zB_one (show b < 64 by omega)), fun v h2' hp => ?_⟩
      obtain ⟨⟨y, ev, hy⟩, eh⟩ := hp
      rw [ev, eh]
      refine q_Mofits_33 _ _ y h ?_
      exact zm_fiL hL hS hN hMl hs h3 hq hb (show a ≤ 6 by omega) (ih (a + 1) (by omega)) 40 0 y rfl hy
  exact main 7 0 rfl
end FI
theorem p_fits (E : jEnv) : jPair E 100 zInv mX7_fits mX8_fits [] := by
  intro j h hj hI
  have hI' := hI
  obtain ⟨L, S, hL, hCl, hMl, hS, hCs, hMs, hIm, hFt, hBk, hTx, hFa⟩ := hI
  have hA := hL.2.2.1
  have hsh : zSh L S := hS.sh (by omega)
  obtain ⟨f1, f2, N, hN, f3, f4, f5⟩ := hFt
  have fin := zInv_mono j h hI'
  rcases f2 with f2 | ⟨b, hb, f2⟩
  · have c1 : jC E mX7_fits 100 [.ref 0] h (fun v h2 => v = some (.int (-1000000003)) ∧ h2 = h) :=
      jC.of (lv := [some (.ref 0)]) (by decide) (Nat.le_of_ble_eq_true rfl) ⟨rfl, trivial⟩ (q_Shfits_0 (n := 99) h (fun _ => ⟨rfl, rfl⟩) (fun q => absurd f2 q))
    have c2 : jC E mX8_fits 100 [.ref 52] h (fun v h2 => v = some (.int (-1000000003)) ∧ h2 = h) :=
      jC.of (lv := [some (.ref 52), none, none, none, none, none]) (by decide) (Nat.le_of_ble_eq_true rfl) ⟨rfl, trivial⟩ (q_Mofits_0 (n := 99) h (fun _ => ⟨rfl, rfl⟩) (fun q => absurd (by rw [← f1]; exact f2) q))
    exact z_pair c1 c2 rfl fin
  · have hb1 : ∀ i, i < N → (h.1 31 i).toNatClampNeg < 36 ∧ (h.1 32 i).toNatClampNeg ≤ 40 ∧ h.1 31 i = nI (h.1 31 i).toNatClampNeg ∧ h.1 32 i = nI (h.1 32 i).toNatClampNeg := fun i hi => by
      obtain ⟨m, d, hm, hd, a1, a2, a3, a4⟩ := f5 i hi
      rw [a1, a3, nI_clamp (by omega), nI_clamp (by omega)]
      exact ⟨by omega, hd, rfl, rfl⟩
    have hb2 : ∀ i, i < N → (h.1 31 i).toNatClampNeg < 36 ∧ (h.1 32 i).toNatClampNeg ≤ 40 ∧ h.1 59 (2 * i) = nI (h.1 31 i).toNatClampNeg ∧ h.1 59 (2 * i + 1) = nI (h.1 32 i).toNatClampNeg := fun i hi => by
      obtain ⟨m, d, hm, hd, a1, a2, a3, a4⟩ := f5 i hi
      rw [a1, a3, a2, a4, nI_clamp (by omega), nI_clamp (by omega)]
      exact ⟨by omega, hd, rfl, rfl⟩
    have c1 : jC E mX7_fits 100 [.ref 0] h (fun v h2 => v = some (.int (zLe (fun l => zAny (zFp L S (fun i => (h.1 31 i).toNatClampNeg) (fun i => (h.1 32 i).toNatClampNeg) N b l 40) 64) 7)) ∧ h2 = h) := by
      refine jC.of (lv := [some (.ref 0)]) (by decide) (Nat.le_of_ble_eq_true rfl) ⟨rfl, trivial⟩ (q_Shfits_0 (n := 99) h (fun q => absurd q (by rw [f2]; exact nI_neg1 (by omega))) (fun _ => ?_))
      refine ⟨_, c_Fslengths (n := 97) hL hsh hN h hCl hCs f3 hb1 hb f2, fun v h2 hp => ?_⟩
      rw [hp.1, hp.2]
      exact q_Shfits_23 _ _ ⟨rfl, rfl⟩
    have c2 := c_Mofits (E := E) (n := 95) hL hsh hN h hMl hMs f4 hb2 hb (by rw [← f1]; exact f2)
    exact z_pair c1 c2 rfl fin
