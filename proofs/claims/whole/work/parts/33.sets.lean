/-! ===== sets of cells: an hour on ===== -/
def zSt (L : ZL) (K : Nat → Bool) (l t : Nat) (p : Nat → Bool) : Nat → Bool := fun c => decide (c < zA L) && (p c || ((K c || decide (zWa L c t ≤ l)) && (p (c + zW L) || (decide (zW L ≤ c) && p (c - zW L)) || (decide (1 ≤ c) && decide ((c - 1) % zW L + 1 < zW L) && p (c - 1)) || (decide (0 < (c + 1) % zW L) && p (c + 1)))))
def zSup (L : ZL) (p : Nat → Bool) : Prop := ∀ c, p c = true → c < zA L
theorem zSt_sup (L : ZL) (K : Nat → Bool) (l t : Nat) (p : Nat → Bool) : zSup L (zSt L K l t p) := fun c h => by
  unfold zSt at h
  rw [Bool.and_eq_true] at h
  exact of_decide_eq_true h.1
theorem zB_all {L : ZL} (hA : zA L ≤ 36) {x : Int64} {p : Nat → Bool} (h : zB x p) (hs : zSup L p) (c : Nat) : bt x c = p c := by
  by_cases hc : c < 64
  · exact h c hc
  · rw [bt_ge (by omega)]
    cases hp : p c
    · rfl
    · have := hs c hp; omega
theorem z_boolS : ∀ a b d e f g m i q w k : Bool, (a || ((((b || (d && e)) || (f && (g && m))) || (i && q)) && (w || k))) = (a || ((k || w) && (b || (d && e) || (f && m && g) || (q && i)))) := by
  intro a b d e f g m i q w k
  have h1 : (w || k) = (k || w) := Bool.or_comm _ _
  have h2 : (f && (g && m)) = (f && m && g) := by cases f <;> cases g <;> cases m <;> rfl
  have h3 : (i && q) = (q && i) := Bool.and_comm _ _
  rw [h1, h2, h3, Bool.and_comm]
theorem z_sup1 {L : ZL} {p : Nat → Bool} (hs : zSup L p) (c : Nat) (b : Bool) : (p c && (decide (c < zA L) && b)) = (p c && b) := by
  cases hp : p c
  · rfl
  · have := hs c hp
    simp [this]
theorem zc_step {L : ZL} (hL : zLok L) {h : HP} (hCl : zCl L h) {g : Int64} {K : Nat → Bool} (hg : zB g K) (hK : zSup L K) {l t : Nat} (hl : l ≤ 7) (ht : t < 2 ^ 31) {x : Int64} {p : Nat → Bool} (hx : zB x p) (hp : zSup L p) : zB (f_Ldspread (h.1 3 0) (h.2 3 7) (h.2 3 8) x (f_LdcellsFor (h.2 9) (nI l) (f_LdtideOf (h.1 3 2) (nI t)) ||| g)) (zSt L K l t p) := by
  have hA := hL.2.2.1
  have hW := hL.1
  obtain ⟨t1, t6⟩ := hL.2.2.2.2.1
  have hm : t % zT L < zT L := Nat.mod_lt _ (by omega)
  obtain ⟨k1, k2, k3, k4, k5, k6, k7, k8⟩ := hCl
  have e1 : f_LdcellsFor (h.2 9) (nI l) (f_LdtideOf (h.1 3 2) (nI t)) = h.2 9 (6 * l + t % zT L) := by
    unfold f_LdcellsFor
    rw [k1.2.2.1, z_tide t1 t6 ht, show nI l * 6 = nI (l * 6) from pk_mul l 6, nI_add, if_neg (nI_pos (by omega)), if_neg (by rw [show (48 : Int32) = nI 48 from rfl]; exact nI_ge (by omega) (by omega)), nI_clamp (by omega), Nat.mul_comm]
  intro c hc
  have hxa := zB_all hA hx hp
  have e2 : bt (h.2 9 (6 * l + t % zT L)) c = (decide (c < zA L) && decide (zWa L c t ≤ l)) := by
    rw [k8 l (t % zT L) (by omega) hm c hc]
    have : zWa L c (t % zT L) = zWa L c t := by unfold zWa; rw [Nat.mod_mod]
    dsimp only
    rw [this]
  unfold f_Ldspread
  rw [e1, k1.1]
  rw [show ((1 : Int32).toInt64) = (nI 1).toInt64 from rfl]
  rw [bt_or, bt_and, bt_or, bt_or, bt_or, bt_or, bt_ushr x (show zW L < 64 by omega), bt_shl x (show zW L < 64 by omega), bt_shl _ (show 1 < 64 by omega), bt_ushr _ (show 1 < 64 by omega), bt_and, bt_and, hxa, hxa, hxa, hxa, hxa, e2, hg c hc]
  have e7 : bt (h.2 3 7) (c + 1) = (decide (c + 1 < zA L) && decide (0 < (c + 1) % zW L)) := by
    by_cases q : c + 1 < 64
    · exact k6 (c + 1) q
    · rw [bt_ge (by omega)]
      have : ¬ c + 1 < zA L := by omega
      simp [this]
  have e8 : bt (h.2 3 8) (c - 1) = (decide (c - 1 < zA L) && decide ((c - 1) % zW L + 1 < zW L)) := k7 (c - 1) (by omega)
  rw [e7, e8, z_sup1 hp, z_sup1 hp]
  unfold zSt
  have d1 : (!decide (c < zW L)) = decide (zW L ≤ c) := by
    by_cases q : c < zW L
    · simp [q]
    · simp [q]; omega
  have d2 : (!decide (c < 1)) = decide (1 ≤ c) := by
    by_cases q : c < 1
    · simp [q]
    · simp [q]; omega
  rw [decide_eq_true hc, Bool.true_and, Bool.true_and, d1, d2]
  by_cases hcA : c < zA L
  · rw [decide_eq_true hcA, Bool.true_and, Bool.true_and]
    exact z_boolS _ _ _ _ _ _ _ _ _ _ _
  · have n1 : p c = false := by
      cases q : p c
      · rfl
      · exact absurd (hp c q) hcA
    have n2 : K c = false := by
      cases q : K c
      · rfl
      · exact absurd (hK c q) hcA
    rw [decide_eq_false hcA, n1, n2]
    simp
/-- the same as ways -/
theorem zSt_iff {L : ZL} (hL : zLok L) {K : Nat → Bool} {l t : Nat} {p : Nat → Bool} (hp : zSup L p) {d : Nat} (hd : d < 64) : zSt L K l t p d = true ↔ (p d = true ∨ ∃ c w, 1 ≤ w ∧ w ≤ 4 ∧ p c = true ∧ zWl L K c w l t = d) := by
  have hA := hL.2.2.1
  have hop : (K d || decide (zWa L d t ≤ l)) = true ↔ zDe L K d t ≤ l := by
    unfold zDe
    cases K d
    · simp
    · simp
  unfold zSt
  simp only [Bool.and_eq_true, Bool.or_eq_true, decide_eq_true_eq]
  constructor
  · rintro ⟨h1, h2 | ⟨h2, h3⟩⟩
    · exact Or.inl h2
    · right
      have h2' : zDe L K d t ≤ l := hop.mp (by simpa using h2)
      have fin : ∀ c w, 1 ≤ w → zLd (zW L) (zA L) c w = d → zWl L K c w l t = d := fun c w hw e => by
        unfold zWl
        rw [if_neg (by omega), e, if_neg (by omega), if_pos h2']
      rcases h3 with ((h3 | ⟨h3, h4⟩) | ⟨⟨h3, h4⟩, h5⟩) | ⟨h3, h4⟩
      · exact ⟨d + zW L, 1, by omega, by omega, h3, fin _ _ (by omega) (by unfold zLd; rw [if_pos rfl, if_pos (by omega)]; omega)⟩
      · exact ⟨d - zW L, 3, by omega, by omega, h4, fin _ _ (by omega) (by unfold zLd; rw [if_neg (by omega), if_neg (by omega), if_pos rfl, if_pos (by omega)]; omega)⟩
      · exact ⟨d - 1, 2, by omega, by omega, h5, fin _ _ (by omega) (by unfold zLd; rw [if_neg (by omega), if_pos rfl, if_pos h4]; omega)⟩
      · exact ⟨d + 1, 4, by omega, by omega, h4, fin _ _ (by omega) (by unfold zLd; rw [if_neg (by omega), if_neg (by omega), if_neg (by omega), if_pos rfl, if_pos h3]; omega)⟩
  · rintro (h | ⟨c, w, w1, w4, h1, h2⟩)
    · exact ⟨hp d h, Or.inl h⟩
    · have hc := hp c h1
      have hlt := (zWl_lt hL (K := K) (l := l) (t := t) hc w4).resolve_left (by omega)
      rw [h2] at hlt
      refine ⟨hlt, Or.inr ?_⟩
      unfold zWl at h2
      rw [if_neg (by omega)] at h2
      by_cases q : zLd (zW L) (zA L) c w = 99
      · rw [if_pos q] at h2; omega
      · rw [if_neg q] at h2
        by_cases q2 : zDe L K (zLd (zW L) (zA L) c w) t ≤ l
        · rw [if_pos q2] at h2
          rw [h2] at q2
          refine ⟨by simpa using hop.mpr q2, ?_⟩
          have hw : w = 1 ∨ w = 2 ∨ w = 3 ∨ w = 4 := by omega
          unfold zLd at h2
          rcases hw with rfl | rfl | rfl | rfl
          · rw [if_pos rfl] at h2
            by_cases r : zW L ≤ c
            · rw [if_pos r] at h2
              left; left; left
              rw [show d + zW L = c by omega]; exact h1
            · rw [if_neg r] at h2; omega
          · rw [if_neg (by omega), if_pos rfl] at h2
            by_cases r : c % zW L + 1 < zW L
            · rw [if_pos r] at h2
              left; right
              rw [show d - 1 = c by omega]
              exact ⟨⟨by omega, r⟩, h1⟩
            · rw [if_neg r] at h2; omega
          · rw [if_neg (by omega), if_neg (by omega), if_pos rfl] at h2
            by_cases r : c + zW L < zA L
            · rw [if_pos r] at h2
              left; left; right
              rw [show d - zW L = c by omega]
              exact ⟨by omega, h1⟩
            · rw [if_neg r] at h2; omega
          · rw [if_neg (by omega), if_neg (by omega), if_neg (by omega), if_pos rfl] at h2
            by_cases r : 0 < c % zW L
            · rw [if_pos r] at h2
              right
              have : c ≠ 0 := fun e => by rw [e, Nat.zero_mod] at r; omega
              rw [show d + 1 = c by omega]
              exact ⟨r, h1⟩
            · rw [if_neg r] at h2; omega
        · rw [if_neg q2] at h2; omega
theorem and1_1 (x : Int64) : x &&& 1 = 1 ↔ bt x 0 = true := by
  constructor
  · intro h
    have : bt (x &&& 1) 0 = bt 1 0 := by rw [h]
    rw [bt_and, bt_1] at this
    simpa using this
  · intro h
    apply bt_ext
    intro c hc
    rw [bt_and, bt_1]
    by_cases h0 : c = 0
    · subst h0; simp [h]
    · simp [h0]
theorem z_has1 (x : Int64) {c : Nat} (hc : c < 64) : lg_cmp ((x >>> ((nI c).toInt64 &&& 63)) &&& 1) 1 = 0 ↔ bt x c = true := by
  rw [lg_cmp0, and1_1, bt_shr x hc (by omega), Nat.zero_add]
theorem z_has0 (x : Int64) {c : Nat} (hc : c < 64) : lg_cmp ((x >>> ((nI c).toInt64 &&& 63)) &&& 1) 0 = 0 ↔ bt x c = false := by
  rw [lg_cmp0, and1_0, bt_shr x hc (by omega), Nat.zero_add]
section ST
variable {E : jEnv} {n : Nat} {X : State → Prop} {P : Option Value → HP → Prop} {L : ZL} {S : ZS}
/-- what is held while the model steps -/
def zSj (L : ZL) (K : Nat → Bool) (l t : Nat) (p : Nat → Bool) (y : Int64) (c w : Nat) : Prop := ∀ d, d < 64 → (bt y d = true ↔ (p d = true ∨ ∃ c' w', (c' < c ∨ (c' = c ∧ w' < w)) ∧ 1 ≤ w' ∧ w' ≤ 4 ∧ p c' = true ∧ zWl L K c' w' l t = d))
theorem zSj_c {L : ZL} {K : Nat → Bool} {l t : Nat} {p : Nat → Bool} {y : Int64} {c w : Nat} (h : zSj L K l t p y c w) (hw : 5 ≤ w ∨ p c = false) : zSj L K l t p y (c + 1) 1 := by
  intro d hd
  rw [h d hd]
  constructor
  · rintro (q | ⟨c', w', q1, q2, q3, q4, q5⟩)
    · exact Or.inl q
    · exact Or.inr ⟨c', w', by omega, q2, q3, q4, q5⟩
  · rintro (q | ⟨c', w', q1, q2, q3, q4, q5⟩)
    · exact Or.inl q
    · refine Or.inr ⟨c', w', ?_, q2, q3, q4, q5⟩
      by_cases e : c' = c
      · rcases hw with hw | hw
        · right; exact ⟨e, by omega⟩
        · rw [e, hw] at q4; cases q4
      · left; omega
theorem zSj_w {L : ZL} {K : Nat → Bool} {l t : Nat} {p : Nat → Bool} {y y' : Int64} {c w : Nat} (h : zSj L K l t p y c w) (hw1 : 1 ≤ w) (hw : w ≤ 4) (hp : p c = true) (hy : ∀ d, d < 64 → (bt y' d = true ↔ (bt y d = true ∨ zWl L K c w l t = d))) : zSj L K l t p y' c (w + 1) := by
  intro d hd
  rw [hy d hd, h d hd]
  constructor
  · rintro ((q | ⟨c', w', q1, q2, q3, q4, q5⟩) | q)
    · exact Or.inl q
    · exact Or.inr ⟨c', w', by omega, q2, q3, q4, q5⟩
    · exact Or.inr ⟨c, w, Or.inr ⟨rfl, by omega⟩, hw1, hw, hp, q⟩
  · rintro (q | ⟨c', w', q1, q2, q3, q4, q5⟩)
    · exact Or.inl (Or.inl q)
    · by_cases e : c' = c ∧ w' = w
      · right; rw [e.1, e.2] at q5; exact q5
      · left; right
        exact ⟨c', w', by omega, q2, q3, q4, q5⟩
theorem zm_stepI (hL : zLok L) {h : HP} (hMl : zMl L h) {K : Nat → Bool} (hK : ∀ c, c < 36 → h.1 56 (26 + c) = if K c = true then 1 else 0) {l t : Nat} (hl : l ≤ 7) (ht : t < 2 ^ 31) {x : Int64} {p : Nat → Bool} (hx : zB x p) {c : Nat} (hc : c < zA L) (kx : ∀ y, zSj L K l t p y (c + 1) 1 → jG E mX8_stepped (n + 4) X P 6 [some (.ref 52), some (.long x), none, some (.int (nI l)), some (.int (nI t)), some (.long y), none, some (.int (nI (c + 1))), none] [] h) : ∀ (k w : Nat) (y : Int64), w + k = 5 → 1 ≤ w → zSj L K l t p y c w → jG E mX8_stepped (n + 4) X P 23 [some (.ref 52), some (.long x), none, some (.int (nI l)), some (.int (nI t)), some (.long y), none, some (.int (nI c)), some (.int (nI w))] [] h := by
  have hA := hL.2.2.1
  have hW9 := hL.1
  have hW0 : 0 < zW L := by
    rcases Nat.eq_zero_or_pos (zW L) with q | q
    · have : zA L = 0 := by unfold zA; rw [q, Nat.zero_mul]
      omega
    · exact q
  have hne0 : ¬ h.1 52 0 = 0 := by rw [hMl.1.1]; exact nI_ne0 hW0 (by omega)
  have hne4 : ¬ h.1 52 4 = 0 := by rw [hMl.1.2.2.1]; exact nI_ne0 (by have := hL.2.2.2.2.1; omega) (by have := hL.2.2.2.2.1; omega)
  intro k
  induction k with
  | zero =>
    intro w y hw hw1 hj
    obtain rfl : w = 5 := by omega
    refine q_Mostepped_23 _ _ _ _ _ _ h (fun _ => ?_) (fun c => absurd (by decide) c) (fun c => absurd (by decide) c) (fun c => absurd (by decide) c) (fun c => absurd (by decide) c) (fun c => absurd (by decide) c) (fun c => absurd (by decide) c) (fun c => absurd (by decide) c) (fun c => absurd (by decide) c) (fun c => absurd (by decide) c) (fun c => absurd (by decide) c) (fun c => absurd (by decide) c) (fun c => absurd (by decide) c) (fun c => absurd (by decide) c) (fun c => absurd (by decide) c) (fun c => absurd (by decide) c)
    rw [nI_1]
    exact kx y (zSj_c hj (Or.inl (by omega)))
  | succ k ih =>
    intro w y hw hw1 hj
    have h5 : ¬ (5 : Int32) ≤ nI w := by rw [show (5 : Int32) = nI 5 from rfl]; exact nI_ge (by omega) (by omega)
    obtain ⟨l1, l2, l3⟩ := z_led hL hc (show w ≤ 4 by omega)
    have hl' : ∀ q : ¬ f_Moled (h.1 52 0) (h.1 52 1) (nI c) (nI w) = -1, ∃ d, d < 36 ∧ f_Moled (h.1 52 0) (h.1 52 1) (nI c) (nI w) = nI d := fun q => by
      rw [hMl.1.1, hMl.1.2.1, l1] at q ⊢
      rcases l3 with l3 | l3
      · exact absurd (by rw [l3]; rfl) q
      · exact ⟨_, by omega, (zI_in (by omega)).1⟩
    have hwm := z_wayM hL hMl.2.1 hMl.2.2.1 (K := K) (r56 := h.1 56) hK (t := t) (l := l) hc (show w ≤ 4 by omega) hl ht
    have hbit := z_has1 x (show c < 64 by omega)
    rw [hx c (by omega)] at hbit
    refine q_Mostepped_23 _ _ _ _ _ _ h (fun c => absurd c h5) (fun _ _ => hne0) (fun _ _ _ => hne0) (fun _ _ _ _ => hne0) (fun _ _ _ _ => hne0) (fun _ _ _ q => ?_) (fun _ _ _ _ => hne4) (fun _ _ _ _ => by rw [hMl.1.2.2.1]; exact z_tinM hL ht) (fun _ _ _ q => ?_) (fun _ b w0 => ?_) (fun _ _ _ => hne0) (fun _ _ _ _ => hne0) (fun _ _ _ _ _ => hne0) (fun _ _ _ _ _ => hne0) (fun _ b w0 => ?_) (fun _ b => ?_)
    · obtain ⟨d, hd, ed⟩ := hl' q
      rw [ed]; exact z_vp hd (by omega)
    · obtain ⟨d, hd, ed⟩ := hl' q
      rw [ed, z_26]; exact z_vp (by omega) (by omega)
    · rw [hMl.1.1, hMl.1.2.1, hMl.1.2.2.1] at w0
      rcases hwm with ⟨q, _⟩ | ⟨_, q, _⟩
      · rw [nI_1]
        refine ih (w + 1) _ (by omega) (by omega) (zSj_w hj hw1 (by omega) (hbit.mp b) (fun d hd => ?_))
        rw [bt_or, bt0, Bool.or_false, q]
        constructor
        · exact Or.inl
        · rintro (r | r)
          · exact r
          · omega
      · rw [q] at w0; exact absurd w0 one0
    · rw [hMl.1.1, hMl.1.2.1, hMl.1.2.2.1] at w0
      rcases hwm with ⟨_, q⟩ | ⟨r1, _, r2⟩
      · exact absurd q w0
      · rw [nI_1, hMl.1.1, hMl.1.2.1, r2]
        refine ih (w + 1) _ (by omega) (by omega) (zSj_w hj hw1 (by omega) (hbit.mp b) (fun d hd => ?_))
        rw [bt_or, bt_one (by omega) hd, Bool.or_eq_true, decide_eq_true_eq]
        constructor
        · rintro (r | r)
          · exact Or.inl r
          · exact Or.inr r.symm
        · rintro (r | r)
          · exact Or.inl r
          · exact Or.inr r.symm
    · rw [nI_1]
      refine kx y (zSj_c hj (Or.inr ?_))
      cases q : p c
      · rfl
      · exact absurd (hbit.mpr q) b
theorem c_Mostepped (hL : zLok L) (h : HP) (hMl : zMl L h) {K : Nat → Bool} (hK : ∀ c, c < 36 → h.1 56 (26 + c) = if K c = true then 1 else 0) {l t : Nat} (hl : l ≤ 7) (ht : t < 2 ^ 31) {x : Int64} {p : Nat → Bool} (hx : zB x p) (hp : zSup L p) : jC E mX8_stepped (n + 4) [.ref 52, .long x, .int (nI l), .int (nI t)] h (fun v h2 => (∃ y, v = some (.long y) ∧ zB y (zSt L K l t p)) ∧ h2 = h) := by
  have hA := hL.2.2.1
  have hAe : h.1 52 0 * h.1 52 1 = nI (zA L) := by rw [hMl.1.1, hMl.1.2.1, pk_mul]; rfl
  refine jC.of (lv := [some (.ref 52), some (.long x), none, some (.int (nI l)), some (.int (nI t)), none, none, none, none]) (by decide) (Nat.le_of_ble_eq_true rfl) ⟨rfl, rfl, rfl, rfl, trivial⟩ (q_Mostepped_0 _ _ _ h ?_)
  have main : ∀ (k c : Nat) (y : Int64), c + k = zA L → zSj L K l t p y c 1 → jG E mX8_stepped (n + 4) (fun _ => True) (fun v h2 => (∃ y, v = some (.long y) ∧ zB y (zSt L K l t p)) ∧ h2 = h) 6 [some (.ref 52), some (.long x), none, some (.int (nI l)), some (.int (nI t)), some (.long y), none, some (.int (nI c)), none] [] h := by
    intro k
    induction k with
    | zero =>
      intro c y hc hj
      obtain rfl : c = zA L := by omega
      refine q_Mostepped_6 _ _ _ _ _ h (fun _ => ⟨⟨y, rfl, fun d hd => ?_⟩, rfl⟩) (fun c => absurd (by rw [hAe]; exact Int32.le_refl _) c)
      rw [Bool.eq_iff_iff, hj d hd, zSt_iff hL hp hd]
      constructor
      · rintro (q | ⟨c', w', _, q2, q3, q4, q5⟩)
        · exact Or.inl q
        · exact Or.inr ⟨c', w', q2, q3, q4, q5⟩
      · rintro (q | ⟨c', w', q2, q3, q4, q5⟩)
        · exact Or.inl q
        · exact Or.inr ⟨c', w', Or.inl (hp c' q4), q2, q3, q4, q5⟩
    | succ k ih =>
      intro c y hc hj
      refine q_Mostepped_6 _ _ _ _ _ h (fun q => absurd q (by rw [hAe]; exact nI_ge (by omega) (by omega))) (fun _ => ?_)
      exact zm_stepI hL hMl hK hl ht hx (by omega) (fun y' hj' => ih (c + 1) y' (by omega) hj') 4 1 y rfl (by omega) hj
  refine main (zA L) 0 x (by omega) (fun d hd => ?_)
  rw [hx d hd]
  constructor
  · exact Or.inl
  · rintro (q | ⟨c', w', q, q2, _⟩)
    · exact q
    · omega
end ST
