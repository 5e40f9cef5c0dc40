/-! ===== the text: runs of bytes, numbers, signs, words ===== -/
def rn (p : Nat → Bool) (N : Nat) : Nat → Nat → Nat
  | 0, a => a
  | k + 1, a => if a < N ∧ p a = true then rn p N k (a + 1) else a
/-- the end of a run that begins at a -/
def re (p : Nat → Bool) (N a : Nat) : Nat := rn p N (N - a) a
theorem re_y {p : Nat → Bool} {N a : Nat} (h : a < N) (q : p a = true) : re p N a = re p N (a + 1) := by
  unfold re
  obtain ⟨k, hk⟩ : ∃ k, N - a = k + 1 := ⟨N - a - 1, by omega⟩
  rw [hk, show N - (a + 1) = k by omega]
  exact if_pos ⟨h, q⟩
theorem re_n {p : Nat → Bool} {N a : Nat} (h : a < N → p a = false) : re p N a = a := by
  unfold re
  cases hk : N - a with
  | zero => rfl
  | succ k =>
    refine if_neg (fun q => ?_)
    rw [h q.1] at q
    cases q.2
theorem re_ind {p : Nat → Bool} {N : Nat} {Q : Nat → Prop} (h0 : ∀ a, a ≤ N → (a < N → p a = false) → Q a) (h1 : ∀ a, a < N → p a = true → Q (a + 1) → Q a) : ∀ (k a : Nat), N - a = k → a ≤ N → Q a := by
  intro k
  induction k with
  | zero => intro a hk ha; exact h0 a ha (fun h => absurd h (by omega))
  | succ k ih =>
    intro a hk ha
    cases q : p a
    · exact h0 a ha (fun _ => q)
    · exact h1 a (by omega) q (ih (a + 1) (by omega) (by omega))
theorem re_le {p : Nat → Bool} {N a : Nat} (ha : a ≤ N) : a ≤ re p N a ∧ re p N a ≤ N :=
  re_ind (p := p) (Q := fun a => a ≤ re p N a ∧ re p N a ≤ N) (fun a ha h => by rw [re_n h]; exact ⟨Nat.le_refl _, ha⟩) (fun a ha q ih => by rw [re_y ha q]; omega) (N - a) a rfl ha
theorem re_end {p : Nat → Bool} {N a : Nat} (ha : a ≤ N) : re p N a < N → p (re p N a) = false :=
  re_ind (p := p) (Q := fun a => re p N a < N → p (re p N a) = false) (fun a ha h => by rw [re_n h]; exact h) (fun a ha q ih => by rw [re_y ha q]; exact ih) (N - a) a rfl ha
theorem re_all {p : Nat → Bool} {N a : Nat} (ha : a ≤ N) : ∀ i, a ≤ i → i < re p N a → p i = true :=
  re_ind (p := p) (Q := fun a => ∀ i, a ≤ i → i < re p N a → p i = true) (fun a ha h => by rw [re_n h]; intro i h1 h2; omega) (fun a ha q ih => by
    rw [re_y ha q]
    intro i h1 h2
    by_cases e : i = a
    · rw [e]; exact q
    · exact ih i (by omega) h2) (N - a) a rfl ha
theorem re_re {p : Nat → Bool} {N a : Nat} (ha : a ≤ N) : re p N (re p N a) = re p N a := re_n (re_end ha)
theorem re_gt {p : Nat → Bool} {N a : Nat} (h : a < N) (q : p a = true) : a < re p N a := by
  rw [re_y h q]
  have := (re_le (p := p) (N := N) (a := a + 1) (by omega)).1
  omega
section TX
variable (B : Nat → Nat) (N : Nat)
def bSp (i : Nat) : Bool := decide (B i = 32)
def bLt (i : Nat) : Bool := decide (97 ≤ B i) && decide (B i ≤ 122)
def bFg (i : Nat) : Bool := decide (48 ≤ B i) && decide (B i ≤ 57)
def sk (a : Nat) : Nat := re (bSp B) N a
def lt (a : Nat) : Nat := re (bLt B) N a
def fg (a : Nat) : Nat := re (bFg B) N a
/-- what the first k figures (three at most) say -/
def vl (s : Nat) : Nat → Nat
  | 0 => 0
  | k + 1 => if k < 3 then 10 * vl s k + (B (s + k) - 48) else vl s k
/-- a fault: (its number, its byte) -/
abbrev ZE : Type := Nat × Nat
def bnd {α β : Type} (r : ZE ⊕ α) (k : α → ZE ⊕ β) : ZE ⊕ β := match r with
  | .inl f => .inl f
  | .inr x => k x
def tNum (lo hi a : Nat) : ZE ⊕ (Nat × Nat) :=
  if fg B N (sk B N a) = sk B N a then .inl (1, sk B N a)
  else if 3 < fg B N (sk B N a) - sk B N a ∨ ¬ (lo ≤ vl B (sk B N a) (fg B N (sk B N a) - sk B N a) ∧ vl B (sk B N a) (fg B N (sk B N a) - sk B N a) ≤ hi) then .inl (2, sk B N a)
  else .inr (vl B (sk B N a) (fg B N (sk B N a) - sk B N a), fg B N (sk B N a))
def tSgn (c a : Nat) : ZE ⊕ Nat := if sk B N a < N ∧ B (sk B N a) = c then .inr (sk B N a + 1) else .inl (1, sk B N a)
def tCel (w g a : Nat) : ZE ⊕ (Nat × Nat) := bnd (tNum B N 0 (w - 1) a) (fun x => bnd (tNum B N 0 (g - 1) x.2) (fun y => .inr (w * y.1 + x.1, y.2)))
/-- word i stands at s and ends at e -/
def isW (i s e : Nat) : Bool := decide (e - s = jSl.getD i 0) && (List.range (jSl.getD i 0)).all (fun j => decide (nI (B (s + j)) = (jSb.getD i []).getD j 0))
def cod (s e : Nat) : Nat := if isW B 0 s e = true then 0 else if isW B 1 s e = true then 1 else if isW B 2 s e = true then 2 else if isW B 3 s e = true then 3 else if isW B 4 s e = true then 4 else if isW B 5 s e = true then 5 else 6
end TX
/-- a draft: (width, height, hours of the tide, men, news, castle, rows told, castle told), depths, tides, of men cell and stilts, cells of news -/
abbrev ZD : Type := (Nat × Nat × Nat × Nat × Nat × Nat × Nat × Nat) × (Nat → Nat) × (Nat → Nat) × (Nat → Nat) × (Nat → Nat) × (Nat → Nat)
def dW (D : ZD) : Nat := D.1.1
def dG (D : ZD) : Nat := D.1.2.1
def dH (D : ZD) : Nat := D.1.2.2.1
def dM (D : ZD) : Nat := D.1.2.2.2.1
def dN (D : ZD) : Nat := D.1.2.2.2.2.1
def dC (D : ZD) : Nat := D.1.2.2.2.2.2.1
def dR (D : ZD) : Nat := D.1.2.2.2.2.2.2.1
def dK (D : ZD) : Nat := D.1.2.2.2.2.2.2.2
def dO (D : ZD) : Nat → Nat := D.2.1
def dT (D : ZD) : Nat → Nat := D.2.2.1
def dX (D : ZD) : Nat → Nat := D.2.2.2.1
def dS (D : ZD) : Nat → Nat := D.2.2.2.2.1
def dP (D : ZD) : Nat → Nat := D.2.2.2.2.2
def D0 : ZD := ((0, 0, 0, 0, 0, 0, 0, 0), fun _ => 0, fun _ => 0, fun _ => 0, fun _ => 0, fun _ => 0)
def uL (D : ZD) (w g : Nat) : ZD := ((w, g, D.1.2.2), D.2)
def uR (D : ZD) (r : Nat) : ZD := ((dW D, dG D, dH D, dM D, dN D, dC D, r, dK D), D.2)
def uO (D : ZD) (c v : Nat) : ZD := (D.1, up1 c v (dO D), D.2.2)
def uT (D : ZD) (t v : Nat) : ZD := ((dW D, dG D, t + 1, dM D, dN D, dC D, dR D, dK D), dO D, up1 t v (dT D), D.2.2.2)
def uM (D : ZD) (c l : Nat) : ZD := ((dW D, dG D, dH D, dM D + 1, dN D, dC D, dR D, dK D), dO D, dT D, up1 (dM D) c (dX D), up1 (dM D) l (dS D), dP D)
def uN (D : ZD) (c : Nat) : ZD := ((dW D, dG D, dH D, dM D, dN D + 1, dC D, dR D, dK D), dO D, dT D, dX D, dS D, up1 (dN D) c (dP D))
def uC (D : ZD) (c : Nat) : ZD := ((dW D, dG D, dH D, dM D, dN D, c, dR D, 1), D.2)
section TP
variable (B : Nat → Nat) (N : Nat)
def tLand (D : ZD) (a : Nat) : ZE ⊕ (ZD × Nat) := if cod B (sk B N a) (lt B N (sk B N a)) = 0 then
    bnd (tNum B N 1 9 (lt B N (sk B N a))) (fun w => bnd (tNum B N 1 (if 36 / w.1 < 9 then 36 / w.1 else 9) w.2) (fun g => bnd (tSgn B N 59 g.2) (fun e => .inr (uL D w.1 g.1, e))))
  else .inl (1, sk B N a)
/-- depths of row y from x on -/
def tRowL (y : Nat) : Nat → Nat → ZD → Nat → ZE ⊕ (ZD × Nat)
  | 0, _, D, a => bnd (tSgn B N 59 a) (fun e => .inr (D, e))
  | k + 1, x, D, a => bnd (if x = 0 then .inr a else tSgn B N 44 a) (fun b => bnd (tNum B N 0 9 b) (fun v => tRowL y k (x + 1) (uO D (dW D * y + x) v.1) v.2))
def tRow (D : ZD) (a : Nat) : ZE ⊕ (ZD × Nat) := bnd (tNum B N 0 (dG D - 1) a) (fun y => if (dR D).testBit y.1 = true then .inl (4, sk B N a) else tRowL B N y.1 (dW D) 0 (uR D (dR D ||| 2 ^ y.1)) y.2)
def tTideL : Nat → ZD → Nat → ZE ⊕ (ZD × Nat)
  | 0, D, a => bnd (tSgn B N 59 a) (fun e => .inr (D, e))
  | k + 1, D, a => if sk B N a < N ∧ B (sk B N a) = 44 then bnd (tNum B N 0 9 (sk B N a + 1)) (fun v => tTideL k (uT D (dH D) v.1) v.2) else bnd (tSgn B N 59 a) (fun e => .inr (D, e))
def tTide (D : ZD) (s a : Nat) : ZE ⊕ (ZD × Nat) := if dH D = 0 then bnd (tNum B N 0 9 a) (fun v => tTideL B N 5 (uT D 0 v.1) v.2) else .inl (3, s)
def tMan (D : ZD) (s a : Nat) : ZE ⊕ (ZD × Nat) := if dM D = 4 then .inl (3, s) else bnd (tCel B N (dW D) (dG D) a) (fun c => bnd (tNum B N 0 6 c.2) (fun l => bnd (tSgn B N 59 l.2) (fun e => .inr (uM D c.1 l.1, e))))
def tNews (D : ZD) (s a : Nat) : ZE ⊕ (ZD × Nat) := if dN D = 4 then .inl (3, s) else bnd (tCel B N (dW D) (dG D) a) (fun c => bnd (tSgn B N 59 c.2) (fun e => .inr (uN D c.1, e)))
def tCas (D : ZD) (s a : Nat) : ZE ⊕ (ZD × Nat) := if dK D = 0 then bnd (tCel B N (dW D) (dG D) a) (fun c => bnd (tSgn B N 59 c.2) (fun e => .inr (uC D c.1, e))) else .inl (3, s)
def tStm (D : ZD) (a : Nat) : ZE ⊕ (ZD × Nat) :=
  if cod B (sk B N a) (lt B N (sk B N a)) = 0 then .inl (3, sk B N a)
  else if cod B (sk B N a) (lt B N (sk B N a)) = 1 then tRow B N D (lt B N (sk B N a))
  else if cod B (sk B N a) (lt B N (sk B N a)) = 2 then tTide B N D (sk B N a) (lt B N (sk B N a))
  else if cod B (sk B N a) (lt B N (sk B N a)) = 3 then tMan B N D (sk B N a) (lt B N (sk B N a))
  else if cod B (sk B N a) (lt B N (sk B N a)) = 4 then tNews B N D (sk B N a) (lt B N (sk B N a))
  else if cod B (sk B N a) (lt B N (sk B N a)) = 5 then tCas B N D (sk B N a) (lt B N (sk B N a))
  else .inl (1, sk B N a)
def tAll : Nat → ZD → Nat → ZE ⊕ ZD
  | 0, D, _ => .inr D
  | k + 1, D, a => if sk B N a < N then bnd (tStm B N D a) (fun r => tAll k r.1 r.2) else .inr D
def tRead : ZE ⊕ ZD := if sk B N 0 < N then bnd (tLand B N D0 0) (fun r => tAll B N 500 r.1 r.2) else .inr D0
end TP
/-! what the pieces keep -/
theorem vl_bnd (B : Nat → Nat) (s : Nat) : ∀ k, (∀ i, i < k → B (s + i) ≤ 57) → k ≤ 3 → vl B s k < 10 ^ k
  | 0, _, _ => Nat.one_pos
  | k + 1, h, hk => by
    have ih := vl_bnd B s k (fun i hi => h i (by omega)) (by omega)
    have := h k (by omega)
    show (if k < 3 then 10 * vl B s k + (B (s + k) - 48) else vl B s k) < 10 ^ (k + 1)
    rw [if_pos (by omega), Nat.pow_succ]
    omega
theorem sk_le {B : Nat → Nat} {N a : Nat} (h : a ≤ N) : a ≤ sk B N a ∧ sk B N a ≤ N := re_le h
theorem lt_le {B : Nat → Nat} {N a : Nat} (h : a ≤ N) : a ≤ lt B N a ∧ lt B N a ≤ N := re_le h
theorem fg_le {B : Nat → Nat} {N a : Nat} (h : a ≤ N) : a ≤ fg B N a ∧ fg B N a ≤ N := re_le h
theorem sk_sk {B : Nat → Nat} {N a : Nat} (h : a ≤ N) : sk B N (sk B N a) = sk B N a := re_re h
theorem tNum_sk {B : Nat → Nat} {N lo hi a : Nat} (h : a ≤ N) : tNum B N lo hi (sk B N a) = tNum B N lo hi a := by
  unfold tNum
  rw [sk_sk h]
theorem tSgn_sk {B : Nat → Nat} {N c a : Nat} (h : a ≤ N) : tSgn B N c (sk B N a) = tSgn B N c a := by
  unfold tSgn
  rw [sk_sk h]
theorem tNum_ok {B : Nat → Nat} {N lo hi a v e : Nat} (h : a ≤ N) (q : tNum B N lo hi a = .inr (v, e)) : lo ≤ v ∧ v ≤ hi ∧ a < e ∧ e ≤ N := by
  have h1 := sk_le (B := B) h
  have h2 := fg_le (B := B) h1.2
  unfold tNum at q
  split at q
  · cases q
  · split at q
    · cases q
    · rename_i w1 w2
      cases q
      refine ⟨by omega, by omega, by omega, h2.2⟩
theorem tSgn_ok {B : Nat → Nat} {N c a e : Nat} (h : a ≤ N) (q : tSgn B N c a = .inr e) : a < e ∧ e ≤ N := by
  have h1 := sk_le (B := B) h
  unfold tSgn at q
  split at q
  · cases q; omega
  · cases q
theorem bnd_inr {α β : Type} {r : ZE ⊕ α} {k : α → ZE ⊕ β} {y : β} (h : bnd r k = .inr y) : ∃ x, r = .inr x ∧ k x = .inr y := by
  cases r with
  | inl f => cases h
  | inr x => exact ⟨x, rfl, h⟩
theorem tCel_ok {B : Nat → Nat} {N w g a c e : Nat} (hw : 0 < w) (hg : 0 < g) (h : a ≤ N) (q : tCel B N w g a = .inr (c, e)) : c < w * g ∧ a < e ∧ e ≤ N := by
  unfold tCel at q
  obtain ⟨⟨x, a1⟩, q1, q⟩ := bnd_inr q
  obtain ⟨⟨y, a2⟩, q2, q⟩ := bnd_inr q
  obtain ⟨_, x2, x3, x4⟩ := tNum_ok h q1
  obtain ⟨_, y2, y3, y4⟩ := tNum_ok x4 q2
  cases q
  exact ⟨z_lin (by omega) (by omega), by omega, y4⟩
/-- what a draft may be -/
def zDok (D : ZD) : Prop := (0 < dW D ∧ dW D ≤ 9) ∧ (0 < dG D ∧ dG D ≤ 9) ∧ dW D * dG D ≤ 36 ∧ dH D ≤ 6 ∧ dM D ≤ 4 ∧ dN D ≤ 4 ∧ dC D < dW D * dG D ∧ dR D < 512 ∧ dK D ≤ 1 ∧ (∀ c, dO D c ≤ 9) ∧ (∀ t, dT D t ≤ 9) ∧ (∀ m, m < dM D → dX D m < dW D * dG D ∧ dS D m ≤ 6) ∧ ∀ k, k < dN D → dP D k < dW D * dG D
theorem up1_bnd {f : Nat → Nat} {m v b : Nat} (hv : v ≤ b) (hf : ∀ i, f i ≤ b) (i : Nat) : up1 m v f i ≤ b := by
  unfold up1
  split
  · exact hv
  · exact hf i
section TK
variable {B : Nat → Nat} {N : Nat}
theorem tRowL_ok {y : Nat} : ∀ (k x : Nat) (D : ZD) (a : Nat) (D' : ZD) (e : Nat), a ≤ N → zDok D → tRowL B N y k x D a = .inr (D', e) → zDok D' ∧ a < e ∧ e ≤ N := by
  intro k
  induction k with
  | zero =>
    intro x D a D' e ha hD q
    obtain ⟨e', q1, q2⟩ := bnd_inr (show bnd (tSgn B N 59 a) (fun e => .inr (D, e)) = .inr (D', e) from q)
    cases q2
    exact ⟨hD, tSgn_ok ha q1⟩
  | succ k ih =>
    intro x D a D' e ha hD q
    obtain ⟨b, q1, q⟩ := bnd_inr (show bnd (if x = 0 then .inr a else tSgn B N 44 a) (fun b => bnd (tNum B N 0 9 b) (fun v => tRowL B N y k (x + 1) (uO D (dW D * y + x) v.1) v.2)) = .inr (D', e) from q)
    obtain ⟨⟨v, a2⟩, q2, q⟩ := bnd_inr q
    have hb : a ≤ b ∧ b ≤ N := by
      by_cases hx : x = 0
      · rw [if_pos hx] at q1; cases q1; omega
      · rw [if_neg hx] at q1
        have := tSgn_ok ha q1; omega
    obtain ⟨_, v2, v3, v4⟩ := tNum_ok hb.2 q2
    have hD2 : zDok (uO D (dW D * y + x) v) := by
      obtain ⟨h1, h2, h3, h4, h5, h6, h7, h8, h9, h10, h11, h12, h13⟩ := hD
      exact ⟨h1, h2, h3, h4, h5, h6, h7, h8, h9, up1_bnd v2 h10, h11, h12, h13⟩
    have := ih (x + 1) _ a2 D' e v4 hD2 q
    exact ⟨this.1, by omega, this.2.2⟩
theorem tRow_ok {D : ZD} {a : Nat} {D' : ZD} {e : Nat} (ha : a ≤ N) (hD : zDok D) (q : tRow B N D a = .inr (D', e)) : zDok D' ∧ a < e ∧ e ≤ N := by
  unfold tRow at q
  obtain ⟨⟨y, a1⟩, q1, q⟩ := bnd_inr q
  obtain ⟨_, y2, y3, y4⟩ := tNum_ok ha q1
  split at q
  · cases q
  · have hD2 : zDok (uR D (dR D ||| 2 ^ y)) := by
      obtain ⟨h1, h2, h3, h4, h5, h6, h7, h8, h9, h10, h11, h12, h13⟩ := hD
      refine ⟨h1, h2, h3, h4, h5, h6, h7, ?_, h9, h10, h11, h12, h13⟩
      exact Nat.or_lt_two_pow (n := 9) h8 (Nat.pow_lt_pow_right (by omega) (by omega))
    have := tRowL_ok _ _ _ _ _ _ y4 hD2 q
    exact ⟨this.1, by omega, this.2.2⟩
theorem uT_ok {D : ZD} (hD : zDok D) {t v : Nat} (ht : t < 6) (hv : v ≤ 9) : zDok (uT D t v) := by
  obtain ⟨h1, h2, h3, h4, h5, h6, h7, h8, h9, h10, h11, h12, h13⟩ := hD
  exact ⟨h1, h2, h3, by show t + 1 ≤ 6; omega, h5, h6, h7, h8, h9, h10, up1_bnd hv h11, h12, h13⟩
theorem tTideL_ok : ∀ (k : Nat) (D : ZD) (a : Nat) (D' : ZD) (e : Nat), a ≤ N → zDok D → dH D + k = 6 → 0 < dH D → tTideL B N k D a = .inr (D', e) → zDok D' ∧ a < e ∧ e ≤ N := by
  intro k
  induction k with
  | zero =>
    intro D a D' e ha hD hk h0 q
    obtain ⟨e', q1, q2⟩ := bnd_inr (show bnd (tSgn B N 59 a) (fun e => .inr (D, e)) = .inr (D', e) from q)
    cases q2
    exact ⟨hD, tSgn_ok ha q1⟩
  | succ k ih =>
    intro D a D' e ha hD hk h0 q
    have hs := sk_le (B := B) ha
    have q' : (if sk B N a < N ∧ B (sk B N a) = 44 then bnd (tNum B N 0 9 (sk B N a + 1)) (fun v => tTideL B N k (uT D (dH D) v.1) v.2) else bnd (tSgn B N 59 a) (fun e => .inr (D, e))) = .inr (D', e) := q
    split at q'
    · rename_i w
      obtain ⟨⟨v, a2⟩, q2, q3⟩ := bnd_inr q'
      obtain ⟨_, v2, v3, v4⟩ := tNum_ok (show sk B N a + 1 ≤ N by omega) q2
      have := ih _ a2 D' e v4 (uT_ok hD (by omega) v2) (by show dH D + 1 + k = 6; omega) (by show 0 < dH D + 1; omega) q3
      exact ⟨this.1, by omega, this.2.2⟩
    · obtain ⟨e', q1, q2⟩ := bnd_inr q'
      cases q2
      exact ⟨hD, tSgn_ok ha q1⟩
theorem tTide_ok {D : ZD} {s a : Nat} {D' : ZD} {e : Nat} (ha : a ≤ N) (hD : zDok D) (q : tTide B N D s a = .inr (D', e)) : zDok D' ∧ a < e ∧ e ≤ N := by
  unfold tTide at q
  split at q
  · obtain ⟨⟨v, a2⟩, q2, q3⟩ := bnd_inr q
    obtain ⟨_, v2, v3, v4⟩ := tNum_ok ha q2
    have := tTideL_ok _ _ a2 D' e v4 (uT_ok hD (by omega) v2) rfl (by show 0 < 0 + 1; omega) q3
    exact ⟨this.1, by omega, this.2.2⟩
  · cases q
theorem tMan_ok {D : ZD} {s a : Nat} {D' : ZD} {e : Nat} (ha : a ≤ N) (hD : zDok D) (q : tMan B N D s a = .inr (D', e)) : zDok D' ∧ a < e ∧ e ≤ N := by
  unfold tMan at q
  split at q
  · cases q
  · rename_i w
    obtain ⟨⟨c, a1⟩, q1, q⟩ := bnd_inr q
    obtain ⟨⟨l, a2⟩, q2, q⟩ := bnd_inr q
    obtain ⟨e', q3, q⟩ := bnd_inr q
    cases q
    obtain ⟨h1, h2, h3, h4, h5, h6, h7, h8, h9, h10, h11, h12, h13⟩ := hD
    obtain ⟨c1, c2, c3⟩ := tCel_ok h1.1 h2.1 ha q1
    obtain ⟨_, l2, l3, l4⟩ := tNum_ok c3 q2
    have := tSgn_ok l4 q3
    refine ⟨⟨h1, h2, h3, h4, by show dM D + 1 ≤ 4; omega, h6, h7, h8, h9, h10, h11, fun m hm => ?_, h13⟩, by omega, this.2⟩
    have hm' : m < dM D + 1 := hm
    show up1 (dM D) c (dX D) m < _ ∧ up1 (dM D) l (dS D) m ≤ 6
    unfold up1
    by_cases e : m = dM D
    · rw [if_pos e, if_pos e]; exact ⟨c1, l2⟩
    · rw [if_neg e, if_neg e]; exact h12 m (by omega)
theorem tNews_ok {D : ZD} {s a : Nat} {D' : ZD} {e : Nat} (ha : a ≤ N) (hD : zDok D) (q : tNews B N D s a = .inr (D', e)) : zDok D' ∧ a < e ∧ e ≤ N := by
  unfold tNews at q
  split at q
  · cases q
  · rename_i w
    obtain ⟨⟨c, a1⟩, q1, q⟩ := bnd_inr q
    obtain ⟨e', q3, q⟩ := bnd_inr q
    cases q
    obtain ⟨h1, h2, h3, h4, h5, h6, h7, h8, h9, h10, h11, h12, h13⟩ := hD
    obtain ⟨c1, c2, c3⟩ := tCel_ok h1.1 h2.1 ha q1
    have := tSgn_ok c3 q3
    refine ⟨⟨h1, h2, h3, h4, h5, by show dN D + 1 ≤ 4; omega, h7, h8, h9, h10, h11, h12, fun m hm => ?_⟩, by omega, this.2⟩
    have hm' : m < dN D + 1 := hm
    show up1 (dN D) c (dP D) m < _
    unfold up1
    by_cases e : m = dN D
    · rw [if_pos e]; exact c1
    · rw [if_neg e]; exact h13 m (by omega)
theorem tCas_ok {D : ZD} {s a : Nat} {D' : ZD} {e : Nat} (ha : a ≤ N) (hD : zDok D) (q : tCas B N D s a = .inr (D', e)) : zDok D' ∧ a < e ∧ e ≤ N := by
  unfold tCas at q
  split at q
  · obtain ⟨⟨c, a1⟩, q1, q⟩ := bnd_inr q
    obtain ⟨e', q3, q⟩ := bnd_inr q
    cases q
    obtain ⟨h1, h2, h3, h4, h5, h6, h7, h8, h9, h10, h11, h12, h13⟩ := hD
    obtain ⟨c1, c2, c3⟩ := tCel_ok h1.1 h2.1 ha q1
    have := tSgn_ok c3 q3
    exact ⟨⟨h1, h2, h3, h4, h5, h6, c1, h8, Nat.le_refl _, h10, h11, h12, h13⟩, by omega, this.2⟩
  · cases q
theorem tStm_ok {D : ZD} {a : Nat} {D' : ZD} {e : Nat} (ha : a ≤ N) (hD : zDok D) (q : tStm B N D a = .inr (D', e)) : zDok D' ∧ a < e ∧ e ≤ N := by
  have h1 := sk_le (B := B) ha
  have h2 := lt_le (B := B) h1.2
  have fin : (zDok D' ∧ lt B N (sk B N a) < e ∧ e ≤ N) → (zDok D' ∧ a < e ∧ e ≤ N) := fun h => ⟨h.1, by omega, h.2.2⟩
  unfold tStm at q
  split at q
  · cases q
  · split at q
    · exact fin (tRow_ok h2.2 hD q)
    · split at q
      · exact fin (tTide_ok h2.2 hD q)
      · split at q
        · exact fin (tMan_ok h2.2 hD q)
        · split at q
          · exact fin (tNews_ok h2.2 hD q)
          · split at q
            · exact fin (tCas_ok h2.2 hD q)
            · cases q
theorem tLand_ok {a : Nat} {D' : ZD} {e : Nat} (ha : a ≤ N) (q : tLand B N D0 a = .inr (D', e)) : zDok D' ∧ a < e ∧ e ≤ N := by
  have h1 := sk_le (B := B) ha
  have h2 := lt_le (B := B) h1.2
  unfold tLand at q
  split at q
  · obtain ⟨⟨w, a1⟩, q1, q⟩ := bnd_inr q
    obtain ⟨⟨g, a2⟩, q2, q⟩ := bnd_inr q
    obtain ⟨e', q3, q⟩ := bnd_inr q
    cases q
    obtain ⟨w1, w2, w3, w4⟩ := tNum_ok h2.2 q1
    obtain ⟨g1, g2, g3, g4⟩ := tNum_ok w4 q2
    have := tSgn_ok g4 q3
    have hwg : w * g ≤ 36 := by
      have hq : g ≤ 36 / w := by
        have g2' : g ≤ if 36 / w < 9 then 36 / w else 9 := g2
        split at g2' <;> omega
      calc w * g ≤ w * (36 / w) := Nat.mul_le_mul_left _ hq
        _ ≤ 36 := Nat.mul_div_le _ _
    have hg9 : g ≤ 9 := by
      have g2' : g ≤ if 36 / w < 9 then 36 / w else 9 := g2
      split at g2' <;> omega
    exact ⟨⟨⟨w1, w2⟩, ⟨g1, hg9⟩, hwg, Nat.zero_le _, Nat.zero_le _, Nat.zero_le _, Nat.mul_pos w1 g1, (by show 0 < 512; decide), Nat.zero_le _, fun _ => Nat.zero_le _, fun _ => Nat.zero_le _, fun m hm => absurd hm (by show ¬ m < 0; omega), fun m hm => absurd hm (by show ¬ m < 0; omega)⟩, by omega, this.2⟩
  · cases q
theorem tAll_ok : ∀ (k : Nat) (D : ZD) (a : Nat) (D' : ZD), a ≤ N → zDok D → tAll B N k D a = .inr D' → zDok D' := by
  intro k
  induction k with
  | zero =>
    intro D a D' ha hD q
    cases (show (Sum.inr D : ZE ⊕ ZD) = .inr D' from q)
    exact hD
  | succ k ih =>
    intro D a D' ha hD q
    have q' : (if sk B N a < N then bnd (tStm B N D a) (fun r => tAll B N k r.1 r.2) else .inr D) = .inr D' := q
    split at q'
    · obtain ⟨⟨D2, e⟩, q1, q2⟩ := bnd_inr q'
      obtain ⟨h1, h2, h3⟩ := tStm_ok ha hD q1
      exact ih D2 e D' h3 h1 q2
    · cases q'
      exact hD
theorem tRead_ok {D' : ZD} (q : tRead B N = .inr D') : D' = D0 ∨ zDok D' := by
  unfold tRead at q
  split at q
  · obtain ⟨⟨D2, e⟩, q1, q2⟩ := bnd_inr q
    obtain ⟨h1, h2, h3⟩ := tLand_ok (Nat.zero_le _) q1
    exact Or.inr (tAll_ok _ _ _ _ h3 h1 q2)
  · cases q
    exact Or.inl rfl
end TK
