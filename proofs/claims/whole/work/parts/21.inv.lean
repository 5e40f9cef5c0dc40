/-! ===== the province, what goes on in it, and how both sides hold it ===== -/
/-- (width, height, tides, men, news, castle), own depths, tides, places of news -/
abbrev ZL : Type := (Nat × Nat × Nat × Nat × Nat × Nat) × (Nat → Nat) × (Nat → Nat) × (Nat → Nat)
def zW (L : ZL) : Nat := L.1.1
def zG (L : ZL) : Nat := L.1.2.1
def zT (L : ZL) : Nat := L.1.2.2.1
def zM (L : ZL) : Nat := L.1.2.2.2.1
def zN (L : ZL) : Nat := L.1.2.2.2.2.1
def zC (L : ZL) : Nat := L.1.2.2.2.2.2
def zO (L : ZL) : Nat → Nat := L.2.1
def zD (L : ZL) : Nat → Nat := L.2.2.1
def zP (L : ZL) : Nat → Nat := L.2.2.2
/-- the number of cells -/
def zA (L : ZL) : Nat := zW L * zG L
def zLok (L : ZL) : Prop := zW L ≤ 9 ∧ zG L ≤ 9 ∧ zA L ≤ 36 ∧ (0 < zW L → 0 < zG L) ∧ (1 ≤ zT L ∧ zT L ≤ 6) ∧ zM L ≤ 4 ∧ zN L ≤ 4 ∧ (zW L = 0 → zC L = 0 ∧ zM L = 0 ∧ zN L = 0 ∧ zG L = 0) ∧ (0 < zW L → zC L < zA L) ∧ (∀ c, c < 36 → zO L c ≤ 9) ∧ (∀ t, t < zT L → zD L t ≤ 9) ∧ ∀ k, k < zN L → zP L k < zA L
/-- the depth of a cell at an hour, without stakes -/
def zWa (L : ZL) (c t : Nat) : Nat := zO L c + zD L (t % zT L) - 5
/-- bits of a long -/
def bt (x : Int64) (c : Nat) : Bool := x.toBitVec.getLsbD c
def zB (x : Int64) (p : Nat → Bool) : Prop := ∀ c, c < 64 → bt x c = p c
/-- what goes on: (hour, seed), stakes, and of each man his cell, stilts, what he knows, wet knees, order -/
abbrev ZS : Type := (Nat × Nat) × (Nat → Bool) × (Nat → Nat) × (Nat → Nat) × (Nat → Nat) × (Nat → Nat) × (Nat → Nat)
def zH (S : ZS) : Nat := S.1.1
def zSe (S : ZS) : Nat := S.1.2
def zSk (S : ZS) : Nat → Bool := S.2.1
def zCe (S : ZS) : Nat → Nat := S.2.2.1
def zSl (S : ZS) : Nat → Nat := S.2.2.2.1
def zKn (S : ZS) : Nat → Nat := S.2.2.2.2.1
def zWe (S : ZS) : Nat → Nat := S.2.2.2.2.2.1
def zOr (S : ZS) : Nat → Nat := S.2.2.2.2.2.2
def zSok (L : ZL) (S : ZS) (B : Nat) : Prop := zH S ≤ B ∧ zSe S < 2 ^ 31 ∧ (∀ c, zSk S c = true → c < zA L) ∧ ∀ m, m < zM L → zCe S m < zA L ∧ zSl S m ≤ 6 ∧ zKn S m < 2 ^ zN L ∧ zWe S m ≤ B ∧ zOr S m ≤ 4
/-- the class's land -/
def zCl (L : ZL) (h : HP) : Prop :=
  (h.1 3 0 = nI (zW L) ∧ h.1 3 1 = nI (zG L) ∧ h.1 3 2 = nI (zT L) ∧ h.1 3 3 = nI (zM L) ∧ h.1 3 4 = nI (zN L) ∧ h.1 3 5 = nI (zC L)) ∧
  (∀ c, c < 36 → h.1 4 c = nI (zO L c)) ∧ (∀ t, t < zT L → h.1 5 t = nI (zD L t)) ∧ (∀ k, k < zN L → h.1 8 k = nI (zP L k)) ∧
  zB (h.2 3 6) (fun c => decide (c < zA L)) ∧ zB (h.2 3 7) (fun c => decide (c < zA L) && decide (0 < c % zW L)) ∧ zB (h.2 3 8) (fun c => decide (c < zA L) && decide (c % zW L + 1 < zW L)) ∧
  ∀ l t, l < 8 → t < zT L → zB (h.2 9 (6 * l + t)) (fun c => decide (c < zA L) && decide (zWa L c t ≤ l))
/-- the model's land -/
def zMl (L : ZL) (h : HP) : Prop :=
  (h.1 52 0 = nI (zW L) ∧ h.1 52 1 = nI (zG L) ∧ h.1 52 4 = nI (zT L) ∧ h.1 52 5 = nI (zM L) ∧ h.1 52 6 = nI (zN L) ∧ h.1 52 8 = nI (zC L)) ∧
  (∀ c, c < 36 → h.1 53 c = nI (zO L c)) ∧ (∀ t, t < zT L → h.1 54 t = nI (zD L t)) ∧ ∀ k, k < zN L → h.1 55 k = nI (zP L k)
/-- the class's state at its cell b -/
def zCs (L : ZL) (S : ZS) (b : Nat) (h : HP) : Prop :=
  h.1 b 1 = nI (zH S) ∧ h.1 b 2 = nI (zSe S) ∧ zB (h.2 b 3) (zSk S) ∧ ∀ m, m < zM L → h.1 (b + 1) m = nI (zCe S m) ∧ h.1 (b + 2) m = nI (zSl S m) ∧ h.1 (b + 3) m = nI (zKn S m) ∧ h.1 (b + 4) m = nI (zWe S m) ∧ h.1 (b + 5) m = nI (zOr S m)
/-- the model's state in a row of 62 -/
def zMs (L : ZL) (S : ZS) (r : Nat → Int32) : Prop :=
  r 0 = nI (zH S) ∧ r 1 = nI (zSe S) ∧ (∀ c, c < 36 → r (26 + c) = if zSk S c = true then 1 else 0) ∧ ∀ m, m < zM L → r (2 + 6 * m) = nI (zCe S m % zW L) ∧ r (3 + 6 * m) = nI (zCe S m / zW L) ∧ r (4 + 6 * m) = nI (zSl S m) ∧ r (5 + 6 * m) = nI (zKn S m) ∧ r (6 + 6 * m) = nI (zWe S m) ∧ r (7 + 6 * m) = nI (zOr S m)
def zI1 (L : ZL) (B : Nat) (h : HP) (i b o : Nat) : Prop := (h.1 39 i = 0 ∧ h.1 58 i = 0) ∨ (h.1 39 i = 1 ∧ h.1 58 i = 1 ∧ ∃ S : ZS, zSok L S B ∧ zCs L S b h ∧ zMs L S (fun j => h.1 57 (o + j)))
def zIm (L : ZL) (B : Nat) (h : HP) : Prop := zI1 L B h 0 40 0 ∧ zI1 L B h 1 46 62
def zFt (L : ZL) (h : HP) : Prop :=
  h.1 30 2 = h.1 52 12 ∧ (h.1 30 2 = -1 ∨ ∃ c, c < zA L ∧ h.1 30 2 = nI c) ∧ ∃ k, k ≤ 20 ∧ h.1 30 3 = nI k ∧ h.1 52 14 = nI k ∧ ∀ i, i < k → ∃ c d, c < zA L ∧ d ≤ 40 ∧ h.1 31 i = nI c ∧ h.1 59 (2 * i) = nI c ∧ h.1 32 i = nI d ∧ h.1 59 (2 * i + 1) = nI d
def zBk (L : ZL) (h : HP) : Prop :=
  ∃ k, k ≤ 40 ∧ h.1 33 1 = nI k ∧ h.1 52 16 = nI k ∧ ∀ i, i < k → ∃ m d, m < zM L ∧ d ≤ 4 ∧ h.1 34 i = nI m ∧ h.1 60 (2 * i) = nI m ∧ h.1 35 i = nI d ∧ h.1 60 (2 * i + 1) = nI d
def zTx (h : HP) : Prop := ∃ k, k ≤ 500 ∧ h.1 1 1 = nI k ∧ h.1 52 18 = nI k ∧ ∀ i, i < k → ∃ t, t < 256 ∧ h.1 2 i &&& 255 = nI t ∧ h.1 61 i = nI t ∧ (h.1 2 i = 32 ↔ t = 32)
def zFa (h : HP) : Prop := h.1 10 3 = h.1 52 24 - 1
/-- the invariant behind j calls -/
def zInv (j : Nat) (h : HP) : Prop := ∃ (L : ZL) (S : ZS), zLok L ∧ zCl L h ∧ zMl L h ∧ zSok L S (99 * j) ∧ zCs L S 18 h ∧ zMs L S (h.1 56) ∧ zIm L (99 * j) h ∧ zFt L h ∧ zBk L h ∧ zTx h ∧ zFa h
theorem zSok.mono {L : ZL} {S : ZS} {B B' : Nat} (hB : B ≤ B') (h : zSok L S B) : zSok L S B' := by
  obtain ⟨h1, h2, h3, h4⟩ := h
  refine ⟨by omega, h2, h3, fun m hm => ?_⟩
  obtain ⟨a, b, c, d, e⟩ := h4 m hm
  exact ⟨a, b, c, by omega, e⟩
theorem zI1.mono {L : ZL} {B B' : Nat} {h : HP} {i b o : Nat} (hB : B ≤ B') (hi : zI1 L B h i b o) : zI1 L B' h i b o := by
  rcases hi with h1 | ⟨h1, h2, S, h3, h4⟩
  · exact Or.inl h1
  · exact Or.inr ⟨h1, h2, S, h3.mono hB, h4⟩
theorem zIm.mono {L : ZL} {B B' : Nat} {h : HP} (hB : B ≤ B') (hi : zIm L B h) : zIm L B' h := ⟨hi.1.mono hB, hi.2.mono hB⟩
theorem zInv_mono (j : Nat) (h : HP) (hI : zInv j h) : zInv (j + 1) h := by
  obtain ⟨L, S, a1, a2, a3, a4, a5, a6, a7, a8⟩ := hI
  exact ⟨L, S, a1, a2, a3, a4.mono (by omega), a5, a6, a7.mono (by omega), a8⟩
theorem bt0 (c : Nat) : bt 0 c = false := by
  show (0 : Int64).toBitVec.getLsbD c = false
  simp
theorem zInv_0 : zInv 0 h0 := by
  refine ⟨((0, 0, 1, 0, 0, 0), fun _ => 0, fun _ => 5, fun _ => 0), ((0, 0), fun _ => false, fun _ => 0, fun _ => 0, fun _ => 0, fun _ => 0, fun _ => 0), ?_, ?_, ?_, ?_, ?_, ?_, ?_, ?_, ?_, ?_, ?_⟩
  · refine ⟨by decide, by decide, by decide, by decide, by decide, by decide, by decide, by decide, by decide, fun _ _ => by simp [zO], fun _ _ => by simp [zD], fun k hk => absurd hk (by simp [zN])⟩
  · refine ⟨⟨rfl, rfl, rfl, rfl, rfl, rfl⟩, fun _ _ => rfl, fun t ht => ?_, fun k hk => absurd hk (by simp [zN]), ?_, ?_, ?_, ?_⟩
    · have : t = 0 := by simp [zT] at ht; omega
      subst this; rfl
    · intro c _; exact bt0 c
    · intro c _; exact bt0 c
    · intro c _; exact bt0 c
    · intro l t _ _ c _; exact bt0 c
  · refine ⟨⟨rfl, rfl, rfl, rfl, rfl, rfl⟩, fun _ _ => rfl, fun t ht => ?_, fun k hk => absurd hk (by simp [zN])⟩
    have : t = 0 := by simp [zT] at ht; omega
    subst this; rfl
  · exact ⟨by decide, by decide, fun c hc => absurd hc (by simp [zSk]), fun m hm => absurd hm (by simp [zM])⟩
  · exact ⟨rfl, rfl, fun c _ => bt0 c, fun m hm => absurd hm (by simp [zM])⟩
  · exact ⟨rfl, rfl, fun c _ => rfl, fun m hm => absurd hm (by simp [zM])⟩
  · exact ⟨Or.inl ⟨rfl, rfl⟩, Or.inl ⟨rfl, rfl⟩⟩
  · exact ⟨rfl, Or.inl rfl, 0, by decide, rfl, rfl, fun i hi => absurd hi (by omega)⟩
  · exact ⟨0, by decide, rfl, rfl, fun i hi => absurd hi (by omega)⟩
  · exact ⟨0, by decide, rfl, rfl, fun i hi => absurd hi (by omega)⟩
  · show (-1 : Int32) = 0 - 1
    decide
/-- two contracts that fit -/
theorem z_pair {E : jEnv} {n : Nat} {Inv : Nat → HP → Prop} {mC mM : jM} {avs : List Value} {j : Nat} {h h' h'' : HP} {a a2 : Int32} (c1 : jC E mC n (.ref 0 :: avs) h (fun v h2 => v = some (.int a) ∧ h2 = h')) (c2 : jC E mM n (.ref 52 :: avs) h' (fun v h2 => v = some (.int a2) ∧ h2 = h'')) (ha : a = a2) (hI : Inv (j + 1) h'') :
    jCall E mC n (.ref 0 :: avs) h (fun v h2 => ∃ r : Int32, v = some (.int r) ∧ jCall E mM n (.ref 52 :: avs) h2 (fun v2 h3 => v2 = some (.int r) ∧ Inv (j + 1) h3)) :=
  ⟨_, c1, fun v h2 hp => ⟨a, hp.1, by rw [hp.2]; exact ⟨_, c2, fun v2 h3 hp2 => ⟨by rw [hp2.1, ha], by rw [hp2.2]; exact hI⟩⟩⟩⟩
