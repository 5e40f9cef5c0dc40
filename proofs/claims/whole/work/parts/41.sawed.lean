/-! ===== sawed: codes of cuts, what longer stilts do, the class's search ===== -/
def sLf (S : ZS) (f : Nat → Nat) : ZS := (S.1, S.2.1, S.2.2.1, f, S.2.2.2.2)
theorem zSt_mono {L : ZL} (hL : zLok L) {K : Nat → Bool} {l l2 t : Nat} {p p2 : Nat → Bool} (hp : zSup L p) (hp2 : zSup L p2) (hl : l ≤ l2) (h : ∀ c, p c = true → p2 c = true) {d : Nat} (q : zSt L K l t p d = true) : zSt L K l2 t p2 d = true := by
  have hA := hL.2.2.1
  have hd : d < 64 := by have := zSt_sup L K l t p d q; omega
  rw [zSt_iff hL hp hd] at q
  rw [zSt_iff hL hp2 hd]
  rcases q with q | ⟨c, w, w1, w4, q1, q2⟩
  · exact Or.inl (h d q)
  · refine Or.inr ⟨c, w, w1, w4, h c q1, ?_⟩
    unfold zWl at q2 ⊢
    rw [if_neg (by omega)] at q2 ⊢
    by_cases e : zLd (zW L) (zA L) c w = 99
    · rw [if_pos e] at q2; omega
    · rw [if_neg e] at q2 ⊢
      by_cases e2 : zDe L K (zLd (zW L) (zA L) c w) t ≤ l
      · rw [if_pos e2] at q2
        rw [if_pos (by omega)]; exact q2
      · rw [if_neg e2] at q2; omega
theorem zSh_lf {L : ZL} {S : ZS} (hS : zSh L S) {f : Nat → Nat} (hf : ∀ m, m < zM L → f m ≤ 7) : zSh L (sLf S f) :=
  ⟨hS.1, hS.2.1, fun m hm => ⟨(hS.2.2 m hm).1, hf m hm, (hS.2.2 m hm).2.2⟩⟩
section MO
variable {L : ZL} {S : ZS} {f f2 : Nat → Nat} {k : Nat}
theorem zRe_mono (hL : zLok L) (hS : zSh L (sLf S f)) (hS2 : zSh L (sLf S f2)) {m : Nat} (hm : m < zM L) (hf : f m ≤ f2 m) : ∀ n c, zRe L (sLf S f) m n c = true → zRe L (sLf S f2) m n c = true
  | 0, c, h => h
  | n + 1, c, h => zSt_mono hL (zRe_sup hS hm n) (zRe_sup hS2 hm n) hf (zRe_mono hL hS hS2 hm hf n) h
theorem zMt_mono {A A2 W W2 : Nat → Nat → Bool} (hA : ∀ m, m < zM L → ∀ c, A m c = true → A2 m c = true) (hW : ∀ m, m < zM L → ∀ c, W m c = true → W2 m c = true) {m : Nat} (hm : m < zM L) {c : Nat} (h : zMt L k A W m c = true) : zMt L k A2 W2 m c = true := by
  unfold zMt at h ⊢
  simp only [Bool.or_eq_true, Bool.and_eq_true, zAny_iff] at h ⊢
  rcases h with h | ⟨h1, h2 | ⟨i, hi, h2⟩⟩
  · exact Or.inl (hW m hm c h)
  · exact Or.inr ⟨hA m hm c h1, Or.inl h2⟩
  · exact Or.inr ⟨hA m hm c h1, Or.inr ⟨i, hi, hW i hi c h2⟩⟩
theorem zWi_mono (hL : zLok L) (hS : zSh L (sLf S f)) (hS2 : zSh L (sLf S f2)) (hf : ∀ m, m < zM L → f m ≤ f2 m) : ∀ n m, m < zM L → ∀ c, zWi L (sLf S f) k n m c = true → zWi L (sLf S f2) k n m c = true
  | 0, m, hm, c, h => zMt_mono (fun i hi c q => zRe_mono hL hS hS2 hi (hf i hi) 0 c q) (fun i hi c q => q) hm h
  | n + 1, m, hm, c, h => zMt_mono (fun i hi c q => zRe_mono hL hS hS2 hi (hf i hi) (n + 1) c q) (fun i hi c q => zSt_mono hL (zWi_sup hS hi n) (zWi_sup hS2 hi n) (hf i hi) (zWi_mono hL hS hS2 hf n i hi) q) hm h
end MO
/-- the news is not first within lim hours with these stilts -/
def zOk (L : ZL) (S : ZS) (k lim : Nat) (f : Nat → Nat) : Bool := !zAny (zGo L (sLf S f) k) (lim + 1)
theorem zOk_mono {L : ZL} (hL : zLok L) {S : ZS} (hS : zSh L S) {k lim : Nat} {f f2 : Nat → Nat} (hf : ∀ m, m < zM L → f m ≤ f2 m) (h7 : ∀ m, m < zM L → f2 m ≤ 7) (h : zOk L S k lim f = false) : zOk L S k lim f2 = false := by
  have s1 : zSh L (sLf S f) := zSh_lf hS (fun m hm => by have := hf m hm; have := h7 m hm; omega)
  have s2 : zSh L (sLf S f2) := zSh_lf hS h7
  unfold zOk at h ⊢
  rw [Bool.not_eq_false'] at h ⊢
  obtain ⟨i, hi, q⟩ := zAny_iff.mp h
  obtain ⟨m, hm, q⟩ := zAny_iff.mp q
  exact zAny_iff.mpr ⟨i, hi, zAny_iff.mpr ⟨m, hm, zWi_mono hL s1 s2 hf i m hm _ q⟩⟩
theorem zOk_congr {L : ZL} (hL : zLok L) {S : ZS} (hS : zSh L S) {k lim : Nat} {f f2 : Nat → Nat} (hf : ∀ m, m < zM L → f m = f2 m) (h7 : ∀ m, m < zM L → f2 m ≤ 7) : zOk L S k lim f = zOk L S k lim f2 := by
  cases q : zOk L S k lim f2
  · exact zOk_mono hL hS (fun m hm => by rw [hf m hm]; exact Nat.le_refl _) (fun m hm => by rw [hf m hm]; exact h7 m hm) q
  · cases q2 : zOk L S k lim f
    · rw [zOk_mono hL hS (fun m hm => by rw [hf m hm]; exact Nat.le_refl _) h7 q2] at q; cases q
    · rfl
theorem zOk_fi {L : ZL} {S : ZS} {k lim : Nat} (hlim : lim ≤ 40) {f : Nat → Nat} : zFi (zGo L (sLf S f) k) (lim + 1) 0 = -1 ↔ zOk L S k lim f = true := by
  rw [zFi_m1 (by omega)]
  unfold zOk
  rw [Bool.not_eq_true']
/-! codes -/
def zSu (f : Nat → Nat) : Nat → Nat
  | 0 => 0
  | n + 1 => zSu f n + f n
theorem zSu_congr {f g : Nat → Nat} : ∀ {n : Nat}, (∀ i, i < n → f i = g i) → zSu f n = zSu g n
  | 0, _ => rfl
  | n + 1, h => by
    show zSu f n + f n = zSu g n + g n
    rw [zSu_congr (fun i hi => h i (by omega)), h n (by omega)]
theorem zSu_mono (f : Nat → Nat) : ∀ (n k : Nat), zSu f n ≤ zSu f (n + k)
  | n, 0 => Nat.le_refl _
  | n, k + 1 => by
    have := zSu_mono f n k
    show zSu f n ≤ zSu f (n + k) + f (n + k)
    omega
theorem zSu_bnd {f : Nat → Nat} {b : Nat} : ∀ {n : Nat}, (∀ i, i < n → f i ≤ b) → zSu f n ≤ n * b
  | 0, _ => Nat.zero_le _
  | n + 1, h => by
    have := zSu_bnd (f := f) (b := b) (n := n) (fun i hi => h i (by omega))
    have := h n (by omega)
    show zSu f n + f n ≤ (n + 1) * b
    rw [Nat.succ_mul]
    omega
def sp (M : Nat) (g : Nat → Nat) : Nat → Nat
  | 0 => 1
  | q + 1 => (g (M - 1 - q) + 1) * sp M g q
theorem sp_pos (M : Nat) (g : Nat → Nat) : ∀ q, 0 < sp M g q
  | 0 => Nat.one_pos
  | q + 1 => Nat.mul_pos (Nat.succ_pos _) (sp_pos M g q)
def dg (M : Nat) (g : Nat → Nat) (m c : Nat) : Nat := c / sp M g (M - 1 - m) % (g m + 1)
theorem dg_le (M : Nat) (g : Nat → Nat) (m c : Nat) : dg M g m c ≤ g m := by
  have := Nat.mod_lt (c / sp M g (M - 1 - m)) (show 0 < g m + 1 by omega)
  unfold dg
  omega
def smc (M : Nat) (g : Nat → Nat) (c : Nat) : Nat := zSu (fun m => dg M g m c) M
def lnc (M : Nat) (g : Nat → Nat) (c : Nat) : Nat → Nat := fun m => g m - dg M g m c
theorem dg_at {M : Nat} {g : Nat → Nat} {m q B j : Nat} (hm : m + (q + 1) = M) (hj : j < sp M g (q + 1)) : dg M g m (B * sp M g (q + 1) + j) = j / sp M g q := by
  have e1 : M - 1 - m = q := by omega
  have e2 : M - 1 - q = m := by omega
  have hs := sp_pos M g q
  have es : sp M g (q + 1) = (g m + 1) * sp M g q := by
    show (g (M - 1 - q) + 1) * sp M g q = _
    rw [e2]
  unfold dg
  rw [e1, es, ← Nat.mul_assoc, Nat.add_comm, Nat.add_mul_div_right _ _ hs]
  rw [es] at hj
  have hlt : j / sp M g q < g m + 1 := Nat.div_lt_of_lt_mul (by rw [Nat.mul_comm]; exact hj)
  rw [Nat.add_mul_mod_self_right, Nat.mod_eq_of_lt hlt]
def zStp (ok : Nat → Bool) (s : Nat → Nat) (c : Nat) : Option Nat → Option Nat
  | none => if ok c = true then some c else none
  | some d => if s c < s d ∧ ok c = true then some c else some d
theorem zStp_no {ok : Nat → Bool} {s : Nat → Nat} {c : Nat} {b : Option Nat} (h : ok c = false) : zStp ok s c b = b := by
  cases b with
  | none => exact if_neg (by rw [h]; decide)
  | some d => exact if_neg (fun q => by rw [h] at q; cases q.2)
theorem zStp_ge {ok : Nat → Bool} {s : Nat → Nat} {c d : Nat} (h : s d ≤ s c) : zStp ok s c (some d) = some d := if_neg (fun q => by omega)
def zFo (ok : Nat → Bool) (s : Nat → Nat) : Nat → Nat → Option Nat → Option Nat
  | 0, _, b => b
  | n + 1, a, b => zFo ok s n (a + 1) (zStp ok s a b)
theorem zFo_add (ok : Nat → Bool) (s : Nat → Nat) : ∀ (n1 n2 a : Nat) (b : Option Nat), zFo ok s (n1 + n2) a b = zFo ok s n2 (a + n1) (zFo ok s n1 a b)
  | 0, n2, a, b => by rw [Nat.zero_add]; rfl
  | n1 + 1, n2, a, b => by
    rw [show n1 + 1 + n2 = n1 + n2 + 1 by omega]
    show zFo ok s (n1 + n2) (a + 1) (zStp ok s a b) = zFo ok s n2 (a + (n1 + 1)) (zFo ok s n1 (a + 1) (zStp ok s a b))
    rw [zFo_add ok s n1 n2 (a + 1), show a + 1 + n1 = a + (n1 + 1) by omega]
theorem zFo_id {ok : Nat → Bool} {s : Nat → Nat} {b : Option Nat} : ∀ (n a : Nat), (∀ i, i < n → zStp ok s (a + i) b = b) → zFo ok s n a b = b
  | 0, _, _ => rfl
  | n + 1, a, h => by
    show zFo ok s n (a + 1) (zStp ok s a b) = b
    have h0 := h 0 (by omega)
    rw [Nat.add_zero] at h0
    rw [h0]
    exact zFo_id n (a + 1) (fun i hi => by rw [show a + 1 + i = a + (i + 1) by omega]; exact h (i + 1) (by omega))
/-! the class's search -/
def zBq (L : ZL) (S : ZS) (h : HP) : Option Nat → Prop
  | none => h.1 24 8 = -1
  | some c => h.1 24 8 = nI (smc (zM L) (zSl S) c) ∧ ∀ m, m < zM L → h.1 29 m = nI (dg (zM L) (zSl S) m c)
def lnx (S : ZS) (m : Nat) (x : Nat → Nat) : Nat → Nat := fun i => if i < m then zSl S i - x i else 0
def zNo (L : ZL) (S : ZS) (h0 : HP) (m : Nat) (x : Nat → Nat) (h : HP) : Prop :=
  zFr [24, 25, 26, 27, 28, 29] h0 h ∧ zB (h.2 24 3) (zSk S) ∧ (∀ i, i < zM L → h.1 25 i = nI (lnx S m x i)) ∧ ∀ i, i < m → h.1 28 i = nI (x i)
/-- the same while the length of man m is not known -/
def zNp (L : ZL) (S : ZS) (h0 : HP) (m : Nat) (x : Nat → Nat) (h : HP) : Prop :=
  zFr [24, 25, 26, 27, 28, 29] h0 h ∧ zB (h.2 24 3) (zSk S) ∧ (∀ i, i < zM L → i ≠ m → h.1 25 i = nI (lnx S m x i)) ∧ ∀ i, i < m → h.1 28 i = nI (x i)
theorem zNo_p {L : ZL} {S : ZS} {h0 : HP} {m : Nat} {x : Nat → Nat} {h : HP} (q : zNo L S h0 m x h) : zNp L S h0 m x h := ⟨q.1, q.2.1, fun i hi _ => q.2.2.1 i hi, q.2.2.2⟩
theorem zNp_o {L : ZL} {S : ZS} {h0 : HP} {m : Nat} {x : Nat → Nat} {h : HP} (q : zNp L S h0 m x h) : zNo L S h0 m x (jPI h 25 m 0) := by
  refine ⟨q.1.trans (zFr_I (by decide)), q.2.1, fun i hi => ?_, q.2.2.2⟩
  show upd (h.1 25) m 0 i = _
  by_cases e : i = m
  · rw [e, upd_eq]; unfold lnx; rw [if_neg (by omega)]; rfl
  · rw [upd_ne e]; exact q.2.2.1 i hi e
theorem zNo_dn {L : ZL} {S : ZS} {h0 : HP} {m c : Nat} {x : Nat → Nat} {h : HP} (q : zNo L S h0 (m + 1) (up1 m c x) h) : zNp L S h0 m x h := by
  refine ⟨q.1, q.2.1, fun i hi hne => ?_, fun i hi => ?_⟩
  · rw [q.2.2.1 i hi]
    unfold lnx up1
    by_cases e : i < m
    · rw [if_pos e, if_pos (by omega), if_neg hne]
    · rw [if_neg e, if_neg (by omega)]
  · rw [q.2.2.2 i (by omega)]
    unfold up1
    rw [if_neg (by omega)]
theorem zNp_up {L : ZL} {S : ZS} {h0 : HP} {m c : Nat} {x : Nat → Nat} {h : HP} (q : zNp L S h0 m x h) : zNo L S h0 (m + 1) (up1 m c x) (jPI (jPI h 28 m (nI c)) 25 m (nI (zSl S m - c))) := by
  refine ⟨q.1.trans ((zFr_I (by decide)).trans (zFr_I (by decide))), q.2.1, fun i hi => ?_, fun i hi => ?_⟩
  · show upd (h.1 25) m (nI (zSl S m - c)) i = _
    unfold lnx up1
    by_cases e : i = m
    · rw [e, upd_eq, if_pos (by omega), if_pos rfl]
    · rw [upd_ne e, q.2.2.1 i hi e]
      unfold lnx
      by_cases e2 : i < m
      · rw [if_pos e2, if_pos (by omega), if_neg e]
      · rw [if_neg e2, if_neg (by omega)]
  · show upd (h.1 28) m (nI c) i = _
    unfold up1
    by_cases e : i = m
    · rw [e, upd_eq, if_pos rfl]
    · rw [upd_ne e, if_neg e]; exact q.2.2.2 i (by omega)
theorem zNo_fr {L : ZL} {S : ZS} {h0 : HP} {m : Nat} {x : Nat → Nat} {h h2 : HP} (hf : zFr [26, 27] h h2) (q : zNo L S h0 m x h) : zNo L S h0 m x h2 :=
  ⟨q.1.trans (hf.sub (by decide)), by rw [(hf 24 (by decide)).2]; exact q.2.1, fun i hi => by rw [(hf 25 (by decide)).1]; exact q.2.2.1 i hi, fun i hi => by rw [(hf 28 (by decide)).1]; exact q.2.2.2 i hi⟩
theorem zBq_fr {L : ZL} {S : ZS} {b : Option Nat} {l : List Nat} {h h2 : HP} (hf : zFr l h h2) (hl : 24 ∉ l ∧ 29 ∉ l) (q : zBq L S h b) : zBq L S h2 b := by
  cases b with
  | none =>
    show h2.1 24 8 = -1
    rw [(hf 24 hl.1).1]; exact q
  | some c =>
    show h2.1 24 8 = _ ∧ _
    rw [(hf 24 hl.1).1, (hf 29 hl.2).1]
    exact q
theorem zNo_ol {L : ZL} {S : ZS} {h0 : HP} (hs : zCs L S 18 h0) {m : Nat} {x : Nat → Nat} {h : HP} (q : zNo L S h0 m x h) : zOl L (sLf S (lnx S m x)) h := by
  refine ⟨by rw [(q.1 18 (by decide)).1]; exact hs.1, q.2.1, fun i hi => ?_⟩
  obtain ⟨a, _, c, _, _⟩ := hs.2.2.2 i hi
  exact ⟨by rw [(q.1 19 (by decide)).1]; exact a, by rw [(q.1 21 (by decide)).1]; exact c, q.2.2.1 i hi⟩
section TC
variable {E : jEnv} {X : State → Prop} {L : ZL} {S : ZS} {k lim : Nat}
theorem c_OltryCuts (hL : zLok L) (hS : zSh L S) (h6 : ∀ m, m < zM L → zSl S m ≤ 6) (hk : k < zN L) (hlim : lim ≤ 20) {h0 : HP} (hCl : zCl L h0) (hs : zCs L S 18 h0) : ∀ (q N m base spent : Nat) (x : Nat → Nat) (b : Option Nat) (h : HP), q + 3 ≤ N → m + q = zM L → (∀ i, i < m → x i ≤ zSl S i) → (∀ i, i < sp (zM L) (zSl S) q → ∀ j, j < m → dg (zM L) (zSl S) j (base + i) = x j) → (∃ B, base = B * sp (zM L) (zSl S) q) → spent = zSu x m → zNo L S h0 m x h → zBq L S h b → (b = none ∨ ∃ d, b = some d ∧ spent < smc (zM L) (zSl S) d) → zOk L S k lim (lnx S m x) = true → jC E mX4_tryCuts N [.ref 24, .int (nI k), .int (nI lim), .int (nI m), .int (nI spent)] h (fun v h2 => v = none ∧ zNo L S h0 m x h2 ∧ zBq L S h2 (zFo (fun c => zOk L S k lim (lnc (zM L) (zSl S) c)) (smc (zM L) (zSl S)) (sp (zM L) (zSl S) q) base b)) := by
  have hM : zM L ≤ 4 := hL.2.2.2.2.2.1
  intro q
  induction q with
  | zero =>
    intro N m base spent x b h hN hm hx hpre hB hsp hno hb pre1 pre2
    obtain rfl : m = zM L := by omega
    obtain ⟨N', rfl⟩ : ∃ N', N = N' + 1 := ⟨N - 1, by omega⟩
    have e3 : h.1 3 3 = nI (zM L) := by rw [(hno.1 3 (by decide)).1]; exact hCl.1.2.2.2.1
    have hle : h.1 3 3 ≤ nI (zM L) := by rw [e3]; exact Int32.le_refl _
    have hp0 : ∀ j, j < zM L → dg (zM L) (zSl S) j base = x j := fun j hj => by
      have := hpre 0 (sp_pos _ _ _) j hj
      rwa [Nat.add_zero] at this
    refine jC.of (lv := [some (.ref 24), some (.int (nI k)), some (.int (nI lim)), some (.int (nI (zM L))), some (.int (nI spent)), none]) (by decide) (Nat.le_of_ble_eq_true rfl) ⟨rfl, rfl, rfl, rfl, rfl, trivial⟩ (q_OltryCuts_0 _ _ _ _ h (fun _ => ?_) (fun c => absurd hle c) (fun c => absurd hle c))
    have hsum : smc (zM L) (zSl S) base = spent := by
      rw [hsp]
      exact zSu_congr hp0
    have hok : zOk L S k lim (lnc (zM L) (zSl S) base) = true := by
      rw [← pre2]
      refine zOk_congr hL hS (fun i hi => ?_) (fun i hi => ?_)
      · unfold lnc lnx
        rw [if_pos hi, hp0 i hi]
      · unfold lnx
        have := h6 i hi
        split <;> omega
    have hfo : zFo (fun c => zOk L S k lim (lnc (zM L) (zSl S) c)) (smc (zM L) (zSl S)) (sp (zM L) (zSl S) 0) base b = some base := by
      have e1 : ∀ ok s, zFo ok s 1 base b = zStp ok s base b := fun _ _ => rfl
      rw [show sp (zM L) (zSl S) 0 = 1 from rfl, e1]
      rcases pre1 with e | ⟨d, e, hd⟩
      · rw [e]; exact if_pos hok
      · rw [e]; exact if_pos ⟨by rw [hsum]; exact hd, hok⟩
    rw [hfo]
    refine ⟨rfl, ⟨hno.1.trans ((zFr_I (by decide)).trans (zFr_A (by decide))), hno.2.1, hno.2.2.1, hno.2.2.2⟩, ?_, fun i hi => ?_⟩
    · rw [hsum]; rfl
    · show va_cpy (h.1 28) (h.1 29) _ _ _ i = _
      rw [z_cp4 (by omega), hno.2.2.2 i hi, hp0 i hi]
  | succ q ih =>
    intro N m base spent x b h hN hm hx hpre hB hsp hno hb pre1 pre2
    obtain ⟨N', rfl⟩ : ∃ N', N = N' + 3 := ⟨N - 3, by omega⟩
    have hmM : m < zM L := by omega
    have hg6 := h6 m hmM
    have hs24 : spent ≤ 24 := by
      rw [hsp]
      have := zSu_bnd (f := x) (b := 6) (n := m) (fun i hi => by have := hx i hi; have := h6 i (by omega); omega)
      omega
    have spE : sp (zM L) (zSl S) (q + 1) = (zSl S m + 1) * sp (zM L) (zSl S) q := by
      show (zSl S (zM L - 1 - q) + 1) * sp (zM L) (zSl S) q = _
      rw [show zM L - 1 - q = m by omega]
    have hsq := sp_pos (zM L) (zSl S) q
    have e3 : h.1 3 3 = nI (zM L) := by rw [(hno.1 3 (by decide)).1]; exact hCl.1.2.2.2.1
    have hlt : ¬ h.1 3 3 ≤ nI m := by rw [e3]; exact nI_ge (by omega) (by omega)
    have hm4 : nI m < 4 := by rw [show (4 : Int32) = nI 4 from rfl]; exact nI_lt (by omega) (by omega)
    have hv : vp_in (nI m) 4 := z_vp (by omega) (by omega)
    have hcm : (nI m).toNatClampNeg = m := nI_clamp (by omega)
    obtain ⟨B, hB⟩ := hB
    -- what codes of the block say
    have blk : ∀ j, j < sp (zM L) (zSl S) (q + 1) → dg (zM L) (zSl S) m (base + j) = j / sp (zM L) (zSl S) q := fun j hj => by
      rw [hB]; exact dg_at (by omega) hj
    refine jC.of (lv := [some (.ref 24), some (.int (nI k)), some (.int (nI lim)), some (.int (nI m)), some (.int (nI spent)), none]) (by decide) (Nat.le_of_ble_eq_true rfl) ⟨rfl, rfl, rfl, rfl, rfl, trivial⟩ (q_OltryCuts_0 _ _ _ _ h (fun c => absurd c hlt) (fun _ _ => ?_) (fun _ c => absurd hm4 c))
    have loop : ∀ (r c : Nat) (b' : Option Nat) (h' : HP), c + r = zSl S m + 1 → zNp L S h0 m x h' → zBq L S h' b' → b' = zFo (fun c => zOk L S k lim (lnc (zM L) (zSl S) c)) (smc (zM L) (zSl S)) (c * sp (zM L) (zSl S) q) base b → jG E mX4_tryCuts (N' + 3) (fun _ => True) (fun v h2 => v = none ∧ zNo L S h0 m x h2 ∧ zBq L S h2 (zFo (fun c => zOk L S k lim (lnc (zM L) (zSl S) c)) (smc (zM L) (zSl S)) (sp (zM L) (zSl S) (q + 1)) base b)) 40 [some (.ref 24), some (.int (nI k)), some (.int (nI lim)), some (.int (nI m)), some (.int (nI spent)), some (.int (nI c))] [] h' := by
      intro r
      induction r with
      | zero =>
        intro c b' h' hc hn' hb' eb
        obtain rfl : c = zSl S m + 1 := by omega
        have e20 : h'.1 20 m = nI (zSl S m) := by rw [(hn'.1 20 (by decide)).1]; exact (hs.2.2.2 m hmM).2.1
        have hlt' : h'.1 20 (nI m).toNatClampNeg < nI (zSl S m + 1) := by rw [hcm, e20]; exact nI_lt (by omega) (by omega)
        refine q_OltryCuts_40 _ _ _ _ _ h' hv (fun _ => hv) (fun _ => ?_) (fun c => absurd hlt' c) (fun c => absurd hlt' c) (fun c => absurd hlt' c) (fun c => absurd hlt' c) (fun c => absurd hlt' c) (fun c => absurd hlt' c) (fun c => absurd hlt' c) (fun c => absurd hlt' c) (fun c => absurd hlt' c) (fun c => absurd hlt' c)
        rw [hcm]
        refine ⟨rfl, zNp_o hn', ?_⟩
        rw [spE, ← eb]
        exact zBq_fr (l := [25]) (zFr_I (by decide)) (by decide) hb'
      | succ r ihr =>
        intro c b' h' hc hn' hb' eb
        have e20 : h'.1 20 m = nI (zSl S m) := by rw [(hn'.1 20 (by decide)).1]; exact (hs.2.2.2 m hmM).2.1
        have hnl : ¬ h'.1 20 (nI m).toNatClampNeg < nI c := by rw [hcm, e20]; exact nI_nlt (by omega) (by omega)
        have hcs : c * sp (zM L) (zSl S) q + sp (zM L) (zSl S) q ≤ sp (zM L) (zSl S) (q + 1) := by
          rw [spE, ← Nat.succ_mul]
          exact Nat.mul_le_mul_right _ (by omega)
        have next : ∀ b2 : Option Nat, b2 = zFo (fun c => zOk L S k lim (lnc (zM L) (zSl S) c)) (smc (zM L) (zSl S)) (sp (zM L) (zSl S) q) (base + c * sp (zM L) (zSl S) q) b' → b2 = zFo (fun c => zOk L S k lim (lnc (zM L) (zSl S) c)) (smc (zM L) (zSl S)) ((c + 1) * sp (zM L) (zSl S) q) base b := fun b2 e => by
          rw [e, eb, ← zFo_add, Nat.succ_mul]
        have dsub : ∀ i, i < sp (zM L) (zSl S) q → ∀ j, j < m + 1 → dg (zM L) (zSl S) j (base + c * sp (zM L) (zSl S) q + i) = up1 m c x j := fun i hi j hj => by
          unfold up1
          rw [Nat.add_assoc]
          by_cases e : j = m
          · rw [if_pos e, e, blk _ (by omega), Nat.add_comm, Nat.add_mul_div_right _ _ hsq, Nat.div_eq_of_lt hi, Nat.zero_add]
          · rw [if_neg e]
            exact hpre _ (by omega) j (by omega)
        have go : (b' = none ∨ ∃ d, b' = some d ∧ spent + c < smc (zM L) (zSl S) d) → jCall E mX4_hoursToCastle (N' + 2) [.ref 24, .int (nI k), .int (nI lim)] (jPI (jPI h' 28 (nI m).toNatClampNeg (nI c)) 25 (nI m).toNatClampNeg ((h'.1 20 (nI m).toNatClampNeg) - nI c)) (fun v h2 => jG E mX4_tryCuts (N' + 3) (fun _ => True) (fun v h2 => v = none ∧ zNo L S h0 m x h2 ∧ zBq L S h2 (zFo (fun c => zOk L S k lim (lnc (zM L) (zSl S) c)) (smc (zM L) (zSl S)) (sp (zM L) (zSl S) (q + 1)) base b)) 109 [some (.ref 24), some (.int (nI k)), some (.int (nI lim)), some (.int (nI m)), some (.int (nI spent)), some (.int (nI c))] (v.toList ++ []) h2) := fun hb1 => by
          rw [hcm, e20, pk_sub (show c ≤ zSl S m by omega)]
          have hno1 := zNp_up (c := c) hn'
          have hfx : ∀ i, i < zM L → lnx S (m + 1) (up1 m c x) i ≤ 7 := fun i hi => by
            unfold lnx
            have := h6 i hi
            split <;> omega
          refine ⟨_, c_OlhoursToCastle hL (zSh_lf hS hfx) hk (show lim ≤ 40 by omega) _ (zCl_fr hno1.1 (by decide) hCl) (zNo_ol hs hno1), fun v h2 hp => ?_⟩
          obtain ⟨ev, hf2, _⟩ := hp
          rw [ev]
          have hno2 := zNo_fr hf2 hno1
          have hb2 : zBq L S h2 b' := zBq_fr hf2 (by decide) (zBq_fr (l := [28, 25]) ((zFr_I (by decide)).trans (zFr_I (by decide))) (by decide) hb')
          refine q_OltryCuts_109 _ _ _ _ _ _ h2 (fun w => ?_) (fun w => ?_)
          · have hok := (zOk_fi (show lim ≤ 40 by omega)).mp w
            rw [nI_1, nI_add]
            refine ⟨_, ih (N' + 2) (m + 1) (base + c * sp (zM L) (zSl S) q) (spent + c) (up1 m c x) b' h2 (by omega) (by omega) (fun i hi => ?_) dsub ⟨B * (zSl S m + 1) + c, by rw [hB, spE, Nat.add_mul (B * (zSl S m + 1)) c, Nat.mul_assoc]⟩ ?_ hno2 hb2 hb1 hok, fun v3 h3 hp3 => ?_⟩
            · unfold up1
              by_cases e : i = m
              · rw [if_pos e, e]; omega
              · rw [if_neg e]; exact hx i (by omega)
            · show spent + c = zSu (up1 m c x) m + up1 m c x m
              have e1 : up1 m c x m = c := if_pos rfl
              have e2 : zSu (up1 m c x) m = zSu x m := zSu_congr (fun i hi => if_neg (by omega))
              rw [e1, e2, hsp]
            · obtain ⟨ev3, hno3, hb3⟩ := hp3
              rw [ev3]
              refine q_OltryCuts_127 _ _ _ _ _ h3 ?_
              rw [nI_1]
              exact ihr (c + 1) _ h3 (by omega) (zNo_dn hno3) hb3 (next _ rfl)
          · have hnok : zOk L S k lim (lnx S (m + 1) (up1 m c x)) = false := by
              cases e : zOk L S k lim (lnx S (m + 1) (up1 m c x))
              · rfl
              · exact absurd ((zOk_fi (show lim ≤ 40 by omega)).mpr e) w
            rw [nI_1]
            refine ihr (c + 1) b' h2 (by omega) (zNo_dn hno2) hb2 (next _ ?_)
            refine (zFo_id _ _ (fun i hi => zStp_no ?_)).symm
            refine zOk_mono hL hS (fun j hj => ?_) (fun j hj => ?_) hnok
            · unfold lnx lnc
              by_cases e : j < m + 1
              · rw [if_pos e, dsub i hi j e]; exact Nat.le_refl _
              · rw [if_neg e]; exact Nat.zero_le _
            · unfold lnc
              have := h6 j hj
              omega
        refine q_OltryCuts_40 _ _ _ _ _ h' hv (fun _ => hv) (fun c => absurd c hnl) (fun _ _ => hv) (fun _ _ => hv) (fun _ _ => hv) (fun _ w => ?_) (fun _ _ _ => hv) (fun _ _ _ => hv) (fun _ _ _ => hv) (fun _ w w2 => ?_) (fun _ _ _ => hv) (fun _ w w2 => ?_)
        · refine go ?_
          cases b' with
          | none => exact Or.inl rfl
          | some d =>
            rw [hb'.1] at w
            have hsm : smc (zM L) (zSl S) d ≤ zM L * 6 := zSu_bnd (fun i hi => Nat.le_trans (dg_le _ _ _ _) (h6 i hi))
            exact absurd w (nI_neg1 (by omega))
        · refine go ?_
          cases b' with
          | none => exact Or.inl rfl
          | some d =>
            have hsm : smc (zM L) (zSl S) d ≤ zM L * 6 := zSu_bnd (fun i hi => Nat.le_trans (dg_le _ _ _ _) (h6 i hi))
            rw [hb'.1, nI_add] at w2
            exact Or.inr ⟨d, rfl, (nI_ltI (by omega) (by omega)).mp w2⟩
        · rw [hcm]
          refine ⟨rfl, zNp_o hn', ?_⟩
          cases b' with
          | none => exact absurd hb' w
          | some d =>
            have hsm : smc (zM L) (zSl S) d ≤ zM L * 6 := zSu_bnd (fun i hi => Nat.le_trans (dg_le _ _ _ _) (h6 i hi))
            rw [hb'.1, nI_add] at w2
            have hge : smc (zM L) (zSl S) d ≤ spent + c := by
              rcases Nat.lt_or_ge (spent + c) (smc (zM L) (zSl S) d) with e | e
              · exact absurd (nI_lt e (by omega)) w2
              · exact e
            have hall : zFo (fun c => zOk L S k lim (lnc (zM L) (zSl S) c)) (smc (zM L) (zSl S)) (sp (zM L) (zSl S) (q + 1)) base b = some d := by
              obtain ⟨rest, hrest⟩ : ∃ rest, sp (zM L) (zSl S) (q + 1) = c * sp (zM L) (zSl S) q + rest := ⟨sp (zM L) (zSl S) (q + 1) - c * sp (zM L) (zSl S) q, by omega⟩
              rw [hrest, zFo_add, ← eb]
              refine zFo_id _ _ (fun i hi => zStp_ge (Nat.le_trans hge ?_))
              have hd : c ≤ dg (zM L) (zSl S) m (base + c * sp (zM L) (zSl S) q + i) := by
                rw [Nat.add_assoc, blk _ (by omega), Nat.add_comm (c * _), Nat.add_mul_div_right _ _ hsq]
                exact Nat.le_add_left _ _
              have hpx : zSu (fun j => dg (zM L) (zSl S) j (base + c * sp (zM L) (zSl S) q + i)) m = spent := by
                rw [hsp]
                refine zSu_congr (fun j hj => ?_)
                rw [Nat.add_assoc]
                exact hpre _ (by omega) j hj
              have h1 := zSu_mono (fun j => dg (zM L) (zSl S) j (base + c * sp (zM L) (zSl S) q + i)) (m + 1) q
              rw [show m + 1 + q = zM L by omega] at h1
              have h2 : zSu (fun j => dg (zM L) (zSl S) j (base + c * sp (zM L) (zSl S) q + i)) (m + 1) = zSu (fun j => dg (zM L) (zSl S) j (base + c * sp (zM L) (zSl S) q + i)) m + dg (zM L) (zSl S) m (base + c * sp (zM L) (zSl S) q + i) := rfl
              unfold smc
              omega
            rw [hall]
            exact zBq_fr (l := [25]) (zFr_I (by decide)) (by decide) hb'
    exact loop (zSl S m + 1) 0 b h (by omega) (zNo_p hno) hb (by rw [Nat.zero_mul]; rfl)
/-- the least cuts -/
theorem c_OlleastCuts (hL : zLok L) (hS : zSh L S) (h6 : ∀ m, m < zM L → zSl S m ≤ 6) (hk : k < zN L) (hlim : lim ≤ 20) {n : Nat} (h : HP) (hCl : zCl L h) (hs : zCs L S 18 h) : jC E mX4_leastCuts (n + 8) [.ref 24, .int (nI k), .int (nI lim)] h (fun v h2 => ∃ b : Option Nat, b = zFo (fun c => zOk L S k lim (lnc (zM L) (zSl S) c)) (smc (zM L) (zSl S)) (sp (zM L) (zSl S) (zM L)) 0 none ∧ v = some (.int (h2.1 24 8)) ∧ zBq L S h2 b ∧ zFr [24, 25, 26, 27, 28, 29] h h2) := by
  have hM : zM L ≤ 4 := hL.2.2.2.2.2.1
  refine jC.of (lv := [some (.ref 24), some (.int (nI k)), some (.int (nI lim))]) (by decide) (Nat.le_of_ble_eq_true rfl) ⟨rfl, rfl, rfl, trivial⟩ (q_OlleastCuts_0 (n := n + 6) _ _ h ?_)
  refine ⟨_, c_fill25 0 _, fun v h1 hp => ?_⟩
  obtain ⟨ev, hf1, h25⟩ := hp
  rw [ev]
  refine q_OlleastCuts_17 (n := n + 6) _ _ h1 ?_
  have hO := zOl_tk hM hs
  have hf0 : zFr [24, 25, 26, 27, 28, 29] h (jPI (hTk h) 24 8 (-1)) := ((hTk_fr h).sub (by decide)).trans (zFr_I (by decide))
  have hfr : zFr [24, 25, 26, 27, 28, 29] h h1 := hf0.trans (hf1.sub (by decide))
  have hno : ∀ x, zNo L S h 0 x h1 := fun x => by
    refine ⟨hfr, ?_, fun i hi => ?_, fun i hi => absurd hi (by omega)⟩
    · rw [(hf1 24 (by decide)).2]; exact hO.2.1
    · rw [h25 i (by omega)]
      unfold lnx
      rw [if_neg (by omega)]
      rfl
  have hb1 : zBq L S h1 none := by
    show h1.1 24 8 = -1
    rw [(hf1 24 (by decide)).1]
    rfl
  refine ⟨_, c_OlhoursToCastle (n := n + 5) hL (zSh_lf hS (f := lnx S 0 (fun _ => 0)) (fun i hi => by unfold lnx; rw [if_neg (by omega)]; omega)) hk (show lim ≤ 40 by omega) h1 (zCl_fr hfr (by decide) hCl) (zNo_ol hs (hno (fun _ => 0))), fun v h2 hp => ?_⟩
  obtain ⟨ev2, hf2, _⟩ := hp
  rw [ev2]
  have hb2 := zBq_fr hf2 (by decide) hb1
  have hno2 := zNo_fr hf2 (hno (fun _ => 0))
  refine q_OlleastCuts_23 (n := n + 6) _ _ _ h2 (fun w => ?_) (fun w => ?_)
  · have hok := (zOk_fi (show lim ≤ 40 by omega)).mp w
    refine ⟨_, c_OltryCuts hL hS h6 hk hlim (h0 := h) hCl hs (zM L) (n + 7) 0 0 0 (fun _ => 0) none h2 (by omega) (by omega) (fun i hi => absurd hi (by omega)) (fun i _ j hj => absurd hj (by omega)) ⟨0, by rw [Nat.zero_mul]⟩ rfl hno2 hb2 (Or.inl rfl) hok, fun v3 h3 hp3 => ?_⟩
    obtain ⟨ev3, hno3, hb3⟩ := hp3
    rw [ev3]
    exact q_OlleastCuts_35 (n := n + 6) h3 ⟨_, rfl, rfl, hb3, hno3.1⟩
  · have hnok : zOk L S k lim (lnx S 0 (fun _ => 0)) = false := by
      cases e : zOk L S k lim (lnx S 0 (fun _ => 0))
      · rfl
      · exact absurd ((zOk_fi (show lim ≤ 40 by omega)).mpr e) w
    refine ⟨none, ?_, rfl, hb2, hno2.1⟩
    refine (zFo_id _ _ (fun i hi => zStp_no ?_)).symm
    refine zOk_mono hL hS (fun j hj => ?_) (fun j hj => ?_) hnok
    · unfold lnx
      rw [if_neg (by omega)]; exact Nat.zero_le _
    · unfold lnc
      have := h6 j hj
      omega
end TC
