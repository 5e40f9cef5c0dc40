/-! ===== images ===== -/
theorem va_up2 {α : Type} (f : Nat → α) (k : Nat) (v w : α) : va_up (va_up f k v) k w = va_up f k w := by
  funext j; unfold va_up; split <;> rfl
theorem jPA_self (h : HP) (k : Nat) : jPA h k (h.1 k) = h := by
  unfold jPA
  have : va_up h.1 k (h.1 k) = h.1 := by
    funext j; unfold va_up; split
    · rename_i q; rw [q]
    · rfl
  rw [this]
theorem jPA_I (h : HP) (k : Nat) (f : Nat → Int32) (j : Nat) (x : Int32) : jPI (jPA h k f) k j x = jPA h k (upd f j x) := by
  unfold jPI jPA
  have : (va_up h.1 k f) k = f := by simp [va_up]
  simp only [this, va_up2]
theorem jPA_at (h : HP) (k : Nat) (f : Nat → Int32) : (jPA h k f).1 k = f := by simp [jPA, va_up]
theorem z_img (x : Int32) : (f_ShisImage x = 1 ∧ f_Moin x.toInt64 0 1 = 1 ∧ ∃ i, i < 2 ∧ x = nI i) ∨ (f_ShisImage x = 0 ∧ f_Moin x.toInt64 0 1 = 0) := by
  rw [z_upto (k := 1) (by decide)]
  unfold f_ShisImage
  have h2 : (2 : Int32) ≤ x ↔ 2 ≤ x.toInt := by rw [Int32.le_iff_toInt_le]; rfl
  simp only [z_lt0, h2]
  by_cases q : 0 ≤ x.toInt ∧ x.toInt ≤ ((1 : Nat) : Int)
  · left
    rw [if_neg (by omega), if_neg (by omega), if_pos q]
    exact ⟨rfl, rfl, x.toInt.toNat, by omega, z_of (by omega)⟩
  · right
    rw [if_neg q]
    refine ⟨?_, rfl⟩
    (repeat' split) <;> first | rfl | omega
theorem z_62 (i a : Nat) : 62 * nI i + nI a = nI (62 * i + a) := by
  show nI 62 * nI i + nI a = _
  rw [pk_mul, nI_add]
/-- what a part of a row becomes when it is copied -/
def zcp (f g : Nat → Int32) (sp dp a : Nat) : Nat → Int32 := fun j => if dp ≤ j ∧ j < dp + a then f (sp + (j - dp)) else g j
theorem zcp_0 (f g : Nat → Int32) (sp dp : Nat) : zcp f g sp dp 0 = g := by
  funext j; unfold zcp; rw [if_neg (by omega)]
theorem zcp_s (f g : Nat → Int32) (sp dp a : Nat) : upd (zcp f g sp dp a) (dp + a) (f (sp + a)) = zcp f g sp dp (a + 1) := by
  funext j
  unfold zcp upd
  by_cases q : j = dp + a
  · rw [if_pos q, if_pos (by omega), q]; congr 1; omega
  · rw [if_neg q]
    by_cases q2 : dp ≤ j ∧ j < dp + a
    · dsimp only; rw [if_pos q2, if_pos (by omega)]
    · dsimp only; rw [if_neg q2, if_neg (by omega)]
theorem z_keepL {E : jEnv} {n : Nat} {i : Nat} (hi : i < 2) (h : HP) {P : Option Value → HP → Prop} (hP : P (some (.int 1)) (jPI (jPA h 57 (zcp (h.1 56) (h.1 57) 0 (62 * i) 62)) 58 i 1)) : ∀ (k a : Nat), a + k = 62 → jG E mX8_keep (n + 1) (fun _ => True) P 15 [some (.ref 52), some (.int (nI i)), some (.int (nI a))] [] (jPA h 57 (zcp (h.1 56) (h.1 57) 0 (62 * i) a)) := by
  intro k
  induction k with
  | zero =>
    intro a ha
    have : a = 62 := by omega
    subst this
    refine q_Mokeep_15 (nI i) (nI 62) _ (fun _ => z_vp hi (by omega)) (fun _ => ?_) (fun c => absurd (show (62 : Int32) ≤ nI 62 by decide) c) (fun c => absurd (show (62 : Int32) ≤ nI 62 by decide) c) (fun c => absurd (show (62 : Int32) ≤ nI 62 by decide) c)
    rw [nI_clamp (by omega)]
    exact hP
  | succ k ih =>
    intro a ha
    have hlt : ¬ (62 : Int32) ≤ nI a := by rw [show (62 : Int32) = nI 62 from rfl]; exact nI_ge (by omega) (by omega)
    refine q_Mokeep_15 (nI i) (nI a) _ (fun c => absurd c hlt) (fun c => absurd c hlt) (fun _ => z_vp (by omega) (by omega)) (fun _ => by rw [z_62]; exact z_vp (by omega) (by omega)) (fun _ => ?_)
    rw [z_62, nI_clamp (by omega), nI_clamp (by omega), jPA_I, show nI a + 1 = nI (a + 1) from nI_1 a]
    have e1 : (jPA h 57 (zcp (h.1 56) (h.1 57) 0 (62 * i) a)).1 56 a = h.1 56 (0 + a) := by rw [Nat.zero_add]; rfl
    rw [e1, zcp_s]
    exact ih (a + 1) (by omega)
theorem c_Mokeep {E : jEnv} {n : Nat} {i : Nat} (hi : i < 2) (h : HP) : jC E mX8_keep (n + 1) [.ref 52, .int (nI i)] h (fun v h2 => v = some (.int 1) ∧ h2 = jPI (jPA h 57 (zcp (h.1 56) (h.1 57) 0 (62 * i) 62)) 58 i 1) := by
  refine jC.of (lv := [some (.ref 52), some (.int (nI i)), none]) (by decide) (Nat.le_of_ble_eq_true rfl) ⟨rfl, rfl, trivial⟩ (q_Mokeep_0 (nI i) h (fun c => ?_) (fun _ => ?_))
  · rcases z_img (nI i) with ⟨_, q, _⟩ | ⟨q, _⟩
    · rw [q] at c; exact absurd c one0
    · exfalso
      unfold f_ShisImage at q
      rw [if_neg (nI_pos (by omega)), if_neg (by rw [show (2 : Int32) = nI 2 from rfl]; exact nI_ge hi (by omega))] at q
      exact absurd q one0
  · have h1 := z_keepL (E := E) (n := n) hi h (P := fun v h2 => v = some (.int 1) ∧ h2 = jPI (jPA h 57 (zcp (h.1 56) (h.1 57) 0 (62 * i) 62)) 58 i 1) ⟨rfl, rfl⟩ 62 0 rfl
    rw [zcp_0, jPA_self] at h1
    exact h1
theorem z_backL {E : jEnv} {n : Nat} {i : Nat} (hi : i < 2) (h : HP) {P : Option Value → HP → Prop} (hP : P (some (.int 1)) (jPA h 56 (zcp (h.1 57) (h.1 56) (62 * i) 0 62))) : ∀ (k a : Nat), a + k = 62 → jG E mX8_goBack (n + 1) (fun _ => True) P 28 [some (.ref 52), some (.int (nI i)), some (.int (nI a))] [] (jPA h 56 (zcp (h.1 57) (h.1 56) (62 * i) 0 a)) := by
  intro k
  induction k with
  | zero =>
    intro a ha
    have : a = 62 := by omega
    subst this
    exact q_MogoBack_28 (nI i) (nI 62) _ (fun _ => hP) (fun c => absurd (show (62 : Int32) ≤ nI 62 by decide) c) (fun c => absurd (show (62 : Int32) ≤ nI 62 by decide) c) (fun c => absurd (show (62 : Int32) ≤ nI 62 by decide) c)
  | succ k ih =>
    intro a ha
    have hlt : ¬ (62 : Int32) ≤ nI a := by rw [show (62 : Int32) = nI 62 from rfl]; exact nI_ge (by omega) (by omega)
    refine q_MogoBack_28 (nI i) (nI a) _ (fun c => absurd c hlt) (fun _ => by rw [z_62]; exact z_vp (by omega) (by omega)) (fun _ => z_vp (by omega) (by omega)) (fun _ => ?_)
    rw [z_62, nI_clamp (by omega), nI_clamp (by omega), jPA_I, show nI a + 1 = nI (a + 1) from nI_1 a]
    have e1 : (jPA h 56 (zcp (h.1 57) (h.1 56) (62 * i) 0 a)).1 57 (62 * i + a) = h.1 57 (62 * i + a) := rfl
    have e2 := zcp_s (h.1 57) (h.1 56) (62 * i) 0 a
    rw [Nat.zero_add] at e2
    rw [e1, e2]
    exact ih (a + 1) (by omega)
theorem z_img1 {i : Nat} (hi : i < 2) : f_ShisImage (nI i) = 1 ∧ f_Moin (nI i).toInt64 0 1 = 1 := by
  have h : ∀ i, i < 2 → f_ShisImage (nI i) = 1 ∧ f_Moin (nI i).toInt64 0 1 = 1 := by decide +kernel
  exact h i hi
theorem c_MogoBack {E : jEnv} {n : Nat} {i : Nat} (hi : i < 2) (h : HP) : jC E mX8_goBack (n + 1) [.ref 52, .int (nI i)] h (fun v h2 => (h.1 58 i = 0 ∧ v = some (.int (-1000000003)) ∧ h2 = h) ∨ (¬ h.1 58 i = 0 ∧ v = some (.int 1) ∧ h2 = jPA h 56 (zcp (h.1 57) (h.1 56) (62 * i) 0 62))) := by
  have hc : (nI i).toNatClampNeg = i := nI_clamp (by omega)
  refine jC.of (lv := [some (.ref 52), some (.int (nI i)), none]) (by decide) (Nat.le_of_ble_eq_true rfl) ⟨rfl, rfl, trivial⟩ (q_MogoBack_0 (nI i) h (fun c => ?_) (fun _ => z_vp hi (by omega)) (fun _ c => ?_) (fun _ c => ?_))
  · rw [(z_img1 hi).2] at c; exact absurd c one0
  · rw [hc] at c; exact Or.inl ⟨c, rfl, rfl⟩
  · rw [hc] at c
    have h1 := z_backL (E := E) (n := n) hi h (P := fun v h2 => (h.1 58 i = 0 ∧ v = some (.int (-1000000003)) ∧ h2 = h) ∨ (¬ h.1 58 i = 0 ∧ v = some (.int 1) ∧ h2 = jPA h 56 (zcp (h.1 57) (h.1 56) (62 * i) 0 62))) (Or.inr ⟨c, rfl, rfl⟩) 62 0 rfl
    rw [zcp_0, jPA_self] at h1
    exact h1
theorem c_Mokeep_o {E : jEnv} {n : Nat} {x : Int32} (hx : f_Moin x.toInt64 0 1 = 0) (h : HP) : jC E mX8_keep (n + 1) [.ref 52, .int x] h (fun v h2 => v = some (.int (-1000000001)) ∧ h2 = h) :=
  jC.of (lv := [some (.ref 52), some (.int x), none]) (by decide) (Nat.le_of_ble_eq_true rfl) ⟨rfl, rfl, trivial⟩ (q_Mokeep_0 x h (fun _ => ⟨rfl, rfl⟩) (fun c => absurd hx c))
theorem c_MogoBack_o {E : jEnv} {n : Nat} {x : Int32} (hx : f_Moin x.toInt64 0 1 = 0) (h : HP) : jC E mX8_goBack (n + 1) [.ref 52, .int x] h (fun v h2 => v = some (.int (-1000000001)) ∧ h2 = h) :=
  jC.of (lv := [some (.ref 52), some (.int x), none]) (by decide) (Nat.le_of_ble_eq_true rfl) ⟨rfl, rfl, trivial⟩ (q_MogoBack_0 x h (fun _ => ⟨rfl, rfl⟩) (fun c => absurd hx c) (fun c => absurd hx c) (fun c => absurd hx c))
theorem c_Shkeep_o {E : jEnv} {n : Nat} {x : Int32} (hx : f_ShisImage x = 0) (h : HP) : jC E mX7_keep (n + 2) [.ref 0, .int x] h (fun v h2 => v = some (.int (-1000000001)) ∧ h2 = h) :=
  jC.of (lv := [some (.ref 0), some (.int x)]) (by decide) (Nat.le_of_ble_eq_true rfl) ⟨rfl, rfl, trivial⟩ (q_Shkeep_o_0 x h (fun _ => ⟨rfl, rfl⟩) (fun c => c hx))
theorem c_ShgoBack_o {E : jEnv} {n : Nat} {x : Int32} (hx : f_ShisImage x = 0) (h : HP) : jC E mX7_goBack (n + 2) [.ref 0, .int x] h (fun v h2 => v = some (.int (-1000000001)) ∧ h2 = h) :=
  jC.of (lv := [some (.ref 0), some (.int x)]) (by decide) (Nat.le_of_ble_eq_true rfl) ⟨rfl, rfl, trivial⟩ (q_ShgoBack_o_0 x h (fun _ => ⟨rfl, rfl⟩) (fun c => absurd hx c) (fun c => absurd hx c) (fun c => absurd hx c))
/-- four ints copied -/
theorem z_cp4 {f g : Nat → Int32} {m : Nat} (hm : m < 4) : va_cpy f g (0 : Int32).toNatClampNeg (0 : Int32).toNatClampNeg (4 : Int32).toNatClampNeg m = f m := by
  have e0 : (0 : Int32).toNatClampNeg = 0 := by decide
  have e4 : (4 : Int32).toNatClampNeg = 4 := by decide
  rw [e0, e4, pk_cpy_in (by omega) (by omega)]
  congr 1
  omega
theorem zMs_congr {L : ZL} {S : ZS} {r r' : Nat → Int32} (hM : zM L ≤ 4) (hr : zMs L S r) (h : ∀ j, j < 62 → r' j = r j) : zMs L S r' := by
  obtain ⟨h1, h2, h3, h4⟩ := hr
  refine ⟨by rw [h 0 (by omega)]; exact h1, by rw [h 1 (by omega)]; exact h2, fun c hc => by rw [h _ (by omega)]; exact h3 c hc, fun m hm => ?_⟩
  obtain ⟨a, b, c, d, e, f⟩ := h4 m hm
  exact ⟨by rw [h _ (by omega)]; exact a, by rw [h _ (by omega)]; exact b, by rw [h _ (by omega)]; exact c, by rw [h _ (by omega)]; exact d, by rw [h _ (by omega)]; exact e, by rw [h _ (by omega)]; exact f⟩
theorem zcp_in {f g : Nat → Int32} {sp dp a j : Nat} (hj : j < a) : zcp f g sp dp a (dp + j) = f (sp + j) := by
  unfold zcp; rw [if_pos (by omega)]; congr 1; omega
theorem zcp_out {f g : Nat → Int32} {sp dp a j : Nat} (hj : j < dp ∨ dp + a ≤ j) : zcp f g sp dp a j = g j := by
  unfold zcp; rw [if_neg (by omega)]
