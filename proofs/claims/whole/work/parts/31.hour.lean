/-! ===== the model hears; an hour; hours; drift ===== -/
section MH
variable {E : jEnv} {n : Nat} {X : State → Prop} {P : Option Value → HP → Prop} {L : ZL} {S : ZS}
theorem zm_hear1 (hL : zLok L) (hCe : ∀ m, m < zM L → zCe S m < 36) {h0 : HP} (hMl : zMl L h0) {m : Nat} (hm : m < zM L) (kx : ∀ h, zFr [56] h0 h → zMs L (sKn S (mx (m + 1) (fun m => zHe L (zCe S m) (zKn S m) (zN L)) (zKn S))) (h.1 56) → jG E mX8_hears (n + 1) X P 2 [some (.ref 52), some (.int (nI (m + 1))), none, none] [] h) : ∀ (k q : Nat) (h : HP), q + k = zN L → zFr [56] h0 h → zMs L (sKn S (mz m (zHe L (zCe S m) (zKn S m) q) (fun m => zHe L (zCe S m) (zKn S m) (zN L)) (zKn S))) (h.1 56) → jG E mX8_hears (n + 1) X P 12 [some (.ref 52), some (.int (nI m)), some (.int (nI q)), none] [] h := by
  have hM : zM L ≤ 4 := hL.2.2.2.2.2.1
  have hN : zN L ≤ 4 := hL.2.2.2.2.2.2.1
  have hA := hL.2.2.1
  intro k
  induction k with
  | zero =>
    intro q h hq hf hs
    obtain rfl : q = zN L := by omega
    have e4 : h.1 52 6 = nI (zN L) := (zMl_fr hf (by decide) hMl).1.2.2.2.2.1
    have hle : h.1 52 6 ≤ nI (zN L) := by rw [e4]; exact Int32.le_refl _
    refine q_Mohears_12 _ _ h (fun _ => ?_) (fun c => absurd hle c) (fun c => absurd hle c) (fun c => absurd hle c) (fun c => absurd hle c) (fun c => absurd hle c) (fun c => absurd hle c) (fun c => absurd hle c) (fun c => absurd hle c)
    rw [nI_1]
    refine kx h hf ?_
    rw [← mz_e]
    exact hs
  | succ k ih =>
    intro q h hq hf hs
    have hMl' := zMl_fr hf (by decide) hMl
    have e4 : h.1 52 6 = nI (zN L) := hMl'.1.2.2.2.2.1
    have hlt : ¬ h.1 52 6 ≤ nI q := by rw [e4]; exact nI_ge (by omega) (by omega)
    have hcq : (nI q).toNatClampNeg = q := nI_clamp (by omega)
    have hc5 : ((2 + 6 * nI m) + 3).toNatClampNeg = 5 + 6 * m := by rw [z_ix3]; exact nI_clamp (by omega)
    have esp : f_MospotOf (h.1 52 0) (h.1 56) (nI m) = nI (zCe S m) := by rw [hMl'.1.1]; exact z_spot hs hM hm
    have e21 : h.1 56 (5 + 6 * m) = nI (zHe L (zCe S m) (zKn S m) q) := by
      have := (hs.2.2.2 m hm).2.2.2.1
      rw [this]
      show nI (mz m (zHe L (zCe S m) (zKn S m) q) (fun m => zHe L (zCe S m) (zKn S m) (zN L)) (zKn S) m) = _
      unfold mz
      rw [if_neg (by omega), if_pos rfl]
    have e8 : h.1 55 q = nI (zP L q) := hMl'.2.2.2 q (by omega)
    have hp36 := hL.2.2.2.2.2.2.2.2.2.2.2 q (by omega)
    have hc36 := hCe m hm
    have hv3 : vp_in ((2 + 6 * nI m) + 3) 62 := by rw [z_ix3]; exact z_vp (by omega) (by omega)
    have hv1 : vp_in ((2 + 6 * nI m) + 1) 62 := by rw [z_ix1]; exact z_vp (by omega) (by omega)
    have hv0 : vp_in (2 + 6 * nI m) 62 := by rw [z_ix0]; exact z_vp (by omega) (by omega)
    refine q_Mohears_12 _ _ h (fun c => absurd c hlt) (fun _ => hv3) (fun _ => hv1) (fun _ => hv0) (fun _ => z_vp (by omega) (by omega)) (fun _ _ => hv3) (fun _ w => ?_) (fun _ _ => hv3) (fun _ w => ?_)
    · rw [hcq, esp, e8] at w
      have w' := (nI_eq (by omega) (by omega)).mp w
      rw [hc5, e21, z_1shl q (by omega), fa_or, nI_1]
      refine ih (q + 1) _ (by omega) (hf.trans (zFr_I (by decide))) ?_
      have hw := zMs_kn hs (m := m) (by omega) (zHe L (zCe S m) (zKn S m) (q + 1))
      rw [show zKn (sKn S (mz m (zHe L (zCe S m) (zKn S m) q) (fun m => zHe L (zCe S m) (zKn S m) (zN L)) (zKn S))) = mz m (zHe L (zCe S m) (zKn S m) q) (fun m => zHe L (zCe S m) (zKn S m) (zN L)) (zKn S) from rfl, mz_u] at hw
      have e : zHe L (zCe S m) (zKn S m) (q + 1) = zHe L (zCe S m) (zKn S m) q ||| 2 ^ q := by
        show (if _ then _ else _) = _
        rw [if_pos w']
      rw [← e]
      exact hw
    · rw [hcq, esp, e8] at w
      have w' : ¬ zCe S m = zP L q := fun r => w (by rw [r])
      rw [hc5, e21, nI_1, Int32.or_zero]
      refine ih (q + 1) _ (by omega) (hf.trans (zFr_I (by decide))) ?_
      have hw := zMs_kn hs (m := m) (by omega) (zHe L (zCe S m) (zKn S m) (q + 1))
      rw [show zKn (sKn S (mz m (zHe L (zCe S m) (zKn S m) q) (fun m => zHe L (zCe S m) (zKn S m) (zN L)) (zKn S))) = mz m (zHe L (zCe S m) (zKn S m) q) (fun m => zHe L (zCe S m) (zKn S m) (zN L)) (zKn S) from rfl, mz_u] at hw
      have e : zHe L (zCe S m) (zKn S m) (q + 1) = zHe L (zCe S m) (zKn S m) q := by
        show (if _ then _ else _) = _
        rw [if_neg w']
      have hw' := hw
      rw [e] at hw'
      rw [e]
      exact hw'
theorem zm_hear (hL : zLok L) (hCe : ∀ m, m < zM L → zCe S m < 36) {h0 : HP} (hMl : zMl L h0) (kx : ∀ h, zFr [56] h0 h → zMs L (zHear L S) (h.1 56) → jG E mX8_hears (n + 1) X P 71 [some (.ref 52), some (.int 0), none, none] [] h) : ∀ (k m : Nat) (h : HP), m + k = zM L → zFr [56] h0 h → zMs L (sKn S (mx m (fun m => zHe L (zCe S m) (zKn S m) (zN L)) (zKn S))) (h.1 56) → jG E mX8_hears (n + 1) X P 2 [some (.ref 52), some (.int (nI m)), none, none] [] h := by
  have hM : zM L ≤ 4 := hL.2.2.2.2.2.1
  intro k
  induction k with
  | zero =>
    intro m h hm hf hs
    obtain rfl : m = zM L := by omega
    have e3 : h.1 52 5 = nI (zM L) := (zMl_fr hf (by decide) hMl).1.2.2.2.1
    have hle : h.1 52 5 ≤ nI (zM L) := by rw [e3]; exact Int32.le_refl _
    exact q_Mohears_2 _ h (fun _ => kx h hf hs) (fun c => absurd hle c)
  | succ k ih =>
    intro m h hm hf hs
    have e3 : h.1 52 5 = nI (zM L) := (zMl_fr hf (by decide) hMl).1.2.2.2.1
    have hlt : ¬ h.1 52 5 ≤ nI m := by rw [e3]; exact nI_ge (by omega) (by omega)
    refine q_Mohears_2 _ h (fun c => absurd c hlt) (fun _ => ?_)
    refine zm_hear1 hL hCe hMl (by omega) (fun h' hf' hs' => ih (m + 1) h' (by omega) hf' hs') (zN L) 0 h (by omega) hf ?_
    show zMs L (sKn S (mz m (zKn S m) _ (zKn S))) (h.1 56)
    rw [mz_b]
    exact hs
/-- bits of one in the other -/
def Sb (a b : Nat) : Prop := ∀ t, a.testBit t = true → b.testBit t = true
def zShm (L : ZL) (S : ZS) (m : Nat) : Nat := zKa (zCe S) (zKn S) (zCe S m) (zM L)
/-- what is held while the model shares -/
def zSw (L : ZL) (S : ZS) (F : Nat → Nat) (m : Nat) : Prop := (∀ i, i < zM L → Sb (zKn S i) (F i) ∧ Sb (F i) (zShm L S i)) ∧ ∀ i, i < m → F i = zShm L S i
theorem zm_share3 (hL : zLok L) (hCe : ∀ m, m < zM L → zCe S m < 36) {h0 : HP} (hMl : zMl L h0) {m : Nat} (hm : m < zM L) (a : Int32) (kx : ∀ (h : HP) (F : Nat → Nat), zFr [56] h0 h → zMs L (sKn S F) (h.1 56) → zSw L S F (m + 1) → jG E mX8_hears (n + 1) X P 78 [some (.ref 52), some (.int a), some (.int (nI (m + 1))), none] [] h) : ∀ (k o : Nat) (h : HP) (F : Nat → Nat), o + k = zM L → zFr [56] h0 h → zMs L (sKn S F) (h.1 56) → zSw L S F m → (∀ i, i < o → zCe S m = zCe S i → Sb (zKn S i) (F m)) → jG E mX8_hears (n + 1) X P 88 [some (.ref 52), some (.int a), some (.int (nI m)), some (.int (nI o))] [] h := by
  have hM : zM L ≤ 4 := hL.2.2.2.2.2.1
  intro k
  induction k with
  | zero =>
    intro o h F ho hf hs hw hi
    obtain rfl : o = zM L := by omega
    have e3 : h.1 52 5 = nI (zM L) := (zMl_fr hf (by decide) hMl).1.2.2.2.1
    have hle : h.1 52 5 ≤ nI (zM L) := by rw [e3]; exact Int32.le_refl _
    refine q_Mohears_88 _ _ _ h (fun _ => ?_) (fun c => absurd hle c) (fun c => absurd hle c) (fun c => absurd hle c) (fun c => absurd hle c) (fun c => absurd hle c) (fun c => absurd hle c) (fun c => absurd hle c) (fun c => absurd hle c) (fun c => absurd hle c) (fun c => absurd hle c)
    rw [nI_1]
    refine kx h F hf hs ⟨hw.1, fun i q => ?_⟩
    by_cases he : i = m
    · rw [he]
      refine nat_bits (hw.1 m hm).2 (fun t ht => ?_)
      obtain ⟨i', h1, h2, h3⟩ := (zKa_bit (zM L)).mp ht
      exact hi i' h1 h2.symm t h3
    · exact hw.2 i (by omega)
  | succ k ih =>
    intro o h F ho hf hs hw hi
    have hMl' := zMl_fr hf (by decide) hMl
    have e3 : h.1 52 5 = nI (zM L) := hMl'.1.2.2.2.1
    have hlt : ¬ h.1 52 5 ≤ nI o := by rw [e3]; exact nI_ge (by omega) (by omega)
    have hc5 : ((2 + 6 * nI m) + 3).toNatClampNeg = 5 + 6 * m := by rw [z_ix3]; exact nI_clamp (by omega)
    have hc5' : ((2 + 6 * nI o) + 3).toNatClampNeg = 5 + 6 * o := by rw [z_ix3]; exact nI_clamp (by omega)
    have esp : f_MospotOf (h.1 52 0) (h.1 56) (nI m) = nI (zCe S m) := by rw [hMl'.1.1]; exact z_spot hs hM hm
    have esp' : f_MospotOf (h.1 52 0) (h.1 56) (nI o) = nI (zCe S o) := by rw [hMl'.1.1]; exact z_spot hs hM (by omega)
    have em : h.1 56 (5 + 6 * m) = nI (F m) := (hs.2.2.2 m hm).2.2.2.1
    have eo : h.1 56 (5 + 6 * o) = nI (F o) := (hs.2.2.2 o (by omega)).2.2.2.1
    have hv3 : ∀ i, i < zM L → vp_in ((2 + 6 * nI i) + 3) 62 := fun i hi => by rw [z_ix3]; exact z_vp (by omega) (by omega)
    have hv1 : ∀ i, i < zM L → vp_in ((2 + 6 * nI i) + 1) 62 := fun i hi => by rw [z_ix1]; exact z_vp (by omega) (by omega)
    have hv0 : ∀ i, i < zM L → vp_in (2 + 6 * nI i) 62 := fun i hi => by rw [z_ix0]; exact z_vp (by omega) (by omega)
    have hom : o < zM L := by omega
    have hcm := hCe m hm
    have hco := hCe o hom
    refine q_Mohears_88 _ _ _ h (fun c => absurd c hlt) (fun _ => hv3 m hm) (fun _ => hv1 m hm) (fun _ => hv0 m hm) (fun _ => hv1 o hom) (fun _ => hv0 o hom) (fun _ _ => hv3 o hom) (fun _ _ => hv3 m hm) (fun _ w => ?_) (fun _ _ => hv3 m hm) (fun _ w => ?_)
    · rw [esp, esp'] at w
      have w' := (nI_eq (by omega) (by omega)).mp w
      rw [hc5, hc5', em, eo, fa_or, nI_1]
      refine ih (o + 1) _ (up1 m (F m ||| F o) F) (by omega) (hf.trans (zFr_I (by decide))) (zMs_kn hs (by omega) _) ⟨fun i hi' => ?_, fun i hi' => ?_⟩ (fun i hi' hc => ?_)
      · unfold up1
        by_cases he : i = m
        · rw [if_pos he, he]
          refine ⟨fun t ht => ?_, fun t ht => ?_⟩
          · rw [Nat.testBit_or, (hw.1 m hm).1 t ht]; rfl
          · rw [Nat.testBit_or, Bool.or_eq_true] at ht
            rcases ht with ht | ht
            · exact (hw.1 m hm).2 t ht
            · have := (hw.1 o hom).2 t ht
              unfold zShm at *
              rw [w']
              exact this
        · rw [if_neg he]; exact hw.1 i hi'
      · unfold up1
        rw [if_neg (by omega)]
        exact hw.2 i hi'
      · unfold up1
        rw [if_pos rfl]
        intro t ht
        rw [Nat.testBit_or, Bool.or_eq_true]
        by_cases he : i = o
        · right
          rw [he] at ht
          exact (hw.1 o hom).1 t ht
        · left
          exact hi i (by omega) hc t ht
    · rw [esp, esp'] at w
      have w' : ¬ zCe S m = zCe S o := fun r => w (by rw [r])
      rw [hc5, em, nI_1, Int32.or_zero]
      refine ih (o + 1) _ (up1 m (F m) F) (by omega) (hf.trans (zFr_I (by decide))) (zMs_kn hs (by omega) _) ?_ ?_
      · have : up1 m (F m) F = F := by
          funext i; unfold up1; split
          · rename_i q; rw [q]
          · rfl
        rw [this]
        exact hw
      · intro i hi' hc
        unfold up1
        rw [if_pos rfl]
        have : i ≠ o := fun q => w' (q ▸ hc)
        exact hi i (by omega) hc
theorem zm_share2 (hL : zLok L) (hCe : ∀ m, m < zM L → zCe S m < 36) {h0 : HP} (hMl : zMl L h0) (a : Int32) (kx : ∀ (h : HP) (F : Nat → Nat), zFr [56] h0 h → zMs L (sKn S F) (h.1 56) → zSw L S F (zM L) → jG E mX8_hears (n + 1) X P 71 [some (.ref 52), some (.int (a + 1)), none, none] [] h) : ∀ (k m : Nat) (h : HP) (F : Nat → Nat), m + k = zM L → zFr [56] h0 h → zMs L (sKn S F) (h.1 56) → zSw L S F m → jG E mX8_hears (n + 1) X P 78 [some (.ref 52), some (.int a), some (.int (nI m)), none] [] h := by
  have hM : zM L ≤ 4 := hL.2.2.2.2.2.1
  intro k
  induction k with
  | zero =>
    intro m h F hm hf hs hw
    obtain rfl : m = zM L := by omega
    have e3 : h.1 52 5 = nI (zM L) := (zMl_fr hf (by decide) hMl).1.2.2.2.1
    have hle : h.1 52 5 ≤ nI (zM L) := by rw [e3]; exact Int32.le_refl _
    exact q_Mohears_78 _ _ h (fun _ => kx h F hf hs hw) (fun c => absurd hle c)
  | succ k ih =>
    intro m h F hm hf hs hw
    have e3 : h.1 52 5 = nI (zM L) := (zMl_fr hf (by decide) hMl).1.2.2.2.1
    have hlt : ¬ h.1 52 5 ≤ nI m := by rw [e3]; exact nI_ge (by omega) (by omega)
    refine q_Mohears_78 _ _ h (fun c => absurd c hlt) (fun _ => ?_)
    exact zm_share3 hL hCe hMl (by omega) a (fun h' F' hf' hs' hw' => ih (m + 1) h' F' (by omega) hf' hs' hw') (zM L) 0 h F (by omega) hf hs hw (fun i hi => absurd hi (by omega))
theorem c_Mohears (hL : zLok L) (hCe : ∀ m, m < zM L → zCe S m < 36) (h : HP) (hMl : zMl L h) (hs : zMs L S (h.1 56)) : jC E mX8_hears (n + 1) [.ref 52] h (fun v h2 => v = none ∧ zFr [56] h h2 ∧ zMs L (zShare L (zHear L S)) (h2.1 56)) := by
  refine jC.of (lv := [some (.ref 52), none, none, none]) (by decide) (Nat.le_of_ble_eq_true rfl) ⟨rfl, trivial⟩ (q_Mohears_0 h ?_)
  refine zm_hear hL hCe hMl (fun h1 hf1 hs1 => ?_) (zM L) 0 h (by omega) (zFr.refl _ h) (by rw [mx_0]; exact hs)
  have own : ∀ i, i < zM L → Sb (zKn (zHear L S) i) (zShm L (zHear L S) i) := fun i hi t ht => (zKa_bit (zM L)).mpr ⟨i, hi, rfl, ht⟩
  -- two turns
  refine q_Mohears_71 0 h1 (fun c => absurd c (by decide)) (fun _ => ?_)
  refine zm_share2 (S := zHear L S) hL hCe hMl 0 (fun h2 F hf2 hs2 hw2 => ?_) (zM L) 0 h1 (zKn (zHear L S)) (by omega) hf1 hs1 ⟨fun i hi => ⟨fun t ht => ht, own i hi⟩, fun i hi => absurd hi (by omega)⟩
  refine q_Mohears_71 _ h2 (fun c => absurd c (by decide)) (fun _ => ?_)
  refine zm_share2 (S := zHear L S) hL hCe hMl _ (fun h3 F3 hf3 hs3 hw3 => ?_) (zM L) 0 h2 F (by omega) hf2 hs2 ⟨hw2.1, fun i hi => absurd hi (by omega)⟩
  refine q_Mohears_71 _ h3 (fun _ => ⟨rfl, hf3, ?_⟩) (fun c => absurd (by decide) c)
  refine zMs_knc hs3 (fun i hi => ?_)
  rw [hw3.2 i hi]
  unfold mx
  rw [if_pos hi]
  rfl
end MH
/-! an hour -/
def zTo (L : ZL) (S : ZS) (t m : Nat) : Nat := if zWl L (zSk S) (zCe S m) (zOr S m) (zSl S m) t = 99 then zCe S m else zWl L (zSk S) (zCe S m) (zOr S m) (zSl S m) t
def zMove (L : ZL) (S : ZS) : ZS := sCe (sHo S (zH S + 1)) (mx (zM L) (zTo L S (zH S + 1)) (zCe S))
def zWet (L : ZL) (S : ZS) : ZS := sWe S (mx (zM L) (fun m => zWe S m + if zDe L (zSk S) (zCe S m) (zH S) ≤ zSl S m then 0 else 1) (zWe S))
def zHour (L : ZL) (S : ZS) : ZS := zWet L (zShare L (zHear L (zMove L S)))
/-- what a state must be so that hours can pass -/
def zSg (L : ZL) (S : ZS) : Prop := zH S < 2 ^ 30 ∧ ∀ m, m < zM L → zCe S m < zA L ∧ zSl S m ≤ 7 ∧ zOr S m ≤ 4
theorem zSok.sg {L : ZL} {S : ZS} {B : Nat} (h : zSok L S B) (hB : B < 2 ^ 30) : zSg L S := ⟨by have := h.1; omega, fun m hm => by
  obtain ⟨a, b, _, _, e⟩ := h.2.2.2 m hm
  exact ⟨a, by omega, e⟩⟩
theorem zTo_lt {L : ZL} (hL : zLok L) {S : ZS} (hS : zSg L S) {t m : Nat} (hm : m < zM L) : zTo L S t m < zA L := by
  obtain ⟨a, b, c⟩ := hS.2 m hm
  unfold zTo
  split
  · exact a
  · rename_i q
    exact (zWl_lt hL a c).resolve_left q
theorem zHe_lt (L : ZL) {c a : Nat} {b : Nat} (ha : a < 2 ^ b) : ∀ k, k ≤ b → zHe L c a k < 2 ^ b
  | 0, _ => ha
  | k + 1, hk => by
    have ih := zHe_lt L (c := c) ha k (by omega)
    unfold zHe
    split
    · exact Nat.or_lt_two_pow ih (Nat.pow_lt_pow_right (by omega) (by omega))
    · exact ih
theorem zHs_ok {L : ZL} (hL : zLok L) {S : ZS} {B : Nat} (hS : zSok L S B) : zSok L (zShare L (zHear L S)) B := by
  have hk : ∀ m, m < zM L → zKn (zHear L S) m < 2 ^ zN L := fun m hm => by
    show mx (zM L) (fun m => zHe L (zCe S m) (zKn S m) (zN L)) (zKn S) m < _
    unfold mx
    rw [if_pos hm]
    exact zHe_lt L (hS.2.2.2 m hm).2.2.1 _ (Nat.le_refl _)
  refine ⟨hS.1, hS.2.1, hS.2.2.1, fun m hm => ?_⟩
  obtain ⟨a, b, c, d, e⟩ := hS.2.2.2 m hm
  refine ⟨a, b, ?_, d, e⟩
  show mx (zM L) (fun m => zKa (zCe S) (zKn (zHear L S)) (zCe S m) (zM L)) (zKn (zHear L S)) m < _
  unfold mx
  rw [if_pos hm]
  exact zKa_lt _ hk
theorem zHour_ok {L : ZL} (hL : zLok L) {S : ZS} {B : Nat} (hB : B < 2 ^ 30) (hS : zSok L S B) : zSok L (zHour L S) (B + 1) := by
  have h1 : zSok L (zMove L S) (B + 1) := by
    refine ⟨by have := hS.1; show zH S + 1 ≤ B + 1; omega, hS.2.1, hS.2.2.1, fun m hm => ?_⟩
    obtain ⟨a, b, c, d, e⟩ := hS.2.2.2 m hm
    refine ⟨?_, b, c, by show zWe S m ≤ B + 1; omega, e⟩
    show mx (zM L) _ _ m < _
    unfold mx
    rw [if_pos hm]
    exact zTo_lt hL (hS.sg hB) hm
  have h2 := zHs_ok hL h1
  refine ⟨h2.1, h2.2.1, h2.2.2.1, fun m hm => ?_⟩
  obtain ⟨a, b, c, d, e⟩ := h2.2.2.2 m hm
  refine ⟨a, b, c, ?_, e⟩
  have d' := (hS.2.2.2 m hm).2.2.2.1
  show mx (zM L) (fun m => zWe S m + if zDe L (zSk S) (zCe (zMove L S) m) (zH S + 1) ≤ zSl S m then 0 else 1) (zWe S) m ≤ _
  unfold mx
  rw [if_pos hm]
  show zWe S m + (if _ then 0 else 1) ≤ B + 1
  split <;> omega
section HO
variable {E : jEnv} {n : Nat} {X : State → Prop} {P : Option Value → HP → Prop} {L : ZL} {S : ZS}
theorem z_tin {L : ZL} (hL : zLok L) {t : Nat} (ht : t < 2 ^ 31) : vp_in (f_LdtideOf (nI (zT L)) (nI t)) 6 := by
  obtain ⟨t1, t6⟩ := hL.2.2.2.2.1
  have hm : t % zT L < zT L := Nat.mod_lt _ (by omega)
  rw [z_tide t1 t6 ht]
  exact z_vp (by omega) (by omega)
theorem z_tinM {L : ZL} (hL : zLok L) {t : Nat} (ht : t < 2 ^ 31) : vp_in (nI t - nI t / nI (zT L) * nI (zT L)) 6 := by
  obtain ⟨t1, t6⟩ := hL.2.2.2.2.1
  have hm : t % zT L < zT L := Nat.mod_lt _ (by omega)
  rw [pk_rem ht (by omega) (by omega)]
  exact z_vp (by omega) (by omega)
theorem zc_move (hL : zLok L) (hS : zSg L S) {h0 : HP} (hCl : zCl L h0) (kx : ∀ h, zFr [18, 19] h0 h → zCs L (zMove L S) 18 h → jCall E mX5_hearAndShare (n + 3) [.ref 18] h (fun v h2 => jG E mX5_passAnHour (n + 4) X P 81 [some (.ref 18), none, none] (v.toList ++ []) h2)) : ∀ (k m : Nat) (h : HP), m + k = zM L → zFr [18, 19] h0 h → zCs L (sCe (sHo S (zH S + 1)) (mx m (zTo L S (zH S + 1)) (zCe S))) 18 h → jG E mX5_passAnHour (n + 4) X P 12 [some (.ref 18), some (.int (nI m)), none] [] h := by
  have hM : zM L ≤ 4 := hL.2.2.2.2.2.1
  have hA := hL.2.2.1
  intro k
  induction k with
  | zero =>
    intro m h hm hf hs
    obtain rfl : m = zM L := by omega
    have e3 : h.1 3 3 = nI (zM L) := (zCl_fr hf (by decide) hCl).1.2.2.2.1
    have hle : h.1 3 3 ≤ nI (zM L) := by rw [e3]; exact Int32.le_refl _
    exact q_StpassAnHour_12 _ h (fun _ => kx h hf hs) (fun c => absurd hle c) (fun c => absurd hle c) (fun c => absurd hle c) (fun c => absurd hle c) (fun c => absurd hle c) (fun c => absurd hle c) (fun c => absurd hle c) (fun c => absurd hle c) (fun c => absurd hle c)
  | succ k ih =>
    intro m h hm hf hs
    have hCl' := zCl_fr hf (by decide) hCl
    have e3 : h.1 3 3 = nI (zM L) := hCl'.1.2.2.2.1
    have hlt : ¬ h.1 3 3 ≤ nI m := by rw [e3]; exact nI_ge (by omega) (by omega)
    have hcl : (nI m).toNatClampNeg = m := nI_clamp (by omega)
    have hm' : m < zM L := by omega
    obtain ⟨a1, a2, a3⟩ := hS.2 m hm'
    have hv : vp_in (nI m) 4 := z_vp (by omega) (by omega)
    have e19 : h.1 19 m = nI (zCe S m) := by
      rw [show h.1 19 m = nI (mx m (zTo L S (zH S + 1)) (zCe S) m) from (hs.2.2.2 m hm').1, mx_at]
    have e20 : h.1 20 m = nI (zSl S m) := (hs.2.2.2 m hm').2.1
    have e23 : h.1 23 m = nI (zOr S m) := (hs.2.2.2 m hm').2.2.2.2
    have e18 : h.1 18 1 = nI (zH S + 1) := hs.1
    have ht : zH S + 1 < 2 ^ 31 := by have := hS.1; omega
    have ew : f_StwayLeads (h.1 3 0) (h.1 3 1) (h.1 3 2) (h.2 18 3) (h.1 4) (h.1 5) (h.1 19 (nI m).toNatClampNeg) (h.1 23 (nI m).toNatClampNeg) (h.1 20 (nI m).toNatClampNeg) (h.1 18 1) = zI (zWl L (zSk S) (zCe S m) (zOr S m) (zSl S m) (zH S + 1)) := by
      rw [hcl, e19, e20, e23, e18, hCl'.1.1, hCl'.1.2.1, hCl'.1.2.2.1]
      exact z_wayC hL hCl'.2.1 hCl'.2.2.1 hs.2.2.1 a1 a3 a2 ht
    have hwl := zWl_lt hL (K := zSk S) (l := zSl S m) (t := zH S + 1) a1 a3
    have hto : ∀ v : Nat, zTo L S (zH S + 1) m = v → zCs L (sCe (sHo S (zH S + 1)) (mx (m + 1) (zTo L S (zH S + 1)) (zCe S))) 18 (jPI h 19 m (nI v)) := fun v hv => by
      rw [← mx_u, hv]
      exact zCs_ce hs m v
    refine q_StpassAnHour_12 _ h (fun c => absurd c hlt) (fun _ => hv) (fun _ => hv) (fun _ => hv) (fun _ _ _ _ _ _ _ => by rw [hCl'.1.2.2.1, e18]; exact z_tin hL ht) (fun _ _ => hv) (fun _ _ => hv) (fun _ w => ?_) (fun _ _ => hv) (fun _ w => ?_)
    · rw [ew] at w
      have w' : zWl L (zSk S) (zCe S m) (zOr S m) (zSl S m) (zH S + 1) = 99 := by
        rcases hwl with q | q
        · exact q
        · exact absurd w (zI_in (by omega)).2
      rw [hcl, nI_1, e19]
      refine ih (m + 1) _ (by omega) (hf.trans (zFr_I (by decide))) (hto _ ?_)
      unfold zTo
      rw [if_pos w']
    · rw [ew] at w
      have w' : ¬ zWl L (zSk S) (zCe S m) (zOr S m) (zSl S m) (zH S + 1) = 99 := fun q => w (by rw [q]; rfl)
      rw [ew, hcl, nI_1, (zI_in (by have := hwl.resolve_left w'; omega)).1]
      refine ih (m + 1) _ (by omega) (hf.trans (zFr_I (by decide))) (hto _ ?_)
      unfold zTo
      rw [if_neg w']
theorem zc_wet (hL : zLok L) (hS : zSg L S) {h0 : HP} (hCl : zCl L h0) (kx : ∀ h, zFr [22] h0 h → zCs L (zWet L S) 18 h → P none h) : ∀ (k m : Nat) (h : HP), m + k = zM L → zFr [22] h0 h → zCs L (sWe S (mx m (fun m => zWe S m + if zDe L (zSk S) (zCe S m) (zH S) ≤ zSl S m then 0 else 1) (zWe S))) 18 h → jG E mX5_passAnHour (n + 4) X P 83 [some (.ref 18), some (.int (nI m)), none] [] h := by
  have hM : zM L ≤ 4 := hL.2.2.2.2.2.1
  have hA := hL.2.2.1
  intro k
  induction k with
  | zero =>
    intro m h hm hf hs
    obtain rfl : m = zM L := by omega
    have e3 : h.1 3 3 = nI (zM L) := (zCl_fr hf (by decide) hCl).1.2.2.2.1
    have hle : h.1 3 3 ≤ nI (zM L) := by rw [e3]; exact Int32.le_refl _
    exact q_StpassAnHour_83 _ h (fun _ => kx h hf hs) (fun c => absurd hle c) (fun c => absurd hle c) (fun c => absurd hle c) (fun c => absurd hle c) (fun c => absurd hle c) (fun c => absurd hle c) (fun c => absurd hle c) (fun c => absurd hle c)
  | succ k ih =>
    intro m h hm hf hs
    have hCl' := zCl_fr hf (by decide) hCl
    have e3 : h.1 3 3 = nI (zM L) := hCl'.1.2.2.2.1
    have hlt : ¬ h.1 3 3 ≤ nI m := by rw [e3]; exact nI_ge (by omega) (by omega)
    have hcl : (nI m).toNatClampNeg = m := nI_clamp (by omega)
    have hm' : m < zM L := by omega
    obtain ⟨a1, a2, a3⟩ := hS.2 m hm'
    have hv : vp_in (nI m) 4 := z_vp (by omega) (by omega)
    have e19 : h.1 19 m = nI (zCe S m) := (hs.2.2.2 m hm').1
    have e20 : h.1 20 m = nI (zSl S m) := (hs.2.2.2 m hm').2.1
    have e22 : h.1 22 m = nI (zWe S m) := by
      rw [show h.1 22 m = nI (mx m (fun m => zWe S m + if zDe L (zSk S) (zCe S m) (zH S) ≤ zSl S m then 0 else 1) (zWe S) m) from (hs.2.2.2 m hm').2.2.2.1, mx_at]
    have e18 : h.1 18 1 = nI (zH S) := hs.1
    have ht : zH S < 2 ^ 31 := by have := hS.1; omega
    have hd := z_depthC hL hCl'.2.1 hCl'.2.2.1 hs.2.2.1 (c := zCe S m) (t := zH S) (by omega) ht
    have hle := zDe_le hL (zSk S) (c := zCe S m) (t := zH S) (by omega)
    have ew : f_StisWet (h.1 18 1) (h.1 3 2) (h.2 18 3) (h.1 19) (h.1 20) (h.1 4) (h.1 5) (nI m) = if zDe L (zSk S) (zCe S m) (zH S) ≤ zSl S m then 0 else 1 := by
      unfold f_StisWet
      rw [hcl, e19, e20, e18, hCl'.1.2.2.1]
      rw [show zSk (sWe S (mx m (fun m => zWe S m + if zDe L (zSk S) (zCe S m) (zH S) ≤ zSl S m then 0 else 1) (zWe S))) = zSk S from rfl] at hd
      rw [hd]
      by_cases q : zDe L (zSk S) (zCe S m) (zH S) ≤ zSl S m
      · rw [if_pos q, if_pos (nI_le q (by omega))]
      · rw [if_neg q, if_neg (nI_ge (by omega) (by omega))]
    have hto : ∀ v : Nat, zWe S m + (if zDe L (zSk S) (zCe S m) (zH S) ≤ zSl S m then 0 else 1) = v → zCs L (sWe S (mx (m + 1) (fun m => zWe S m + if zDe L (zSk S) (zCe S m) (zH S) ≤ zSl S m then 0 else 1) (zWe S))) 18 (jPI h 22 m (nI v)) := fun v hv => by
      rw [← mx_u, hv]
      exact zCs_we hs m v
    refine q_StpassAnHour_83 _ h (fun c => absurd c hlt) (fun _ => hv) (fun _ => hv) (fun _ _ _ _ _ => by rw [hCl'.1.2.2.1, e18]; exact z_tin hL ht) (fun _ => hv) (fun _ _ => hv) (fun _ w => ?_) (fun _ _ => hv) (fun _ w => ?_)
    · rw [ew] at w
      have w' : zDe L (zSk S) (zCe S m) (zH S) ≤ zSl S m := by
        by_cases q : zDe L (zSk S) (zCe S m) (zH S) ≤ zSl S m
        · exact q
        · rw [if_neg q] at w; exact absurd w one0
      rw [hcl, e22, nI_1, Int32.add_zero]
      refine ih (m + 1) _ (by omega) (hf.trans (zFr_I (by decide))) (hto _ ?_)
      rw [if_pos w']
      rfl
    · rw [ew] at w
      have w' : ¬ zDe L (zSk S) (zCe S m) (zH S) ≤ zSl S m := fun q => w (by rw [if_pos q])
      rw [hcl, e22, nI_1, nI_1]
      refine ih (m + 1) _ (by omega) (hf.trans (zFr_I (by decide))) (hto _ ?_)
      rw [if_neg w']
theorem zMove_sg (hL : zLok L) (hS : zSg L S) (hH : zH S < 2 ^ 29) : zSg L (zMove L S) := by
  refine ⟨by show zH S + 1 < 2 ^ 30; omega, fun m hm => ?_⟩
  obtain ⟨a, b, c⟩ := hS.2 m hm
  refine ⟨?_, b, c⟩
  show mx (zM L) _ _ m < _
  unfold mx
  rw [if_pos hm]
  exact zTo_lt hL hS hm
theorem c_StpassAnHour (hL : zLok L) (hS : zSg L S) (hH : zH S < 2 ^ 29) (h : HP) (hCl : zCl L h) (hs : zCs L S 18 h) : jC E mX5_passAnHour (n + 4) [.ref 18] h (fun v h2 => v = none ∧ zFr [18, 19, 21, 22] h h2 ∧ zCs L (zHour L S) 18 h2) := by
  have hA := hL.2.2.1
  refine jC.of (lv := [some (.ref 18), none, none]) (by decide) (Nat.le_of_ble_eq_true rfl) ⟨rfl, trivial⟩ (q_StpassAnHour_0 h ?_)
  have hs0 : zCs L (sHo S (zH S + 1)) 18 (jPI h 18 1 (h.1 18 1 + 1)) := by
    refine ⟨?_, hs.2.1, hs.2.2.1, hs.2.2.2⟩
    show h.1 18 1 + 1 = nI (zH S + 1)
    rw [hs.1, nI_1]
  refine zc_move hL hS (h0 := h) hCl (fun h1 hf1 hs1 => ?_) (zM L) 0 _ (by omega) (zFr_I (by decide)) (by rw [mx_0]; exact hs0)
  have hg := zMove_sg hL hS hH
  have hCl1 := zCl_fr hf1 (by decide) hCl
  refine ⟨_, c_SthearAndShare hL (fun m hm => by have := (hg.2 m hm).1; omega) h1 hCl1 hs1, fun v h2 hp => ?_⟩
  obtain ⟨ev, hf2, hs2⟩ := hp
  rw [ev]
  have hCl2 := zCl_fr hf2 (by decide) hCl1
  refine q_StpassAnHour_81 h2 ?_
  refine zc_wet (S := zShare L (zHear L (zMove L S))) hL hg (h0 := h2) hCl2 (fun h3 hf3 hs3 => ?_) (zM L) 0 h2 (by omega) (zFr.refl _ h2) (by rw [mx_0]; exact hs2)
  exact ⟨rfl, ((hf1.sub (by decide)).trans (hf2.sub (by decide))).trans (hf3.sub (by decide)), hs3⟩
theorem zm_move (hL : zLok L) (hS : zSg L S) {h0 : HP} (hMl : zMl L h0) (kx : ∀ h, zFr [56] h0 h → zMs L (sCe S (mx (zM L) (zTo L S (zH S + 1)) (zCe S))) (h.1 56) → jCall E mX8_hears (n + 3) [.ref 52] (jPI h 56 0 ((h.1 56 0) + 1)) (fun v h2 => jG E mX8_goesBy (n + 4) X P 126 [some (.ref 52), none, none, none, none] (v.toList ++ []) h2)) : ∀ (k m : Nat) (h : HP), m + k = zM L → zFr [56] h0 h → zMs L (sCe S (mx m (zTo L S (zH S + 1)) (zCe S))) (h.1 56) → jG E mX8_goesBy (n + 4) X P 2 [some (.ref 52), some (.int (nI m)), none, none, none] [] h := by
  have hM : zM L ≤ 4 := hL.2.2.2.2.2.1
  have hA := hL.2.2.1
  have hW := hL.1
  intro k
  induction k with
  | zero =>
    intro m h hm hf hs
    obtain rfl : m = zM L := by omega
    have e3 : h.1 52 5 = nI (zM L) := (zMl_fr hf (by decide) hMl).1.2.2.2.1
    have hle : h.1 52 5 ≤ nI (zM L) := by rw [e3]; exact Int32.le_refl _
    exact q_MogoesBy_2 _ h (fun _ => kx h hf hs) (fun c => absurd hle c) (fun c => absurd hle c) (fun c => absurd hle c) (fun c => absurd hle c) (fun c => absurd hle c) (fun c => absurd hle c) (fun c => absurd hle c) (fun c => absurd hle c) (fun c => absurd hle c) (fun c => absurd hle c) (fun c => absurd hle c) (fun c => absurd hle c) (fun c => absurd hle c) (fun c => absurd hle c) (fun c => absurd hle c) (fun c => absurd hle c) (fun c => absurd hle c) (fun c => absurd hle c) (fun c => absurd hle c) (fun c => absurd hle c) (fun c => absurd hle c) (fun c => absurd hle c)
  | succ k ih =>
    intro m h hm hf hs
    have hMl' := zMl_fr hf (by decide) hMl
    have e3 : h.1 52 5 = nI (zM L) := hMl'.1.2.2.2.1
    have hlt : ¬ h.1 52 5 ≤ nI m := by rw [e3]; exact nI_ge (by omega) (by omega)
    have hm' : m < zM L := by omega
    obtain ⟨a1, a2, a3⟩ := hS.2 m hm'
    have hW0 : 0 < zW L := by
      rcases Nat.eq_zero_or_pos (zW L) with q | q
      · have : zA L = 0 := by unfold zA; rw [q, Nat.zero_mul]
        omega
      · exact q
    have hne0 : ¬ h.1 52 0 = 0 := by rw [hMl'.1.1]; exact nI_ne0 hW0 (by omega)
    have hne4 : ¬ h.1 52 4 = 0 := by rw [hMl'.1.2.2.1]; exact nI_ne0 (by have := hL.2.2.2.2.1; omega) (by have := hL.2.2.2.2.1; omega)
    have hv0 : vp_in (2 + 6 * nI m) 62 := by rw [z_ix0]; exact z_vp (by omega) (by omega)
    have hv1 : vp_in ((2 + 6 * nI m) + 1) 62 := by rw [z_ix1]; exact z_vp (by omega) (by omega)
    have hv2 : vp_in ((2 + 6 * nI m) + 2) 62 := by rw [z_ix2]; exact z_vp (by omega) (by omega)
    have hv5 : vp_in ((2 + 6 * nI m) + 5) 62 := by rw [z_ix5]; exact z_vp (by omega) (by omega)
    have hc0 : (2 + 6 * nI m).toNatClampNeg = 2 + 6 * m := by rw [z_ix0]; exact nI_clamp (by omega)
    have hc1 : ((2 + 6 * nI m) + 1).toNatClampNeg = 3 + 6 * m := by rw [z_ix1]; exact nI_clamp (by omega)
    have hc2 : ((2 + 6 * nI m) + 2).toNatClampNeg = 4 + 6 * m := by rw [z_ix2]; exact nI_clamp (by omega)
    have hc5 : ((2 + 6 * nI m) + 5).toNatClampNeg = 7 + 6 * m := by rw [z_ix5]; exact nI_clamp (by omega)
    have esp : f_MospotOf (h.1 52 0) (h.1 56) (nI m) = nI (zCe S m) := by
      rw [hMl'.1.1, z_spot hs hM hm']
      show nI (mx m _ _ m) = _
      rw [mx_at]
    have eor : h.1 56 (7 + 6 * m) = nI (zOr S m) := (hs.2.2.2 m hm').2.2.2.2.2
    have esl : h.1 56 (4 + 6 * m) = nI (zSl S m) := (hs.2.2.2 m hm').2.2.1
    have e0 : h.1 56 0 + 1 = nI (zH S + 1) := by rw [hs.1]; exact nI_1 _
    have ht : zH S + 1 < 2 ^ 31 := by have := hS.1; omega
    obtain ⟨l1, l2, l3⟩ := z_led hL a1 a3
    have hl : ∀ q : ¬ f_Moled (nI (zW L)) (nI (zG L)) (nI (zCe S m)) (nI (zOr S m)) = -1, ∃ d, d < 36 ∧ f_Moled (nI (zW L)) (nI (zG L)) (nI (zCe S m)) (nI (zOr S m)) = nI d := fun q => by
      rw [l1] at q ⊢
      rcases l3 with l3 | l3
      · exact absurd (by rw [l3]; rfl) q
      · exact ⟨_, by omega, (zI_in (by omega)).1⟩
    have hwm := z_wayM hL hMl'.2.1 hMl'.2.2.1 (K := zSk S) hs.2.2.1 (t := zH S + 1) (l := zSl S m) a1 a3 a2 ht
    have hto : ∀ v : Nat, zTo L S (zH S + 1) m = v → zMs L (sCe S (mx (m + 1) (zTo L S (zH S + 1)) (zCe S))) (upd (upd (h.1 56) (2 + 6 * m) (nI (v % zW L))) (3 + 6 * m) (nI (v / zW L))) := fun v hv => by
      rw [← mx_u, hv]
      exact zMs_ce hs (by omega) v
    refine q_MogoesBy_2 _ h (fun c => absurd c hlt) (fun _ => hv5) (fun _ => hv1) (fun _ => hv0) (fun _ => hv2) (fun _ => hne0) (fun _ _ => hne0) (fun _ _ _ => hne0) (fun _ _ _ => hne0) (fun _ _ => ?_) (fun _ _ _ => hne4) (fun _ _ _ => ?_) (fun _ _ => ?_) (fun _ w => ?_) (fun _ _ => hne0) (fun _ _ _ => hne0) (fun _ _ _ _ => hne0) (fun _ _ _ _ => hne0) (fun _ _ => hne0) (fun _ _ => hv0) (fun _ _ => hne0) (fun _ _ => hv1) (fun _ w => ?_)
    · rw [esp, hc5, eor, hMl'.1.1, hMl'.1.2.1]
      intro q
      obtain ⟨d, hd, ed⟩ := hl q
      rw [ed]; exact z_vp hd (by omega)
    · rw [e0, hMl'.1.2.2.1]; exact z_tinM hL ht
    · rw [esp, hc5, eor, hMl'.1.1, hMl'.1.2.1]
      intro q
      obtain ⟨d, hd, ed⟩ := hl q
      rw [ed, z_26]; exact z_vp (by omega) (by omega)
    · rw [esp, hc5, hc2, eor, esl, e0, hMl'.1.1, hMl'.1.2.1, hMl'.1.2.2.1] at w
      rw [nI_1]
      refine ih (m + 1) h (by omega) hf ?_
      rcases hwm with ⟨q, _⟩ | ⟨_, q, _⟩
      · have hz : zTo L S (zH S + 1) m = zCe S m := by unfold zTo; rw [if_pos q]
        rw [← mx_u, hz]
        have : up1 m (zCe S m) (mx m (zTo L S (zH S + 1)) (zCe S)) = mx m (zTo L S (zH S + 1)) (zCe S) := by
          rw [← mz_b, mz_u]
        rw [this]
        exact hs
      · rw [q] at w; exact absurd w one0
    · rw [esp, hc5, hc2, eor, esl, e0, hMl'.1.1, hMl'.1.2.1, hMl'.1.2.2.1] at w
      rcases hwm with ⟨_, q⟩ | ⟨q1, _, q2⟩
      · exact absurd q w
      · rw [nI_1, esp, hc5, eor, hMl'.1.1, hMl'.1.2.1, q2, hc0, hc1, pk_rem (by omega) hW0 (by omega), pk_div (by omega) hW0 (by omega)]
        refine ih (m + 1) _ (by omega) (hf.trans ((zFr_I (by decide)).trans (zFr_I (by decide)))) ?_
        refine hto _ ?_
        unfold zTo
        rw [if_neg (by omega)]
theorem zm_wet (hL : zLok L) (hS : zSg L S) {h0 : HP} (hMl : zMl L h0) (kx : ∀ h, zFr [56] h0 h → zMs L (zWet L S) (h.1 56) → P none h) : ∀ (k m : Nat) (h : HP), m + k = zM L → zFr [56] h0 h → zMs L (sWe S (mx m (fun m => zWe S m + if zDe L (zSk S) (zCe S m) (zH S) ≤ zSl S m then 0 else 1) (zWe S))) (h.1 56) → jG E mX8_goesBy (n + 4) X P 128 [some (.ref 52), some (.int (nI m)), none, none, none] [] h := by
  have hM : zM L ≤ 4 := hL.2.2.2.2.2.1
  have hA := hL.2.2.1
  intro k
  induction k with
  | zero =>
    intro m h hm hf hs
    obtain rfl : m = zM L := by omega
    have e3 : h.1 52 5 = nI (zM L) := (zMl_fr hf (by decide) hMl).1.2.2.2.1
    have hle : h.1 52 5 ≤ nI (zM L) := by rw [e3]; exact Int32.le_refl _
    exact q_MogoesBy_128 _ h (fun _ => kx h hf hs) (fun c => absurd hle c) (fun c => absurd hle c) (fun c => absurd hle c) (fun c => absurd hle c) (fun c => absurd hle c) (fun c => absurd hle c) (fun c => absurd hle c) (fun c => absurd hle c) (fun c => absurd hle c) (fun c => absurd hle c) (fun c => absurd hle c) (fun c => absurd hle c)
  | succ k ih =>
    intro m h hm hf hs
    have hMl' := zMl_fr hf (by decide) hMl
    have e3 : h.1 52 5 = nI (zM L) := hMl'.1.2.2.2.1
    have hlt : ¬ h.1 52 5 ≤ nI m := by rw [e3]; exact nI_ge (by omega) (by omega)
    have hm' : m < zM L := by omega
    obtain ⟨a1, a2, a3⟩ := hS.2 m hm'
    have hne4 : ¬ h.1 52 4 = 0 := by rw [hMl'.1.2.2.1]; exact nI_ne0 (by have := hL.2.2.2.2.1; omega) (by have := hL.2.2.2.2.1; omega)
    have hv0 : vp_in (2 + 6 * nI m) 62 := by rw [z_ix0]; exact z_vp (by omega) (by omega)
    have hv1 : vp_in ((2 + 6 * nI m) + 1) 62 := by rw [z_ix1]; exact z_vp (by omega) (by omega)
    have hv2 : vp_in ((2 + 6 * nI m) + 2) 62 := by rw [z_ix2]; exact z_vp (by omega) (by omega)
    have hv4 : vp_in ((2 + 6 * nI m) + 4) 62 := by rw [z_ix4]; exact z_vp (by omega) (by omega)
    have hc2 : ((2 + 6 * nI m) + 2).toNatClampNeg = 4 + 6 * m := by rw [z_ix2]; exact nI_clamp (by omega)
    have hc4 : ((2 + 6 * nI m) + 4).toNatClampNeg = 6 + 6 * m := by rw [z_ix4]; exact nI_clamp (by omega)
    have esp : f_MospotOf (h.1 52 0) (h.1 56) (nI m) = nI (zCe S m) := by rw [hMl'.1.1, z_spot hs hM hm']; rfl
    have esl : h.1 56 (4 + 6 * m) = nI (zSl S m) := (hs.2.2.2 m hm').2.2.1
    have ewe : h.1 56 (6 + 6 * m) = nI (zWe S m) := by
      rw [show h.1 56 (6 + 6 * m) = nI (mx m (fun m => zWe S m + if zDe L (zSk S) (zCe S m) (zH S) ≤ zSl S m then 0 else 1) (zWe S) m) from (hs.2.2.2 m hm').2.2.2.2.1, mx_at]
    have e0 : h.1 56 0 = nI (zH S) := hs.1
    have ht : zH S < 2 ^ 31 := by have := hS.1; omega
    have hd := z_depthM hL hMl'.2.1 hMl'.2.2.1 (k := zSk S) hs.2.2.1 (c := zCe S m) (t := zH S) (by omega) ht
    have hle := zDe_le hL (zSk S) (c := zCe S m) (t := zH S) (by omega)
    have ew : f_MoisWet (h.1 52 0) (h.1 52 4) (h.1 53) (h.1 54) (h.1 56) (nI m) = if zDe L (zSk S) (zCe S m) (zH S) ≤ zSl S m then 0 else 1 := by
      unfold f_MoisWet
      rw [esp, e0, hMl'.1.2.2.1, hd, hc2, esl]
      by_cases q : zDe L (zSk S) (zCe S m) (zH S) ≤ zSl S m
      · rw [if_pos q, if_pos (nI_le q (by omega))]
      · rw [if_neg q, if_neg (nI_ge (by omega) (by omega))]
    have hto : ∀ v : Nat, zWe S m + (if zDe L (zSk S) (zCe S m) (zH S) ≤ zSl S m then 0 else 1) = v → zMs L (sWe S (mx (m + 1) (fun m => zWe S m + if zDe L (zSk S) (zCe S m) (zH S) ≤ zSl S m then 0 else 1) (zWe S))) (upd (h.1 56) (6 + 6 * m) (nI v)) := fun v hv => by
      rw [← mx_u, hv]
      exact zMs_we hs (by omega) v
    refine q_MogoesBy_128 _ h (fun c => absurd c hlt) (fun _ => hv4) (fun _ => hv1) (fun _ => hv0) (fun _ => by rw [esp]; exact z_vp (by omega) (by omega)) (fun _ => hne4) (fun _ => by rw [e0, hMl'.1.2.2.1]; exact z_tinM hL ht) (fun _ => by rw [esp, z_26]; exact z_vp (by omega) (by omega)) (fun _ => hv2) (fun _ _ => hv4) (fun _ w => ?_) (fun _ _ => hv4) (fun _ w => ?_)
    · rw [ew] at w
      have w' : zDe L (zSk S) (zCe S m) (zH S) ≤ zSl S m := by
        by_cases q : zDe L (zSk S) (zCe S m) (zH S) ≤ zSl S m
        · exact q
        · rw [if_neg q] at w; exact absurd w one0
      rw [hc4, ewe, nI_1, Int32.add_zero]
      refine ih (m + 1) _ (by omega) (hf.trans (zFr_I (by decide))) (hto _ ?_)
      rw [if_pos w']
      rfl
    · rw [ew] at w
      have w' : ¬ zDe L (zSk S) (zCe S m) (zH S) ≤ zSl S m := fun q => w (by rw [if_pos q])
      rw [hc4, ewe, nI_1, nI_1]
      refine ih (m + 1) _ (by omega) (hf.trans (zFr_I (by decide))) (hto _ ?_)
      rw [if_neg w']
theorem c_MogoesBy (hL : zLok L) (hS : zSg L S) (hH : zH S < 2 ^ 29) (h : HP) (hMl : zMl L h) (hs : zMs L S (h.1 56)) : jC E mX8_goesBy (n + 4) [.ref 52] h (fun v h2 => v = none ∧ zFr [56] h h2 ∧ zMs L (zHour L S) (h2.1 56)) := by
  have hA := hL.2.2.1
  refine jC.of (lv := [some (.ref 52), none, none, none, none]) (by decide) (Nat.le_of_ble_eq_true rfl) ⟨rfl, trivial⟩ (q_MogoesBy_0 h ?_)
  refine zm_move hL hS (h0 := h) hMl (fun h1 hf1 hs1 => ?_) (zM L) 0 _ (by omega) (zFr.refl _ h) (by rw [mx_0]; exact hs)
  have hg := zMove_sg hL hS hH
  have hf1' : zFr [56] h (jPI h1 56 0 (h1.1 56 0 + 1)) := hf1.trans (zFr_I (by decide))
  have hMl1 := zMl_fr hf1' (by decide) hMl
  have hs1' : zMs L (zMove L S) ((jPI h1 56 0 (h1.1 56 0 + 1)).1 56) := by
    have := zMs_ho hs1 (zH S + 1)
    show zMs L _ (upd (h1.1 56) 0 (h1.1 56 0 + 1))
    rw [show h1.1 56 0 = nI (zH S) from hs1.1, nI_1]
    exact this
  refine ⟨_, c_Mohears hL (fun m hm => by have := (hg.2 m hm).1; omega) _ hMl1 hs1', fun v h2 hp => ?_⟩
  obtain ⟨ev, hf2, hs2⟩ := hp
  rw [ev]
  have hMl2 := zMl_fr hf2 (by decide) hMl1
  refine q_MogoesBy_126 h2 ?_
  refine zm_wet (S := zShare L (zHear L (zMove L S))) hL hg (h0 := h2) hMl2 (fun h3 hf3 hs3 => ?_) (zM L) 0 h2 (by omega) (zFr.refl _ h2) (by rw [mx_0]; exact hs2)
  exact ⟨rfl, (hf1'.trans hf2).trans hf3, hs3⟩
end HO
