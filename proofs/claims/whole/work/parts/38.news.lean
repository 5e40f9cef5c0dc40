/-! ===== who can be where with a news ===== -/
def zMt (L : ZL) (k : Nat) (A W : Nat → Nat → Bool) (m c : Nat) : Bool := W m c || (A m c && (decide (c = zP L k) || zAny (fun i => W i c) (zM L)))
def zW0 (S : ZS) (k m c : Nat) : Bool := (zKn S m).testBit k && decide (c = zCe S m)
def zWi (L : ZL) (S : ZS) (k : Nat) : Nat → Nat → Nat → Bool
  | 0 => zMt L k (fun m => zRe L S m 0) (zW0 S k)
  | n + 1 => zMt L k (fun m => zRe L S m (n + 1)) (fun m => zSt L (zSk S) (zSl S m) (zH S + (n + 1)) (zWi L S k n m))
theorem zMt_sup {L : ZL} {k : Nat} {A W : Nat → Nat → Bool} {m : Nat} (hA : zSup L (A m)) (hW : zSup L (W m)) : zSup L (zMt L k A W m) := fun c h => by
  have h' : (W m c || (A m c && (decide (c = zP L k) || zAny (fun i => W i c) (zM L)))) = true := h
  rw [Bool.or_eq_true, Bool.and_eq_true] at h'
  rcases h' with q | ⟨q, _⟩
  · exact hW c q
  · exact hA c q
theorem zW0_sup {L : ZL} {S : ZS} (hS : zSh L S) {k m : Nat} (hm : m < zM L) : zSup L (zW0 S k m) := fun c h => by
  have h' : ((zKn S m).testBit k && decide (c = zCe S m)) = true := h
  rw [Bool.and_eq_true] at h'
  rw [of_decide_eq_true h'.2]; exact (hS.2.2 m hm).1
theorem zWi_sup {L : ZL} {S : ZS} (hS : zSh L S) {k m : Nat} (hm : m < zM L) : ∀ n, zSup L (zWi L S k n m)
  | 0 => zMt_sup (zRe_sup hS hm 0) (zW0_sup hS hm)
  | n + 1 => zMt_sup (zRe_sup hS hm (n + 1)) (zSt_sup _ _ _ _ _)
/-- rows of sets -/
def zBs (M b : Nat) (F : Nat → Nat → Bool) (h : HP) : Prop := ∀ m, m < M → zB (h.2 b m) (F m)
def mxB (a : Nat) (F G : Nat → Nat → Bool) : Nat → Nat → Bool := fun m => if m < a then F m else G m
theorem jPL_row (h : HP) (k j : Nat) (x : Int64) : (jPL h k j x).2 k = vp_updL (h.2 k) j x := by simp [jPL, va_up]
theorem jPL_oth (h : HP) (k j : Nat) (x : Int64) {i : Nat} (hi : i ≠ k) : (jPL h k j x).2 i = h.2 i := by simp [jPL, va_up, hi]
theorem zBs_oth {M b : Nat} {F : Nat → Nat → Bool} {h : HP} (q : zBs M b F h) {k j : Nat} {x : Int64} (hb : b ≠ k) : zBs M b F (jPL h k j x) := fun m hm => by rw [jPL_oth h k j x hb]; exact q m hm
theorem zBs_put {M b a : Nat} {F G : Nat → Nat → Bool} {h : HP} (q : zBs M b (mxB a F G) h) {x : Int64} (hx : zB x (F a)) : zBs M b (mxB (a + 1) F G) (jPL h b a x) := fun m hm => by
  rw [jPL_row]
  unfold vp_updL mxB
  have h1 := q m hm
  unfold mxB at h1
  by_cases e : m = a
  · rw [if_pos e, if_pos (by omega), e]; exact hx
  · rw [if_neg e]
    by_cases e2 : m < a
    · rw [if_pos (by omega)]; rw [if_pos e2] at h1; exact h1
    · rw [if_neg (by omega)]; rw [if_neg e2] at h1; exact h1
theorem zBs_end {M b : Nat} {F G : Nat → Nat → Bool} {h : HP} (q : zBs M b (mxB M F G) h) : zBs M b F h := fun m hm => by
  have h1 := q m hm
  unfold mxB at h1
  rw [if_pos hm] at h1
  exact h1
theorem zBs_beg {M b : Nat} {F G : Nat → Nat → Bool} {h : HP} (q : zBs M b G h) : zBs M b (mxB 0 F G) h := fun m hm => by
  unfold mxB
  rw [if_neg (by omega)]
  exact q m hm
theorem zBs_at {M b a : Nat} {F G : Nat → Nat → Bool} {h : HP} (q : zBs M b (mxB a F G) h) (ha : a < M) : zB (h.2 b a) (G a) := by
  have h1 := q a ha
  unfold mxB at h1
  rw [if_neg (by omega)] at h1
  exact h1
theorem zBs_fr {M b : Nat} {F : Nat → Nat → Bool} {l : List Nat} {h h2 : HP} (hf : zFr l h h2) (hb : b ∉ l) (q : zBs M b F h) : zBs M b F h2 := fun m hm => by rw [(hf b hb).2]; exact q m hm
theorem zBs_eq {M b : Nat} {F G : Nat → Nat → Bool} {h : HP} (q : zBs M b F h) (e : ∀ m, m < M → ∀ c, c < 64 → F m c = G m c) : zBs M b G h := fun m hm => zB_eq (q m hm) (e m hm)
/-- no set is known yet -/
def zBf (M b : Nat) (a : Nat) (F : Nat → Nat → Bool) (h : HP) : Prop := ∀ m, m < M → m < a → zB (h.2 b m) (F m)
theorem zBf_put {M b a : Nat} {F : Nat → Nat → Bool} {h : HP} (q : zBf M b a F h) {x : Int64} (hx : zB x (F a)) : zBf M b (a + 1) F (jPL h b a x) := fun m hm h2 => by
  rw [jPL_row]
  unfold vp_updL
  by_cases e : m = a
  · rw [if_pos e, e]; exact hx
  · rw [if_neg e]; exact q m hm (by omega)
theorem zBf_oth {M b a : Nat} {F : Nat → Nat → Bool} {h : HP} (q : zBf M b a F h) {k j : Nat} {x : Int64} (hb : b ≠ k) : zBf M b a F (jPL h k j x) := fun m hm h2 => by rw [jPL_oth h k j x hb]; exact q m hm h2
def zNw (L : ZL) (S : ZS) (k i b1 b2 : Nat) (h : HP) : Prop := zBs (zM L) b1 (fun m => zRe L S m i) h ∧ zBs (zM L) b2 (zWi L S k i) h
theorem z_knC : ∀ a, a < 16 → ∀ k, k < 4 → f_Shhas ((nI a).toInt64) (nI k) = if a.testBit k = true then 1 else 0 := by decide +kernel
theorem z_knM : ∀ a, a < 16 → ∀ k, k < 4 → (((nI a >>> (nI k &&& 31)) &&& 1) = 1 ↔ a.testBit k = true) := by decide +kernel
theorem z_kn16 {L : ZL} (hL : zLok L) {a : Nat} (h : a < 2 ^ zN L) : a < 16 := by
  have hN := hL.2.2.2.2.2.2.1
  have : 2 ^ zN L ≤ 2 ^ 4 := Nat.pow_le_pow_right (by omega) hN
  omega
theorem z_cas {L : ZL} (hL : zLok L) : zC L < 64 := by
  have hA := hL.2.2.1
  rcases Nat.eq_zero_or_pos (zW L) with q | q
  · have := (hL.2.2.2.2.2.2.2.1 q).1; omega
  · have := hL.2.2.2.2.2.2.2.2.1 q; omega
theorem zFi_no {p : Nat → Bool} : ∀ (k i : Nat), (∀ j, i ≤ j → j < i + k → p j = false) → zFi p k i = -1
  | 0, i, _ => rfl
  | k + 1, i, h => by rw [zFi_n (h i (by omega) (by omega)), zFi_no k (i + 1) (fun j h1 h2 => h j (by omega) (by omega))]
theorem zFi_yes {p : Nat → Bool} : ∀ (k i : Nat), (∃ j, i ≤ j ∧ j < i + k ∧ p j = true) → ∃ j, i ≤ j ∧ j < i + k ∧ p j = true ∧ zFi p k i = nI j ∧ ∀ t, i ≤ t → t < j → p t = false
  | 0, i, ⟨j, h1, h2, _⟩ => absurd h2 (by omega)
  | k + 1, i, ⟨j, h1, h2, h3⟩ => by
    cases q : p i
    · rw [zFi_n q]
      have hj : j ≠ i := fun e => by rw [e, q] at h3; cases h3
      obtain ⟨t, t1, t2, t3, t4, t5⟩ := zFi_yes k (i + 1) ⟨j, by omega, by omega, h3⟩
      refine ⟨t, by omega, by omega, t3, t4, fun u u1 u2 => ?_⟩
      by_cases e : u = i
      · rw [e]; exact q
      · exact t5 u (by omega) u2
    · exact ⟨i, by omega, by omega, q, zFi_y q, fun t t1 t2 => absurd t2 (by omega)⟩
theorem zFi_m1 {p : Nat → Bool} {n : Nat} (hn : n < 2 ^ 31) : (zFi p n 0 = -1 ↔ zAny p n = false) := by
  constructor
  · intro h
    cases q : zAny p n
    · rfl
    · obtain ⟨j, h1, h2⟩ := zAny_iff.mp q
      obtain ⟨t, t1, t2, t3, t4, _⟩ := zFi_yes (p := p) n 0 ⟨j, by omega, by omega, h2⟩
      rw [t4] at h
      exact absurd h (nI_neg1 (by omega))
  · intro h
    refine zFi_no n 0 (fun j _ h2 => ?_)
    cases q : p j
    · rfl
    · rw [zAny_iff.mpr ⟨j, by omega, q⟩] at h; cases h
/-- the castle is come to at an hour -/
def zGo (L : ZL) (S : ZS) (k i : Nat) : Bool := zAny (fun m => zWi L S k i m (zC L)) (zM L)
def zBy (L : ZL) (S : ZS) (k i : Nat) : Int32 := zFi (fun m => zWi L S k i m (zC L)) (zM L) 0
section NW
variable {E : jEnv} {n : Nat} {X : State → Prop} {P : Option Value → HP → Prop} {L : ZL} {S : ZS} {k : Nat}
theorem c_Olmeet (hL : zLok L) (hk : k < zN L) {A W : Nat → Nat → Bool} (h : HP) (hCl : zCl L h) (hA : zBs (zM L) 26 A h) (hW : zBs (zM L) 27 W h) : jC E mX4_meet n [.ref 24, .int (nI k)] h (fun v h2 => v = none ∧ zFr [27] h h2 ∧ zBs (zM L) 27 (zMt L k A W) h2) := by
  have hM : zM L ≤ 4 := hL.2.2.2.2.2.1
  have hN : zN L ≤ 4 := hL.2.2.2.2.2.2.1
  have hA36 := hL.2.2.1
  have hp36 := hL.2.2.2.2.2.2.2.2.2.2.2 k hk
  refine jC.of (lv := [some (.ref 24), some (.int (nI k)), none, none, none]) (by decide) (Nat.le_of_ble_eq_true rfl) ⟨rfl, rfl, trivial⟩ (q_Olmeet_0 _ h (z_vp (by omega) (by omega)) ?_)
  rw [nI_clamp (by omega), hCl.2.2.2.1 k hk]
  have l2 : ∀ (x : Int64), zB x (fun c => decide (c = zP L k) || zAny (fun i => W i c) (zM L)) → ∀ (q a : Nat) (h' : HP), a + q = zM L → zFr [27] h h' → zBs (zM L) 27 (mxB a (zMt L k A W) W) h' → jG E mX4_meet n (fun _ => True) (fun v h2 => v = none ∧ zFr [27] h h2 ∧ zBs (zM L) 27 (zMt L k A W) h2) 46 [some (.ref 24), none, some (.long x), none, some (.int (nI a))] [] h' := by
    intro x hx q
    induction q with
    | zero =>
      intro a h' ha hf hs
      obtain rfl : a = zM L := by omega
      have hle : h'.1 3 3 ≤ nI (zM L) := by rw [(zCl_fr hf (by decide) hCl).1.2.2.2.1]; exact Int32.le_refl _
      exact q_Olmeet_46 _ _ h' (fun _ => ⟨rfl, hf, zBs_end hs⟩) (fun c => absurd hle c) (fun c => absurd hle c) (fun c => absurd hle c) (fun c => absurd hle c)
    | succ q ih =>
      intro a h' ha hf hs
      have hlt : ¬ h'.1 3 3 ≤ nI a := by rw [(zCl_fr hf (by decide) hCl).1.2.2.2.1]; exact nI_ge (by omega) (by omega)
      have hv : vp_in (nI a) 4 := z_vp (by omega) (by omega)
      refine q_Olmeet_46 _ _ h' (fun c => absurd c hlt) (fun _ => hv) (fun _ => hv) (fun _ => hv) (fun _ => ?_)
      rw [nI_clamp (by omega), nI_1]
      refine ih (a + 1) _ (by omega) (hf.trans (zFr_L (by decide))) (zBs_put hs ?_)
      exact zB_or (zBs_at hs (by omega)) (zB_and (zBs_fr hf (by decide) hA a (by omega)) hx)
  have l1 : ∀ (q a : Nat) (x : Int64), a + q = zM L → zB x (fun c => decide (c = zP L k) || zAny (fun i => W i c) a) → jG E mX4_meet n (fun _ => True) (fun v h2 => v = none ∧ zFr [27] h h2 ∧ zBs (zM L) 27 (zMt L k A W) h2) 15 [some (.ref 24), none, some (.long x), none, some (.int (nI a))] [] h := by
    intro q
    induction q with
    | zero =>
      intro a x ha hx
      obtain rfl : a = zM L := by omega
      have hle : h.1 3 3 ≤ nI (zM L) := by rw [hCl.1.2.2.2.1]; exact Int32.le_refl _
      exact q_Olmeet_15 _ _ h (fun _ => l2 x hx (zM L) 0 h (by omega) (zFr.refl _ h) (zBs_beg hW)) (fun c => absurd hle c) (fun c => absurd hle c)
    | succ q ih =>
      intro a x ha hx
      have hlt : ¬ h.1 3 3 ≤ nI a := by rw [hCl.1.2.2.2.1]; exact nI_ge (by omega) (by omega)
      refine q_Olmeet_15 _ _ h (fun c => absurd c hlt) (fun _ => z_vp (by omega) (by omega)) (fun _ => ?_)
      rw [nI_clamp (by omega), nI_1]
      refine ih (a + 1) _ (by omega) (zB_eq (zB_or hx (hW a (by omega))) (fun c _ => ?_))
      show _ = (decide (c = zP L k) || (zAny (fun i => W i c) a || W a c))
      rw [Bool.or_assoc]
  refine l1 (zM L) 0 _ (by omega) (zB_eq (zB_one (show zP L k < 64 by omega)) (fun c _ => ?_))
  show _ = (decide (c = zP L k) || false)
  rw [Bool.or_false]
theorem c_OlbeginWith (hL : zLok L) (hS : zSh L S) (hk : k < zN L) (h : HP) (hCl : zCl L h) (hO : zOl L S h) : jC E mX4_beginWith (n + 1) [.ref 24, .int (nI k)] h (fun v h2 => v = none ∧ zFr [26, 27] h h2 ∧ zNw L S k 0 26 27 h2) := by
  have hM : zM L ≤ 4 := hL.2.2.2.2.2.1
  have hN : zN L ≤ 4 := hL.2.2.2.2.2.2.1
  have hA36 := hL.2.2.1
  refine jC.of (lv := [some (.ref 24), some (.int (nI k)), none]) (by decide) (Nat.le_of_ble_eq_true rfl) ⟨rfl, rfl, trivial⟩ (q_OlbeginWith_0 _ h ?_)
  have main : ∀ (q a : Nat) (h' : HP), a + q = zM L → zFr [26, 27] h h' → zBf (zM L) 26 a (fun m => zRe L S m 0) h' → zBf (zM L) 27 a (zW0 S k) h' → jG E mX4_beginWith (n + 1) (fun _ => True) (fun v h2 => v = none ∧ zFr [26, 27] h h2 ∧ zNw L S k 0 26 27 h2) 2 [some (.ref 24), some (.int (nI k)), some (.int (nI a))] [] h' := by
    intro q
    induction q with
    | zero =>
      intro a h' ha hf h1 h2
      obtain rfl : a = zM L := by omega
      have hCl' := zCl_fr hf (by decide) hCl
      have hle : h'.1 3 3 ≤ nI (zM L) := by rw [hCl'.1.2.2.2.1]; exact Int32.le_refl _
      have hs1 : zBs (zM L) 26 (fun m => zRe L S m 0) h' := fun m hm => h1 m hm hm
      refine q_OlbeginWith_2 _ _ h' (fun _ => ?_) (fun c => absurd hle c) (fun c => absurd hle c) (fun c => absurd hle c) (fun c => absurd hle c) (fun c => absurd hle c) (fun c => absurd hle c) (fun c => absurd hle c) (fun c => absurd hle c)
      refine ⟨_, c_Olmeet hL hk h' hCl' hs1 (fun m hm => h2 m hm hm), fun v h3 hp => ?_⟩
      obtain ⟨ev, hf3, hs3⟩ := hp
      rw [ev]
      exact q_OlbeginWith_74 h3 ⟨rfl, hf.trans (hf3.sub (by decide)), zBs_fr hf3 (by decide) hs1, hs3⟩
    | succ q ih =>
      intro a h' ha hf h1 h2
      have hCl' := zCl_fr hf (by decide) hCl
      have hO' := zOl_fr hf (by decide) hO
      have hlt : ¬ h'.1 3 3 ≤ nI a := by rw [hCl'.1.2.2.2.1]; exact nI_ge (by omega) (by omega)
      have hv : vp_in (nI a) 4 := z_vp (by omega) (by omega)
      obtain ⟨o1, o2, o3⟩ := hO'.2.2 a (by omega)
      obtain ⟨s1, s2, s3⟩ := hS.2.2 a (by omega)
      have hcl : (nI a).toNatClampNeg = a := nI_clamp (by omega)
      have hone : zB (1 <<< ((nI (zCe S a)).toInt64 &&& 63)) (zRe L S a 0) := zB_one (by omega)
      have hh : f_Shhas ((h'.1 21 (nI a).toNatClampNeg).toInt64) (nI k) = if (zKn S a).testBit k = true then 1 else 0 := by
        rw [hcl, o2, z_knC _ (z_kn16 hL s3) k (by omega)]
      refine q_OlbeginWith_2 _ _ h' (fun c => absurd c hlt) (fun _ => hv) (fun _ => hv) (fun _ => hv) (fun _ _ => hv) (fun _ w => ?_) (fun _ _ => hv) (fun _ _ => hv) (fun _ w => ?_)
      · rw [hh] at w
        have hb : (zKn S a).testBit k = false := by
          cases r : (zKn S a).testBit k
          · rfl
          · rw [r, if_pos rfl] at w; exact absurd w one0
        rw [hcl, o1, nI_1]
        refine ih (a + 1) _ (by omega) (hf.trans ((zFr_L (by decide)).trans (zFr_L (by decide)))) (zBf_oth (zBf_put h1 hone) (by decide)) (zBf_put (zBf_oth h2 (by decide)) (zB_eq zB_0 (fun c _ => ?_)))
        show false = ((zKn S a).testBit k && decide (c = zCe S a))
        rw [hb, Bool.false_and]
      · rw [hh] at w
        have hb : (zKn S a).testBit k = true := by
          cases r : (zKn S a).testBit k
          · rw [r] at w; exact absurd rfl w
          · rfl
        rw [hcl, o1, nI_1]
        refine ih (a + 1) _ (by omega) (hf.trans ((zFr_L (by decide)).trans (zFr_L (by decide)))) (zBf_oth (zBf_put h1 hone) (by decide)) (zBf_put (zBf_oth h2 (by decide)) (zB_eq hone (fun c _ => ?_)))
        show decide (c = zCe S a) = ((zKn S a).testBit k && decide (c = zCe S a))
        rw [hb, Bool.true_and]
  exact main (zM L) 0 h (by omega) (zFr.refl _ h) (fun m hm h2 => absurd h2 (by omega)) (fun m hm h2 => absurd h2 (by omega))
theorem c_OlgoOnWith (hL : zLok L) (hS : zSh L S) (hk : k < zN L) {i : Nat} (hi : i < 2 ^ 28) (h : HP) (hCl : zCl L h) (hO : zOl L S h) (hN : zNw L S k i 26 27 h) : jC E mX4_goOnWith (n + 1) [.ref 24, .int (nI k), .int (nI (i + 1))] h (fun v h2 => v = none ∧ zFr [26, 27] h h2 ∧ zNw L S k (i + 1) 26 27 h2) := by
  have hM : zM L ≤ 4 := hL.2.2.2.2.2.1
  have hH := hS.1
  refine jC.of (lv := [some (.ref 24), some (.int (nI k)), some (.int (nI (i + 1))), none, none, none, none]) (by decide) (Nat.le_of_ble_eq_true rfl) ⟨rfl, rfl, rfl, trivial⟩ (q_OlgoOnWith_0 _ _ h ?_)
  rw [hO.1, nI_add]
  have main : ∀ (q a : Nat) (h' : HP), a + q = zM L → zFr [26, 27] h h' → zBs (zM L) 26 (mxB a (fun m => zRe L S m (i + 1)) (fun m => zRe L S m i)) h' → zBs (zM L) 27 (mxB a (fun m => zSt L (zSk S) (zSl S m) (zH S + (i + 1)) (zWi L S k i m)) (zWi L S k i)) h' → jG E mX4_goOnWith (n + 1) (fun _ => True) (fun v h2 => v = none ∧ zFr [26, 27] h h2 ∧ zNw L S k (i + 1) 26 27 h2) 20 [some (.ref 24), some (.int (nI k)), none, some (.int (f_LdtideOf (h.1 3 2) (nI (zH S + (i + 1))))), some (.int (nI a)), none, none] [] h' := by
    intro q
    induction q with
    | zero =>
      intro a h' ha hf h1 h2
      obtain rfl : a = zM L := by omega
      have hCl' := zCl_fr hf (by decide) hCl
      have hle : h'.1 3 3 ≤ nI (zM L) := by rw [hCl'.1.2.2.2.1]; exact Int32.le_refl _
      refine q_OlgoOnWith_20 _ _ _ h' (fun _ => ?_) (fun c => absurd hle c) (fun c => absurd hle c) (fun c => absurd hle c) (fun c => absurd hle c) (fun c => absurd hle c) (fun c => absurd hle c)
      refine ⟨_, c_Olmeet hL hk h' hCl' (zBs_end h1) (zBs_end h2), fun v h3 hp => ?_⟩
      obtain ⟨ev, hf3, hs3⟩ := hp
      rw [ev]
      exact q_OlgoOnWith_111 h3 ⟨rfl, hf.trans (hf3.sub (by decide)), zBs_fr hf3 (by decide) (zBs_end h1), hs3⟩
    | succ q ih =>
      intro a h' ha hf h1 h2
      have hCl' := zCl_fr hf (by decide) hCl
      have hO' := zOl_fr hf (by decide) hO
      have hlt : ¬ h'.1 3 3 ≤ nI a := by rw [hCl'.1.2.2.2.1]; exact nI_ge (by omega) (by omega)
      have hv : vp_in (nI a) 4 := z_vp (by omega) (by omega)
      have hcl : (nI a).toNatClampNeg = a := nI_clamp (by omega)
      obtain ⟨s1, s2, s3⟩ := hS.2.2 a (by omega)
      have e32 : h.1 3 2 = h'.1 3 2 := by rw [(hf 3 (by decide)).1]
      have ham : a < zM L := by omega
      refine q_OlgoOnWith_20 _ _ _ h' (fun c => absurd c hlt) (fun _ => hv) (fun _ => hv) (fun _ => hv) (fun _ => hv) (fun _ => hv) (fun _ => ?_)
      rw [hcl, (hO'.2.2 a ham).2.2, nI_1]
      refine ih (a + 1) _ (by omega) (hf.trans ((zFr_L (by decide)).trans (zFr_L (by decide)))) (zBs_oth (zBs_put h1 ?_) (by decide)) (zBs_put (zBs_oth h2 (by decide)) ?_)
      · rw [e32]
        exact zc_step hL hCl' hO'.2.1 hS.2.1 s2 (by omega) (zBs_at h1 ham) (zRe_sup hS ham i)
      · rw [e32]
        exact zc_step hL hCl' hO'.2.1 hS.2.1 s2 (by omega) (zBs_at h2 ham) (zWi_sup hS ham i)
  exact main (zM L) 0 h (by omega) (zFr.refl _ h) (zBs_beg hN.1) (zBs_beg hN.2)
theorem c_Olbearer (hL : zLok L) {i : Nat} (h : HP) (hCl : zCl L h) (hW : zBs (zM L) 27 (zWi L S k i) h) : jC E mX4_bearer (n + 1) [.ref 24] h (fun v h2 => v = some (.int (zBy L S k i)) ∧ h2 = h) := by
  have hM : zM L ≤ 4 := hL.2.2.2.2.2.1
  have hc := z_cas hL
  have e3 := hCl.1.2.2.2.1
  refine jC.of (lv := [some (.ref 24), none]) (by decide) (Nat.le_of_ble_eq_true rfl) ⟨rfl, trivial⟩ (q_Olbearer_0 h ?_)
  have main : ∀ (q a : Nat), a + q = zM L → zBy L S k i = zFi (fun m => zWi L S k i m (zC L)) q a → jG E mX4_bearer (n + 1) (fun _ => True) (fun v h2 => v = some (.int (zBy L S k i)) ∧ h2 = h) 2 [some (.ref 24), some (.int (nI a))] [] h := by
    intro q
    induction q with
    | zero =>
      intro a ha hv
      obtain rfl : a = zM L := by omega
      have hle : h.1 3 3 ≤ nI (zM L) := by rw [e3]; exact Int32.le_refl _
      exact q_Olbearer_2 _ h (fun _ => ⟨by rw [hv]; rfl, rfl⟩) (fun c => absurd hle c) (fun c => absurd hle c) (fun c => absurd hle c)
    | succ q ih =>
      intro a ha hv
      have hlt : ¬ h.1 3 3 ≤ nI a := by rw [e3]; exact nI_ge (by omega) (by omega)
      have hh : f_Shhas (h.2 27 (nI a).toNatClampNeg) (h.1 3 5) = if zWi L S k i a (zC L) = true then 1 else 0 := by
        rw [nI_clamp (by omega), hCl.1.2.2.2.2.2, z_has _ hc, hW a (by omega) _ hc]
      refine q_Olbearer_2 _ h (fun c => absurd c hlt) (fun _ => z_vp (by omega) (by omega)) (fun _ w => ?_) (fun _ w => ?_)
      · rw [hh] at w
        have hb : zWi L S k i a (zC L) = false := by
          cases r : zWi L S k i a (zC L)
          · rfl
          · rw [r, if_pos rfl] at w; exact absurd w one0
        rw [nI_1]
        exact ih (a + 1) (by omega) (by rw [hv]; exact zFi_n (p := fun m => zWi L S k i m (zC L)) hb)
      · rw [hh] at w
        have hb : zWi L S k i a (zC L) = true := by
          cases r : zWi L S k i a (zC L)
          · rw [r] at w; exact absurd rfl w
          · rfl
        exact ⟨by rw [hv]; exact congrArg (fun z => some (Value.int z)) (zFi_y (p := fun m => zWi L S k i m (zC L)) hb).symm, rfl⟩
  exact main (zM L) 0 (by omega) rfl
theorem zBy_m1 (hL : zLok L) (i : Nat) : zBy L S k i = -1 ↔ zGo L S k i = false := zFi_m1 (by have := hL.2.2.2.2.2.1; omega)
theorem c_OlhoursToCastle (hL : zLok L) (hS : zSh L S) (hk : k < zN L) {lim : Nat} (hlim : lim ≤ 40) (h : HP) (hCl : zCl L h) (hO : zOl L S h) : jC E mX4_hoursToCastle (n + 2) [.ref 24, .int (nI k), .int (nI lim)] h (fun v h2 => v = some (.int (zFi (zGo L S k) (lim + 1) 0)) ∧ zFr [26, 27] h h2 ∧ ∃ i, zBs (zM L) 27 (zWi L S k i) h2 ∧ ((zFi (zGo L S k) (lim + 1) 0 = -1 ∧ zGo L S k i = false) ∨ (zFi (zGo L S k) (lim + 1) 0 = nI i ∧ i ≤ 40 ∧ zGo L S k i = true))) := by
  refine jC.of (lv := [some (.ref 24), some (.int (nI k)), some (.int (nI lim)), none]) (by decide) (Nat.le_of_ble_eq_true rfl) ⟨rfl, rfl, rfl, trivial⟩ (q_OlhoursToCastle_0 _ _ h ?_)
  refine ⟨_, c_OlbeginWith hL hS hk h hCl hO, fun v h1 hp => ?_⟩
  obtain ⟨ev, hf1, hn1⟩ := hp
  rw [ev]
  refine q_OlhoursToCastle_5 _ _ h1 ?_
  have main : ∀ (q i : Nat) (h' : HP), i + q = lim + 1 → zFr [26, 27] h h' → zNw L S k (i - 1) 26 27 h' → (0 < i → zGo L S k (i - 1) = false) → zFi (zGo L S k) (lim + 1) 0 = zFi (zGo L S k) q i → jG E mX4_hoursToCastle (n + 2) (fun _ => True) (fun v h2 => v = some (.int (zFi (zGo L S k) (lim + 1) 0)) ∧ zFr [26, 27] h h2 ∧ ∃ i, zBs (zM L) 27 (zWi L S k i) h2 ∧ ((zFi (zGo L S k) (lim + 1) 0 = -1 ∧ zGo L S k i = false) ∨ (zFi (zGo L S k) (lim + 1) 0 = nI i ∧ i ≤ 40 ∧ zGo L S k i = true))) 7 [some (.ref 24), some (.int (nI k)), some (.int (nI lim)), some (.int (nI i))] [] h' := by
    intro q
    induction q with
    | zero =>
      intro i h' hi hf hn hg hv
      have hlt : nI lim < nI i := nI_lt (by omega) (by omega)
      exact q_OlhoursToCastle_7 _ _ _ h' (fun _ => ⟨by rw [hv]; rfl, hf, i - 1, hn.2, Or.inl ⟨by rw [hv]; rfl, hg (by omega)⟩⟩) (fun c => absurd hlt c) (fun c => absurd hlt c)
    | succ q ih =>
      intro i h' hi hf hn hg hv
      have hlt : ¬ nI lim < nI i := nI_nlt (by omega) (by omega)
      have fin : ∀ h3 : HP, zFr [26, 27] h h3 → zNw L S k i 26 27 h3 → jCall E mX4_bearer (n + 1) [.ref 24] h3 (fun v h2 => jG E mX4_hoursToCastle (n + 2) (fun _ => True) (fun v h2 => v = some (.int (zFi (zGo L S k) (lim + 1) 0)) ∧ zFr [26, 27] h h2 ∧ ∃ i, zBs (zM L) 27 (zWi L S k i) h2 ∧ ((zFi (zGo L S k) (lim + 1) 0 = -1 ∧ zGo L S k i = false) ∨ (zFi (zGo L S k) (lim + 1) 0 = nI i ∧ i ≤ 40 ∧ zGo L S k i = true))) 26 [some (.ref 24), some (.int (nI k)), some (.int (nI lim)), some (.int (nI i))] (v.toList ++ []) h2) := fun h3 hf3 hn3 => by
        refine ⟨_, c_Olbearer hL h3 (zCl_fr hf3 (by decide) hCl) hn3.2, fun v h4 hp => ?_⟩
        rw [hp.1, hp.2]
        refine q_OlhoursToCastle_26 _ _ _ _ h3 (fun w => ?_) (fun w => ?_)
        · have hb := (zBy_m1 hL i).mp w
          rw [nI_1]
          exact ih (i + 1) h3 (by omega) hf3 hn3 (fun _ => hb) (by rw [hv, zFi_n hb])
        · have hb : zGo L S k i = true := by
            cases r : zGo L S k i
            · exact absurd ((zBy_m1 hL i).mpr r) w
            · rfl
          have hv2 : zFi (zGo L S k) (lim + 1) 0 = nI i := by rw [hv, zFi_y hb]
          exact ⟨by rw [hv2], hf3, i, hn3.2, Or.inr ⟨hv2, by omega, hb⟩⟩
      refine q_OlhoursToCastle_7 _ _ _ h' (fun c => absurd c hlt) (fun _ w => ?_) (fun _ w => ?_)
      · have hi0 : i = 0 := by
          rcases Nat.eq_zero_or_pos i with r | r
          · exact r
          · exact absurd w (nI_nle r (by omega))
        rw [hi0] at hn
        rw [hi0]
        have := fin h' hf (by rw [hi0]; exact hn)
        rw [hi0] at this
        exact this
      · have hi0 : 0 < i := by
          rcases Nat.eq_zero_or_pos i with r | r
          · exact absurd (by rw [r]; decide) w
          · exact r
        obtain ⟨i', rfl⟩ : ∃ i', i = i' + 1 := ⟨i - 1, by omega⟩
        refine ⟨_, c_OlgoOnWith hL hS hk (show i' < 2 ^ 28 by omega) h' (zCl_fr hf (by decide) hCl) (zOl_fr hf (by decide) hO) hn, fun v h3 hp => ?_⟩
        obtain ⟨ev3, hf3, hn3⟩ := hp
        rw [ev3]
        exact q_OlhoursToCastle_22 _ _ _ h3 (fin h3 (hf.trans hf3) hn3)
  exact main (lim + 1) 0 h1 (by omega) hf1 hn1 (fun q => absurd q (by omega)) rfl
theorem c_OlhoursToHear (hL : zLok L) (hS : zSh L S) (hk : k < zN L) {m : Nat} (hm : m < zM L) (h : HP) (hCl : zCl L h) (hO : zOl L S h) : jC E mX4_hoursToHear (n + 2) [.ref 24, .int (nI m), .int (nI k)] h (fun v h2 => v = some (.int (zFi (fun i => zAny (zWi L S k i m) 64) 41 0)) ∧ zFr [26, 27] h h2) := by
  have hM : zM L ≤ 4 := hL.2.2.2.2.2.1
  refine jC.of (lv := [some (.ref 24), some (.int (nI m)), some (.int (nI k)), none]) (by decide) (Nat.le_of_ble_eq_true rfl) ⟨rfl, rfl, rfl, trivial⟩ (q_OlhoursToHear_0 _ _ h ?_)
  refine ⟨_, c_OlbeginWith hL hS hk h hCl hO, fun v h1 hp => ?_⟩
  obtain ⟨ev, hf1, hn1⟩ := hp
  rw [ev]
  refine q_OlhoursToHear_5 _ _ h1 ?_
  have main : ∀ (q i : Nat) (h' : HP), i + q = 41 → zFr [26, 27] h h' → zNw L S k i 26 27 h' → zFi (fun i => zAny (zWi L S k i m) 64) 41 0 = zFi (fun i => zAny (zWi L S k i m) 64) q i → jG E mX4_hoursToHear (n + 2) (fun _ => True) (fun v h2 => v = some (.int (zFi (fun i => zAny (zWi L S k i m) 64) 41 0)) ∧ zFr [26, 27] h h2) 7 [some (.ref 24), some (.int (nI m)), some (.int (nI k)), some (.int (nI i))] [] h' := by
    intro q
    induction q with
    | zero =>
      intro i h' hi hf hn hv
      obtain rfl : i = 41 := by omega
      exact q_OlhoursToHear_7 _ _ _ h' (fun _ => ⟨by rw [hv]; rfl, hf⟩) (fun c => absurd (by decide) c) (fun c => absurd (by decide) c) (fun c => absurd (by decide) c)
    | succ q ih =>
      intro i h' hi hf hn hv
      have h40 : ¬ (40 : Int32) < nI i := nle40 (by omega)
      have hcl : (nI m).toNatClampNeg = m := nI_clamp (by omega)
      have hz := z_cmp0 hL (hn.2 m hm) (zWi_sup hS hm i)
      refine q_OlhoursToHear_7 _ _ _ h' (fun c => absurd c h40) (fun _ => z_vp (by omega) (by omega)) (fun _ w => ?_) (fun _ w => ?_)
      · rw [hcl] at w
        have hb := zAny_em (n := 64) (hz.mp w)
        rw [nI_1]
        refine ⟨_, c_OlgoOnWith hL hS hk (show i < 2 ^ 28 by omega) h' (zCl_fr hf (by decide) hCl) (zOl_fr hf (by decide) hO) hn, fun v h3 hp => ?_⟩
        obtain ⟨ev3, hf3, hn3⟩ := hp
        rw [ev3]
        refine q_OlhoursToHear_34 _ _ _ h3 ?_
        rw [nI_1]
        exact ih (i + 1) h3 (by omega) (hf.trans hf3) hn3 (by rw [hv]; exact zFi_n (p := fun i => zAny (zWi L S k i m) 64) hb)
      · rw [hcl] at w
        have hb := zAny_ne hL (zWi_sup hS hm i) (fun r => w (hz.mpr r))
        exact ⟨by rw [hv]; exact congrArg (fun z => some (Value.int z)) (zFi_y (p := fun i => zAny (zWi L S k i m) 64) hb).symm, hf⟩
  exact main 41 0 h1 (by omega) hf1 hn1 rfl
end NW
