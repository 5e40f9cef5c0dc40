/-! ===== canBe, nobody, alone ===== -/
theorem p_canBe (E : jEnv) (x y z : Int32) : jPair E 100 zInv mX7_canBe mX8_canBe [.int x, .int y, .int z] := by
  intro j h hj hI
  have hI' := hI
  obtain ⟨L, S, hL, hCl, hMl, hS, hCs, hMs, hIm, hFt, hBk, hTx, hFa⟩ := hI
  have hM4 : zM L ≤ 4 := hL.2.2.2.2.2.1
  have hA := hL.2.2.1
  have hsh : zSh L S := hS.sh (by omega)
  have hO := zOl_tk hM4 hCs
  have hf := hTk_fr h
  have hCl2 := zCl_fr hf (by decide) hCl
  have hMl2 := zMl_fr hf (by decide) hMl
  have e56 : (hTk h).1 56 = h.1 56 := (hf 56 (by decide)).1
  have e3 : h.1 3 3 = nI (zM L) := hCl.1.2.2.2.1
  have e5 : h.1 52 5 = nI (zM L) := hMl.1.2.2.2.1
  have fin : ∀ h2 : HP, zFr [24, 25] h h2 → zInv (j + 1) h2 := fun h2 hf2 => zInv_mono j _ (zInv_fr (hf2.sub (by decide)) (fun i _ => by rw [(hf2 52 (by decide)).1]) hI')
  have bad : ∀ (hn : f_LdisMan (h.1 3 3) x = 0 ∨ (¬ f_LdisMan (h.1 3 3) x = 0 ∧ f_LdisCell (h.1 3 0) (h.1 3 1) y z = 0)) (hn2 : f_MoisMan (h.1 52 5) x = 0 ∨ (¬ f_MoisMan (h.1 52 5) x = 0 ∧ f_Mocell (h.1 52 0) (h.1 52 1) y z = -1)), jCall E mX7_canBe 100 (.ref 0 :: [.int x, .int y, .int z]) h (fun v h2 => ∃ r : Int32, v = some (.int r) ∧ jCall E mX8_canBe 100 (.ref 52 :: [.int x, .int y, .int z]) h2 (fun v2 h3 => v2 = some (.int r) ∧ zInv (j + 1) h3)) := fun hn hn2 => by
    have c1 : jC E mX7_canBe 100 [.ref 0, .int x, .int y, .int z] h (fun v h2 => v = some (.int (-1000000001)) ∧ h2 = h) := by
      refine jC.of (lv := [some (.ref 0), some (.int x), some (.int y), some (.int z)]) (by decide) (Nat.le_of_ble_eq_true rfl) ⟨rfl, rfl, rfl, rfl, trivial⟩ (q_ShcanBe_0 (n := 98) _ _ _ h (fun _ => ⟨rfl, rfl⟩) (fun _ _ => ⟨rfl, rfl⟩) (fun q1 q2 => ?_))
      rcases hn with w | ⟨_, w⟩
      · exact absurd w q1
      · exact absurd w q2
    have c2 : jC E mX8_canBe 100 [.ref 52, .int x, .int y, .int z] h (fun v h2 => v = some (.int (-1000000001)) ∧ h2 = h) := by
      refine jC.of (lv := [some (.ref 52), some (.int x), some (.int y), some (.int z)]) (by decide) (Nat.le_of_ble_eq_true rfl) ⟨rfl, rfl, rfl, rfl, trivial⟩ (q_MocanBe_0 (n := 98) _ _ _ h (fun _ => ⟨rfl, rfl⟩) (fun _ _ => ⟨rfl, rfl⟩) (fun q1 q2 => ?_))
      rcases hn2 with w | ⟨_, w⟩
      · exact absurd w q1
      · exact absurd w q2
    exact z_pair c1 c2 rfl (zInv_mono j h hI')
  rcases z_isMan (n := zM L) (by omega) x with ⟨m1, m2, m, hm, ex⟩ | ⟨m1, m2⟩
  · rcases z_cell hL.1 hL.2.1 y z with ⟨a, b, ha, hb, ey, ez, d1, d2, d3⟩ | ⟨d1, d2⟩
    · have hcA : zW L * b + a < zA L := z_lin ha hb
      have c1 : jC E mX7_canBe 100 [.ref 0, .int x, .int y, .int z] h (fun v h2 => v = some (.int (zFi (fun i => zRe L S m i (zW L * b + a)) 41 0)) ∧ h2 = hTk h) := by
        refine jC.of (lv := [some (.ref 0), some (.int x), some (.int y), some (.int z)]) (by decide) (Nat.le_of_ble_eq_true rfl) ⟨rfl, rfl, rfl, rfl, trivial⟩ (q_ShcanBe_0 (n := 98) _ _ _ h (fun q => ?_) (fun _ q => ?_) (fun _ _ => ?_))
        · rw [e3, m1] at q; exact absurd q one0
        · rw [hCl.1.1, hCl.1.2.1, d1] at q; exact absurd q one0
        · rw [hCl.1.1, d2, ex]
          refine ⟨_, c_OlhoursToBe (n := 97) hL (hTk h) hCl2 hsh hO hm (show zW L * b + a < 64 by omega), fun v h2 hp => ?_⟩
          rw [hp.1, hp.2]
          exact q_ShcanBe_50 _ _ ⟨rfl, rfl⟩
      have c2 : jC E mX8_canBe 100 [.ref 52, .int x, .int y, .int z] (hTk h) (fun v h2 => v = some (.int (zFi (fun i => zRe L S m i (zW L * b + a)) 41 0)) ∧ h2 = hTk h) := by
        have e5' : (hTk h).1 52 5 = nI (zM L) := e5
        refine jC.of (lv := [some (.ref 52), some (.int x), some (.int y), some (.int z)]) (by decide) (Nat.le_of_ble_eq_true rfl) ⟨rfl, rfl, rfl, rfl, trivial⟩ (q_MocanBe_0 (n := 98) _ _ _ (hTk h) (fun q => ?_) (fun _ q => ?_) (fun _ _ => ?_))
        · rw [e5', m2] at q; exact absurd q one0
        · rw [hMl2.1.1, hMl2.1.2.1, d3] at q; exact absurd q (nI_neg1 (by omega))
        · rw [hMl2.1.1, hMl2.1.2.1, d3, ex]
          refine ⟨_, c_Moreaches (n := 94) hL (hTk h) hMl2 hsh (by rw [e56]; exact hMs) hm (show zW L * b + a < 64 by omega), fun v h2 hp => ?_⟩
          rw [hp.1, hp.2]
          exact q_MocanBe_29 _ _ ⟨rfl, rfl⟩
      exact z_pair c1 c2 rfl (fin _ hf)
    · have m1' : ¬ f_LdisMan (h.1 3 3) x = 0 := by rw [e3, m1]; exact one0
      have m2' : ¬ f_MoisMan (h.1 52 5) x = 0 := by rw [e5, m2]; exact one0
      exact bad (Or.inr ⟨m1', by rw [hCl.1.1, hCl.1.2.1]; exact d1⟩) (Or.inr ⟨m2', by rw [hMl.1.1, hMl.1.2.1]; exact d2⟩)
  · exact bad (Or.inl (by rw [e3]; exact m1)) (Or.inl (by rw [e5]; exact m2))
/-- the i-th of a set, as the model counts -/
def zNm (W : Nat) (e : Nat → Bool) (i : Int32) : Nat → Nat → Nat → Int32
  | 0, _, a => if i = -1 then nI a else -1
  | k + 1, c, a => if e c = true then (if nI a = i then f_LdnameOf (nI W) (nI c) else zNm W e i k (c + 1) (a + 1)) else zNm W e i k (c + 1) a
/-- the same as the class counts -/
def zNc (W : Nat) (e : Nat → Bool) : Nat → Nat → Nat → Int32
  | 0, _, _ => -1
  | k + 1, c, r => if e c = true then (if r = 0 then f_LdnameOf (nI W) (nI c) else zNc W e k (c + 1) (r - 1)) else zNc W e k (c + 1) r
theorem zNm_c {W : Nat} {e : Nat → Bool} {i : Nat} (hi : i < 2 ^ 31) : ∀ (k c a : Nat), a ≤ i → a + k < 2 ^ 31 → zNm W e (nI i) k c a = zNc W e k c (i - a)
  | 0, c, a, _, _ => by
    show (if nI i = -1 then _ else _) = _
    rw [if_neg (nI_neg1 hi)]
    rfl
  | k + 1, c, a, ha, hk => by
    show (if e c = true then (if nI a = nI i then _ else zNm W e (nI i) k (c + 1) (a + 1)) else zNm W e (nI i) k (c + 1) a) = if e c = true then (if i - a = 0 then _ else zNc W e k (c + 1) (i - a - 1)) else zNc W e k (c + 1) (i - a)
    by_cases q : e c = true
    · rw [if_pos q, if_pos q]
      by_cases r : a = i
      · rw [if_pos (by rw [r]), if_pos (by omega)]
      · rw [if_neg (fun w => r ((nI_eq (by omega) hi).mp w)), if_neg (by omega), zNm_c hi k (c + 1) (a + 1) (by omega) (by omega)]
        rfl
    · rw [if_neg q, if_neg q, zNm_c hi k (c + 1) a ha (by omega)]
theorem zNm_all {W : Nat} {e : Nat → Bool} : ∀ (k c : Nat), c + k < 2 ^ 31 → zNm W e (-1) k c (zCn e c) = nI (zCn e (c + k))
  | 0, c, _ => if_pos rfl
  | k + 1, c, hk => by
    have hle := zCn_le e c
    have es : zCn e (c + 1) = zCn e c + (if e c = true then 1 else 0) := rfl
    show (if e c = true then (if nI (zCn e c) = -1 then _ else zNm W e (-1) k (c + 1) (zCn e c + 1)) else zNm W e (-1) k (c + 1) (zCn e c)) = _
    have ih := zNm_all (W := W) (e := e) k (c + 1) (by omega)
    rw [show c + (k + 1) = c + 1 + k by omega, ← ih, es]
    by_cases q : e c = true
    · rw [if_pos q, if_pos q, if_neg (nI_neg1 (by omega))]
    · rw [if_neg q, if_neg q]; rfl
theorem zNm_none {W : Nat} {e : Nat → Bool} {i : Int32} (h0 : i < 0) (h1 : ¬ i = -1) : ∀ (k c a : Nat), a + k < 2 ^ 31 → zNm W e i k c a = -1
  | 0, c, a, _ => if_neg h1
  | k + 1, c, a, hk => by
    show (if e c = true then (if nI a = i then _ else zNm W e i k (c + 1) (a + 1)) else zNm W e i k (c + 1) a) = _
    by_cases q : e c = true
    · rw [if_pos q, if_neg (fun w : nI a = i => nI_pos (show a < 2 ^ 31 by omega) (by rw [w]; exact h0)), zNm_none h0 h1 k (c + 1) (a + 1) (by omega)]
    · rw [if_neg q, zNm_none h0 h1 k (c + 1) a (by omega)]
theorem nI_dec (m : Nat) : nI (m + 1) + (-1) = nI m := by
  rw [← nI_1, Int32.add_assoc, show (1 : Int32) + (-1) = 0 from by decide, Int32.add_zero]
section NB
variable {E : jEnv} {n : Nat} {X : State → Prop} {P : Option Value → HP → Prop} {L : ZL} {S : ZS}
theorem zc_nthL (hL : zLok L) {h : HP} (hCl : zCl L h) {x : Int64} {e : Nat → Bool} (hx : zB x e) : ∀ (k c r : Nat), c + k = zA L → r < 2 ^ 31 → P (some (.int (zNc (zW L) e k c r))) h → jG E mX2_nameOfNth (n + 2) X P 6 [some (.ref 3), some (.long x), none, none, some (.int (nI r)), some (.int (nI c))] [] h := by
  have hA := hL.2.2.1
  have hAe : f_Ldcells (h.1 3 0) (h.1 3 1) = nI (zA L) := by unfold f_Ldcells; rw [hCl.1.1, hCl.1.2.1, pk_mul]; rfl
  intro k
  induction k with
  | zero =>
    intro c r hc hr hP
    obtain rfl : c = zA L := by omega
    have hle : f_Ldcells (h.1 3 0) (h.1 3 1) ≤ nI (zA L) := by rw [hAe]; exact Int32.le_refl _
    exact q_LdnameOfNth_6 _ _ _ h (fun _ => hP) (fun q => absurd hle q) (fun q => absurd hle q) (fun q => absurd hle q)
  | succ k ih =>
    intro c r hc hr hP
    have hlt : ¬ f_Ldcells (h.1 3 0) (h.1 3 1) ≤ nI c := by rw [hAe]; exact nI_ge (by omega) (by omega)
    have eh : f_Shhas x (nI c) = if e c = true then 1 else 0 := by rw [z_has x (by omega), hx c (by omega)]
    have eP : zNc (zW L) e (k + 1) c r = if e c = true then (if r = 0 then f_LdnameOf (nI (zW L)) (nI c) else zNc (zW L) e k (c + 1) (r - 1)) else zNc (zW L) e k (c + 1) r := rfl
    rw [eP] at hP
    refine q_LdnameOfNth_6 _ _ _ h (fun q => absurd q hlt) (fun _ w => ?_) (fun _ w w2 => ?_) (fun _ w w2 => ?_)
    · rw [eh] at w
      have hb : ¬ e c = true := fun q => by rw [if_pos q] at w; exact one0 w
      rw [if_neg hb] at hP
      rw [nI_1]
      exact ih (c + 1) r (by omega) hr hP
    · rw [eh] at w
      have hb : e c = true := by
        cases q : e c
        · rw [q] at w; exact absurd rfl w
        · rfl
      have hr0 : r = 0 := (nI_eq hr (by omega)).mp w2
      rw [if_pos hb, if_pos hr0] at hP
      rw [hCl.1.1]
      exact hP
    · rw [eh] at w
      have hb : e c = true := by
        cases q : e c
        · rw [q] at w; exact absurd rfl w
        · rfl
      have hr0 : ¬ r = 0 := fun q => w2 (by rw [q]; rfl)
      rw [if_pos hb, if_neg hr0] at hP
      obtain ⟨r', rfl⟩ : ∃ r', r = r' + 1 := ⟨r - 1, by omega⟩
      rw [nI_1, nI_dec]
      exact ih (c + 1) r' (by omega) (by omega) hP
theorem c_LdnameOfNth (hL : zLok L) (h : HP) (hCl : zCl L h) {x : Int64} {e : Nat → Bool} (hx : zB x e) {r : Nat} (hr : r < 2 ^ 31) : jC E mX2_nameOfNth (n + 2) [.ref 3, .long x, .int (nI r)] h (fun v h2 => v = some (.int (zNc (zW L) e (zA L) 0 r)) ∧ h2 = h) := by
  refine jC.of (lv := [some (.ref 3), some (.long x), none, some (.int (nI r)), none, none]) (by decide) (Nat.le_of_ble_eq_true rfl) ⟨rfl, rfl, rfl, trivial⟩ (q_LdnameOfNth_0 _ _ h ?_)
  exact zc_nthL hL hCl hx (zA L) 0 r (by omega) hr ⟨rfl, rfl⟩
theorem zm_nthL (hL : zLok L) {h : HP} (hMl : zMl L h) {u : Int32} {x : Int64} {e : Nat → Bool} (hx : ∀ c, c < zA L → bt x c = !e c) : ∀ (k c a : Nat), c + k = zA L → P (some (.int (zNm (zW L) e u k c a))) h → jG E mX8_nobody (n + 6) X P 35 [some (.ref 52), some (.int u), some (.long x), none, some (.int (nI a)), some (.int (nI c))] [] h := by
  have hA := hL.2.2.1
  have hW9 := hL.1
  have hAe : h.1 52 0 * h.1 52 1 = nI (zA L) := by rw [hMl.1.1, hMl.1.2.1, pk_mul]; rfl
  intro k
  induction k with
  | zero =>
    intro c a hc hP
    obtain rfl : c = zA L := by omega
    have hle : h.1 52 0 * h.1 52 1 ≤ nI (zA L) := by rw [hAe]; exact Int32.le_refl _
    have eP : zNm (zW L) e u 0 (zA L) a = if u = -1 then nI a else -1 := rfl
    rw [eP] at hP
    exact q_Monobody_35 _ _ _ _ h (fun _ w => by rw [if_pos w] at hP; exact hP) (fun _ w => by rw [if_neg w] at hP; exact hP) (fun q => absurd hle q) (fun q => absurd hle q) (fun q => absurd hle q) (fun q => absurd hle q) (fun q => absurd hle q)
  | succ k ih =>
    intro c a hc hP
    have hlt : ¬ h.1 52 0 * h.1 52 1 ≤ nI c := by rw [hAe]; exact nI_ge (by omega) (by omega)
    have hW0 : 0 < zW L := by
      rcases Nat.eq_zero_or_pos (zW L) with q | q
      · have : zA L = 0 := by unfold zA; rw [q, Nat.zero_mul]
        omega
      · exact q
    have hne0 : ¬ h.1 52 0 = 0 := by rw [hMl.1.1]; exact nI_ne0 hW0 (by omega)
    have eh := z_has0 x (show c < 64 by omega)
    rw [hx c (by omega)] at eh
    have eP : zNm (zW L) e u (k + 1) c a = if e c = true then (if nI a = u then f_LdnameOf (nI (zW L)) (nI c) else zNm (zW L) e u k (c + 1) (a + 1)) else zNm (zW L) e u k (c + 1) a := rfl
    rw [eP] at hP
    have yes : ∀ w : lg_cmp ((x >>> ((nI c).toInt64 &&& 63)) &&& 1) 0 = 0, e c = true := fun w => by
      have := eh.mp w
      cases q : e c
      · rw [q] at this; cases this
      · rfl
    refine q_Monobody_35 _ _ _ _ h (fun q => absurd q hlt) (fun q => absurd q hlt) (fun _ _ _ => hne0) (fun _ _ _ => hne0) (fun _ w w2 => ?_) (fun _ w w2 => ?_) (fun _ w => ?_)
    · rw [if_pos (yes w), if_pos w2] at hP
      rw [hMl.1.1, z_code hW0 hW9 (by omega)]
      exact hP
    · rw [if_pos (yes w), if_neg w2] at hP
      rw [nI_1, nI_1]
      exact ih (c + 1) (a + 1) (by omega) hP
    · have hb : ¬ e c = true := fun q => w (eh.mpr (by rw [q]; rfl))
      rw [if_neg hb] at hP
      rw [nI_1]
      exact ih (c + 1) a (by omega) hP
theorem z_bit1 (x : Int64) {c : Nat} (hc : c < 64) : ((x >>> ((nI c).toInt64 &&& 63)) &&& 1).toInt32 = nI (if bt x c = true then 1 else 0) := by
  by_cases q : bt x c = true
  · have := (lg_cmp0 _ _).mp ((z_has1 x hc).mpr q)
    rw [this, if_pos q]; rfl
  · have := (lg_cmp0 _ _).mp ((z_has0 x hc).mpr (by simpa using q))
    rw [this, if_neg q]; rfl
theorem zm_cntL (hL : zLok L) {h : HP} (hMl : zMl L h) {x : Int64} {e : Nat → Bool} (hx : zB x e) (hP : P (some (.int (nI (zCn e (zA L))))) h) : ∀ (k c : Nat), c + k = zA L → jG E mX8_alone (n + 6) X P 69 [some (.ref 52), none, none, none, some (.long x), none, some (.int (nI (zCn e c))), some (.int (nI c))] [] h := by
  have hA := hL.2.2.1
  have hAe : h.1 52 0 * h.1 52 1 = nI (zA L) := by rw [hMl.1.1, hMl.1.2.1, pk_mul]; rfl
  intro k
  induction k with
  | zero =>
    intro c hc
    obtain rfl : c = zA L := by omega
    have hle : h.1 52 0 * h.1 52 1 ≤ nI (zA L) := by rw [hAe]; exact Int32.le_refl _
    exact q_Moalone_69 _ _ _ h (fun _ => hP) (fun q => absurd hle q)
  | succ k ih =>
    intro c hc
    have hlt : ¬ h.1 52 0 * h.1 52 1 ≤ nI c := by rw [hAe]; exact nI_ge (by omega) (by omega)
    refine q_Moalone_69 _ _ _ h (fun q => absurd q hlt) (fun _ => ?_)
    rw [z_bit1 x (by omega), hx c (by omega), nI_add, nI_1]
    exact ih (c + 1) (by omega)
end NB
theorem z_bc {L : ZL} (hA : zA L ≤ 36) {x : Int64} {e : Nat → Bool} (hx : zB x e) (he : zSup L e) : f_bitCount x = nI (zCn e (zA L)) := by
  rw [z_pop, zCn_congr (q := e) (fun k hk => hx k hk), zCn_sup (by omega) he]
theorem p_nobody (E : jEnv) (x : Int32) : jPair E 100 zInv mX7_nobody mX8_nobody [.int x] := by
  intro j h hj hI
  have hI' := hI
  obtain ⟨L, S, hL, hCl, hMl, hS, hCs, hMs, hIm, hFt, hBk, hTx, hFa⟩ := hI
  have hM4 : zM L ≤ 4 := hL.2.2.2.2.2.1
  have hA := hL.2.2.1
  have hsh : zSh L S := hS.sh (by omega)
  have hO := zOl_tk hM4 hCs
  have hf := hTk_fr h
  have hCl2 := zCl_fr hf (by decide) hCl
  have hMl2 := zMl_fr hf (by decide) hMl
  have e56 : (hTk h).1 56 = h.1 56 := (hf 56 (by decide)).1
  have hs2 : zMs L S ((hTk h).1 56) := by rw [e56]; exact hMs
  have fin : zInv (j + 1) (hTk h) := zInv_mono j _ (zInv_fr (hf.sub (by decide)) (fun i _ => by rw [(hf 52 (by decide)).1]) hI')
  let e : Nat → Bool := fun c => decide (c < zA L) && !zOt L S (fun _ => true) (zM L) c
  have hes : zSup L e := fun c h => by
    have h' : (decide (c < zA L) && !zOt L S (fun _ => true) (zM L) c) = true := h
    rw [Bool.and_eq_true] at h'
    exact of_decide_eq_true h'.1
  have c1 : jC E mX7_nobody 100 [.ref 0, .int x] h (fun v h2 => v = some (.int (zNm (zW L) e x (zA L) 0 0)) ∧ h2 = hTk h) := by
    refine jC.of (lv := [some (.ref 0), some (.int x), none, none]) (by decide) (Nat.le_of_ble_eq_true rfl) ⟨rfl, rfl, trivial⟩ (q_Shnobody_0 (n := 98) _ h ?_)
    refine ⟨_, c_OlcellsOfOthers (n := 96) hL (hTk h) hCl2 hsh hO (u := -1) (b := fun _ => true) (fun m hm => ⟨fun q => absurd q (nI_neg1 (by omega)), fun q => by cases q⟩), fun v h2 hp => ?_⟩
    obtain ⟨⟨y, ev, hy⟩, eh⟩ := hp
    rw [ev, eh]
    have hall : zB (h.2 3 6) (fun c => decide (c < zA L)) := hCl.2.2.2.2.1
    have hb : zB (h.2 3 6 &&& (y ^^^ (-1))) e := zB_sub hall hy
    refine q_Shnobody_22 _ y (h.2 3 6) (hTk h) (fun w => ⟨?_, rfl⟩) (fun w w2 => ?_) (fun w w2 => ⟨?_, rfl⟩)
    · rw [z_bc hA hb hes, w]
      have := zNm_all (W := zW L) (e := e) (zA L) 0 (by omega)
      rw [Nat.zero_add] at this
      rw [← this]
      rfl
    · obtain ⟨r, hr, er⟩ := nI_of (x := x) (Int32.not_lt.mpr w2)
      rw [er]
      refine ⟨_, c_LdnameOfNth (n := 97) hL (hTk h) hCl2 hb hr, fun v h2 hp => ?_⟩
      rw [hp.1, hp.2]
      refine q_Shnobody_55 _ _ ⟨?_, rfl⟩
      rw [zNm_c hr (zA L) 0 0 (by omega) (by omega)]
      rfl
    · rw [zNm_none (Int32.not_le.mp w2) w (zA L) 0 0 (by omega)]
  have c2 : jC E mX8_nobody 100 [.ref 52, .int x] (hTk h) (fun v h2 => v = some (.int (zNm (zW L) e x (zA L) 0 0)) ∧ h2 = hTk h) := by
    refine jC.of (lv := [some (.ref 52), some (.int x), none, none, none, none]) (by decide) (Nat.le_of_ble_eq_true rfl) ⟨rfl, rfl, trivial⟩ (q_Monobody_0 (n := 99) _ (hTk h) ?_)
    refine zm_noL (n := 94) hL hMl2 hsh hs2 (fun y hy => ?_) (zM L) 0 0 (by omega) zB_0
    refine zm_nthL (n := 94) hL hMl2 (e := e) (fun c hc => ?_) (zA L) 0 0 (by omega) ⟨rfl, rfl⟩
    show _ = !(decide (c < zA L) && !zOt L S (fun _ => true) (zM L) c)
    rw [hy c (by omega), decide_eq_true hc, Bool.true_and, Bool.not_not]
  exact z_pair c1 c2 rfl fin
theorem p_alone (E : jEnv) (x : Int32) : jPair E 100 zInv mX7_alone mX8_alone [.int x] := by
  intro j h hj hI
  have hI' := hI
  obtain ⟨L, S, hL, hCl, hMl, hS, hCs, hMs, hIm, hFt, hBk, hTx, hFa⟩ := hI
  have hM4 : zM L ≤ 4 := hL.2.2.2.2.2.1
  have hA := hL.2.2.1
  have hsh : zSh L S := hS.sh (by omega)
  have hO := zOl_tk hM4 hCs
  have hf := hTk_fr h
  have hCl2 := zCl_fr hf (by decide) hCl
  have hMl2 := zMl_fr hf (by decide) hMl
  have e56 : (hTk h).1 56 = h.1 56 := (hf 56 (by decide)).1
  have hs2 : zMs L S ((hTk h).1 56) := by rw [e56]; exact hMs
  have e3 : h.1 3 3 = nI (zM L) := hCl.1.2.2.2.1
  have e5 : h.1 52 5 = nI (zM L) := hMl.1.2.2.2.1
  have fin : zInv (j + 1) (hTk h) := zInv_mono j _ (zInv_fr (hf.sub (by decide)) (fun i _ => by rw [(hf 52 (by decide)).1]) hI')
  rcases z_isMan (n := zM L) (by omega) x with ⟨m1, m2, m, hm, ex⟩ | ⟨m1, m2⟩
  · let b : Nat → Bool := fun i => !decide (i = m)
    have hb : ∀ i, i < zM L → (nI i = nI m ↔ b i = false) := fun i hi => by
      show _ ↔ (!decide (i = m)) = false
      rw [nI_eq (by omega) (by omega)]
      by_cases q : i = m <;> simp [q]
    let e : Nat → Bool := fun c => zRe L S m 40 c && !zOt L S b (zM L) c
    have hes : zSup L e := fun c h => by
      have h' : (zRe L S m 40 c && !zOt L S b (zM L) c) = true := h
      rw [Bool.and_eq_true] at h'
      exact zRe_sup hsh hm 40 c h'.1
    have c1 : jC E mX7_alone 100 [.ref 0, .int x] h (fun v h2 => v = some (.int (nI (zCn e (zA L)))) ∧ h2 = hTk h) := by
      refine jC.of (lv := [some (.ref 0), some (.int x)]) (by decide) (Nat.le_of_ble_eq_true rfl) ⟨rfl, rfl, trivial⟩ (q_Shalone_0 (n := 98) _ h (fun q => ?_) (fun _ => ?_))
      · rw [e3, m1] at q; exact absurd q one0
      · rw [ex]
        refine ⟨_, c_OlcellsOf (n := 97) hL (hTk h) hCl2 hsh hO hm, fun v h2 hp => ?_⟩
        obtain ⟨⟨y, ev, hy⟩, eh⟩ := hp
        rw [ev, eh]
        refine q_Shalone_29 _ y (hTk h) ?_
        refine ⟨_, c_OlcellsOfOthers (n := 96) hL (hTk h) hCl2 hsh hO (u := nI m) (b := b) hb, fun v h2 hp => ?_⟩
        obtain ⟨⟨y2, ev2, hy2⟩, eh2⟩ := hp
        rw [ev2, eh2]
        refine q_Shalone_37 y2 y (hTk h) ⟨?_, rfl⟩
        rw [z_bc hA (zB_sub hy hy2) hes]
    have c2 : jC E mX8_alone 100 [.ref 52, .int x] (hTk h) (fun v h2 => v = some (.int (nI (zCn e (zA L)))) ∧ h2 = hTk h) := by
      have e5' : (hTk h).1 52 5 = nI (zM L) := e5
      refine jC.of (lv := [some (.ref 52), some (.int x), none, none, none, none, none, none]) (by decide) (Nat.le_of_ble_eq_true rfl) ⟨rfl, rfl, trivial⟩ (q_Moalone_0 (n := 98) _ (hTk h) (fun q => ?_) (fun _ => ?_))
      · rw [e5', m2] at q; exact absurd q one0
      · rw [ex]
        refine zm_alL (n := 94) hL hMl2 hsh hs2 hm hb (fun y y2 hy hy2 => ?_) (zM L) 0 0 (by omega) zB_0
        refine q_Moalone_55 y y2 (hTk h) ?_
        exact zm_cntL (n := 94) hL hMl2 (e := e) (zB_sub hy2 hy) ⟨rfl, rfl⟩ (zA L) 0 (by omega)
    exact z_pair c1 c2 rfl fin
  · have c1 : jC E mX7_alone 100 [.ref 0, .int x] h (fun v h2 => v = some (.int (-1000000001)) ∧ h2 = h) := by
      refine jC.of (lv := [some (.ref 0), some (.int x)]) (by decide) (Nat.le_of_ble_eq_true rfl) ⟨rfl, rfl, trivial⟩ (q_Shalone_0 (n := 98) _ h (fun _ => ⟨rfl, rfl⟩) (fun q => absurd (by rw [e3]; exact m1) q))
    have c2 : jC E mX8_alone 100 [.ref 52, .int x] h (fun v h2 => v = some (.int (-1000000001)) ∧ h2 = h) := by
      refine jC.of (lv := [some (.ref 52), some (.int x), none, none, none, none, none, none]) (by decide) (Nat.le_of_ble_eq_true rfl) ⟨rfl, rfl, trivial⟩ (q_Moalone_0 (n := 98) _ h (fun _ => ⟨rfl, rfl⟩) (fun q => absurd (by rw [e5]; exact m2) q))
    exact z_pair c1 c2 rfl (zInv_mono j h hI')
