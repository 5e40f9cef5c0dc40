/-! ===== inch, bestStake ===== -/
theorem zInv_fr2 {j : Nat} {h h2 : HP} (hf : zFr (56 :: zScr) h h2) (h52 : ∀ i, i ≠ 40 → h2.1 52 i = h.1 52 i) (h56 : ∀ (L : ZL) (S : ZS), zM L ≤ 4 → zMs L S (h.1 56) → zMs L S (h2.1 56)) (hI : zInv j h) : zInv j h2 := by
  obtain ⟨L, S, hL, hCl, hMl, hS, hCs, hMs, hIm, hFt, hBk, hTx, hFa⟩ := hI
  have e := fun (k : Nat) (hk : k ∉ (56 :: zScr)) => (hf k hk).1
  have e' := fun (k : Nat) (hk : k ∉ (56 :: zScr)) => (hf k hk).2
  refine ⟨L, S, hL, zCl_c (e 3 (by decide)) (e' 3 (by decide)) (e 4 (by decide)) (e 5 (by decide)) (e 8 (by decide)) (e' 9 (by decide)) hCl, zMl_c (fun i hi => h52 i (by omega)) (e 53 (by decide)) (e 54 (by decide)) (e 55 (by decide)) hMl, hS, zCs_c (e 18 (by decide)) (e' 18 (by decide)) (e 19 (by decide)) (e 20 (by decide)) (e 21 (by decide)) (e 22 (by decide)) (e 23 (by decide)) hCs, ?_, ⟨?_, ?_⟩, zFt_c (e 30 (by decide)) (e 31 (by decide)) (e 32 (by decide)) (e 59 (by decide)) (h52 12 (by decide)) (h52 14 (by decide)) hFt, zBk_c (e 33 (by decide)) (e 34 (by decide)) (e 35 (by decide)) (e 60 (by decide)) (h52 16 (by decide)) hBk, zTx_c (e 1 (by decide)) (e 2 (by decide)) (e 61 (by decide)) (h52 18 (by decide)) hTx, ?_⟩
  · exact h56 L S hL.2.2.2.2.2.1 hMs
  · exact zI1_c (e 39 (by decide)) (e 58 (by decide)) (e 57 (by decide)) (e 40 (by decide)) (e' 40 (by decide)) (e 41 (by decide)) (e 42 (by decide)) (e 43 (by decide)) (e 44 (by decide)) (e 45 (by decide)) hIm.1
  · exact zI1_c (e 39 (by decide)) (e 58 (by decide)) (e 57 (by decide)) (e 46 (by decide)) (e' 46 (by decide)) (e 47 (by decide)) (e 48 (by decide)) (e 49 (by decide)) (e 50 (by decide)) (e 51 (by decide)) hIm.2
  · unfold zFa at *
    rw [e 10 (by decide), h52 24 (by decide)]
    exact hFa
theorem zMs_eq {L : ZL} {S : ZS} {r r' : Nat → Int32} (hM : zM L ≤ 4) (h : ∀ j, j < 62 → r' j = r j) (hr : zMs L S r) : zMs L S r' := zMs_congr hM hr h
theorem zSh_sl {L : ZL} {S : ZS} (hS : zSh L S) (m : Nat) {v : Nat} (hv : v ≤ 7) : zSh L (sSl S m v) := by
  refine ⟨hS.1, hS.2.1, fun i hi => ?_⟩
  obtain ⟨a, b, c⟩ := hS.2.2 i hi
  refine ⟨a, ?_, c⟩
  show (if i = m then v else zSl S i) ≤ 7
  split
  · exact hv
  · exact b
theorem zOl_sl {L : ZL} {S : ZS} {h : HP} (q : zOl L S h) (m v : Nat) : zOl L (sSl S m v) (jPI h 25 m (nI v)) := by
  refine ⟨q.1, q.2.1, fun i hi => ?_⟩
  obtain ⟨a, b, c⟩ := q.2.2 i hi
  exact ⟨a, b, updn c⟩
theorem zSh_sk {L : ZL} {S : ZS} (hS : zSh L S) {c : Nat} (hc : c < zA L) : zSh L (sSk S c true) := by
  refine ⟨hS.1, fun i hi => ?_, hS.2.2⟩
  have h' : (if i = c then true else zSk S i) = true := hi
  by_cases q : i = c
  · rw [q]; exact hc
  · rw [if_neg q] at h'; exact hS.2.1 i h'
theorem z_cn (x : Int32) : f_OlcountNone x = if x = -1 then 41 else x := rfl
theorem p_inch (E : jEnv) (x y : Int32) : jPair E 100 zInv mX7_inch mX8_inch [.int x, .int y] := by
  intro j h hj hI
  have hI' := hI
  obtain ⟨L, S, hL, hCl, hMl, hS, hCs, hMs, hIm, hFt, hBk, hTx, hFa⟩ := hI
  have hM4 : zM L ≤ 4 := hL.2.2.2.2.2.1
  have hN4 : zN L ≤ 4 := hL.2.2.2.2.2.2.1
  have hsh : zSh L S := hS.sh (by omega)
  have hO := zOl_tk hM4 hCs
  have hf := hTk_fr h
  have hCl2 := zCl_fr hf (by decide) hCl
  have e3 : h.1 3 3 = nI (zM L) := hCl.1.2.2.2.1
  have e4 : h.1 3 4 = nI (zN L) := hCl.1.2.2.2.2.1
  have e5 : h.1 52 5 = nI (zM L) := hMl.1.2.2.2.1
  have e6 : h.1 52 6 = nI (zN L) := hMl.1.2.2.2.2.1
  have bad : ∀ (hn : f_LdisNews (h.1 3 4) x = 0 ∨ f_LdisMan (h.1 3 3) y = 0) (hn2 : f_MoisNews (h.1 52 6) x = 0 ∨ f_MoisMan (h.1 52 5) y = 0), jCall E mX7_inch 100 (.ref 0 :: [.int x, .int y]) h (fun v h2 => ∃ r : Int32, v = some (.int r) ∧ jCall E mX8_inch 100 (.ref 52 :: [.int x, .int y]) h2 (fun v2 h3 => v2 = some (.int r) ∧ zInv (j + 1) h3)) := fun hn hn2 => by
    have c1 : jC E mX7_inch 100 [.ref 0, .int x, .int y] h (fun v h2 => v = some (.int (-1000000001)) ∧ h2 = h) := by
      refine jC.of (lv := [some (.ref 0), some (.int x), some (.int y)]) (by decide) (Nat.le_of_ble_eq_true rfl) ⟨rfl, rfl, rfl, trivial⟩ (q_Shinch_0 (n := 99) _ _ h (fun _ => ⟨rfl, rfl⟩) (fun _ _ => ⟨rfl, rfl⟩) (fun q1 q2 => ?_))
      rcases hn with w | w
      · exact absurd w q1
      · exact absurd w q2
    have c2 : jC E mX8_inch 100 [.ref 52, .int x, .int y] h (fun v h2 => v = some (.int (-1000000001)) ∧ h2 = h) := by
      refine jC.of (lv := [some (.ref 52), some (.int x), some (.int y), none, none]) (by decide) (Nat.le_of_ble_eq_true rfl) ⟨rfl, rfl, rfl, trivial⟩ (q_Moinch_0 (n := 98) _ _ h (fun _ => ⟨rfl, rfl⟩) (fun _ _ => ⟨rfl, rfl⟩) (fun q1 q2 => ?_))
      rcases hn2 with w | w
      · exact absurd w q1
      · exact absurd w q2
    exact z_pair c1 c2 rfl (zInv_mono j h hI')
  rcases z_isNews (n := zN L) (by omega) x with ⟨d1, d2, k, hk, ex⟩ | ⟨d1, d2⟩
  · rcases z_isMan (n := zM L) (by omega) y with ⟨m1, m2, m, hm, ey⟩ | ⟨m1, m2⟩
    · have hsl : zSl S m ≤ 6 := (hS.2.2.2 m hm).2.1
      have hsh' : zSh L (sSl S m (zSl S m + 1)) := zSh_sl hsh m (by omega)
      have hcm : (nI m).toNatClampNeg = m := nI_clamp (by omega)
      have hvm : vp_in (nI m) 4 := z_vp (by omega) (by omega)
      let V1 : Int32 := zFi (zGo L S k) 41 0
      let V2 : Int32 := zFi (zGo L (sSl S m (zSl S m + 1)) k) 41 0
      have c1 : jC E mX7_inch 100 [.ref 0, .int x, .int y] h (fun v h2 => v = some (.int (f_OlcountNone V1 - f_OlcountNone V2)) ∧ zFr [24, 25, 26, 27] h h2) := by
        refine jC.of (lv := [some (.ref 0), some (.int x), some (.int y)]) (by decide) (Nat.le_of_ble_eq_true rfl) ⟨rfl, rfl, rfl, trivial⟩ (q_Shinch_0 (n := 99) _ _ h (fun q => ?_) (fun _ q => ?_) (fun _ _ => ?_))
        · rw [e4, d1] at q; exact absurd q one0
        · rw [e3, m1] at q; exact absurd q one0
        · rw [ex, ey]
          refine ⟨fun v h2 => v = some (.int (f_OlcountNone V1 - f_OlcountNone V2)) ∧ zFr [24, 25, 26, 27] h h2, ?_, fun v h2 hp => by rw [hp.1]; exact q_Shinch_34 _ h2 ⟨rfl, hp.2⟩⟩
          refine jC.of (lv := [some (.ref 24), some (.int (nI k)), some (.int (nI m)), none]) (by decide) (Nat.le_of_ble_eq_true rfl) ⟨rfl, rfl, rfl, trivial⟩ (q_OlworthOfInch_0 (n := 97) _ _ h ?_)
          refine ⟨_, c_OlhoursToCastle (n := 96) hL hsh hk (lim := 40) (by omega) (hTk h) hCl2 hO, fun v h2 hp => ?_⟩
          obtain ⟨ev, hf2, _⟩ := hp
          rw [ev]
          refine q_OlworthOfInch_11 (n := 97) _ _ _ h2 hvm hvm ?_
          have hO2 := zOl_fr hf2 (by decide) hO
          rw [hcm, (hO2.2.2 m hm).2.2, nI_1]
          have hf3 : zFr [24, 25, 26, 27] h (jPI h2 25 m (nI (zSl S m + 1))) := ((hf.sub (by decide)).trans (hf2.sub (by decide))).trans (zFr_I (by decide))
          refine ⟨_, c_OlhoursToCastle (n := 96) hL hsh' hk (lim := 40) (by omega) _ (zCl_fr hf3 (by decide) hCl) (zOl_sl hO2 m _), fun v h4 hp => ?_⟩
          obtain ⟨ev4, hf4, _⟩ := hp
          rw [ev4]
          exact q_OlworthOfInch_33 (n := 97) _ _ h4 ⟨rfl, hf3.trans (hf4.sub (by decide))⟩
      refine ⟨_, c1, fun v h2 hp => ⟨_, hp.1, ?_⟩⟩
      have hf2 := hp.2
      have hMl2 := zMl_fr hf2 (by decide) hMl
      have hs2 := zMs_fr hf2 (by decide) hMs
      have hix : ((2 + (6 * nI m)) + 2).toNatClampNeg = 4 + 6 * m := by rw [z_ix2]; exact nI_clamp (by omega)
      have hv62 : vp_in ((2 + (6 * nI m)) + 2) 62 := by rw [z_ix2]; exact z_vp (by omega) (by omega)
      have c2 : jC E mX8_inch 100 [.ref 52, .int x, .int y] h2 (fun v h3 => v = some (.int (f_OlcountNone V1 - f_OlcountNone V2)) ∧ zFr [52, 56, 66, 67] h2 h3 ∧ (∀ i, i ≠ 40 → h3.1 52 i = h2.1 52 i) ∧ h3.1 56 = h2.1 56) := by
        refine jC.of (lv := [some (.ref 52), some (.int x), some (.int y), none, none]) (by decide) (Nat.le_of_ble_eq_true rfl) ⟨rfl, rfl, rfl, trivial⟩ (q_Moinch_0 (n := 98) _ _ h2 (fun q => ?_) (fun _ q => ?_) (fun _ _ => ?_))
        · rw [hMl2.1.2.2.2.2.1, d2] at q; exact absurd q one0
        · rw [hMl2.1.2.2.2.1, m2] at q; exact absurd q one0
        · rw [ex, ey]
          refine ⟨_, c_MofirstOf (n := 93) hL hsh hk (lim := 40) (by omega) h2 hMl2 hs2, fun v h3 hp3 => ?_⟩
          obtain ⟨ev3, hf3, h52, _⟩ := hp3
          rw [ev3]
          have e56 : h3.1 56 = h2.1 56 := (hf3 56 (by decide)).1
          have es : h3.1 56 (4 + 6 * m) = nI (zSl S m) := by rw [e56]; exact (hs2.2.2.2 m hm).2.2.1
          refine q_Moinch_26 (n := 98) _ _ _ h3 hv62 hv62 ?_
          rw [hix, es, nI_1]
          have hMl3 : zMl L (jPI h3 56 (4 + 6 * m) (nI (zSl S m + 1))) := zMl_c (fun i hi => by show h3.1 52 i = h2.1 52 i; exact h52 i (by omega)) (hf3 53 (by decide)).1 (hf3 54 (by decide)).1 (hf3 55 (by decide)).1 hMl2
          have hs3 : zMs L (sSl S m (zSl S m + 1)) ((jPI h3 56 (4 + 6 * m) (nI (zSl S m + 1))).1 56) := by
            show zMs L _ (upd (h3.1 56) (4 + 6 * m) (nI (zSl S m + 1)))
            rw [e56]
            exact zMs_sl hs2 (by omega) _
          refine ⟨_, c_MofirstOf (n := 93) hL hsh' hk (lim := 40) (by omega) _ hMl3 hs3, fun v h4 hp4 => ?_⟩
          obtain ⟨ev4, hf4, h52', _⟩ := hp4
          rw [ev4]
          have e56' : h4.1 56 = upd (h2.1 56) (4 + 6 * m) (nI (zSl S m + 1)) := by rw [(hf4 56 (by decide)).1, ← e56]; rfl
          have fr : zFr [52, 56, 66, 67] h2 (jPI h4 56 (4 + 6 * m) (nI (zSl S m))) := (((hf3.sub (by decide)).trans (zFr_I (by decide))).trans (hf4.sub (by decide))).trans (zFr_I (by decide))
          have f52 : ∀ i, i ≠ 40 → (jPI h4 56 (4 + 6 * m) (nI (zSl S m))).1 52 i = h2.1 52 i := fun i hi => (h52' i hi).trans (h52 i hi)
          have f56 : (jPI h4 56 (4 + 6 * m) (nI (zSl S m))).1 56 = h2.1 56 := by
            show upd (h4.1 56) (4 + 6 * m) (nI (zSl S m)) = _
            rw [e56']
            funext i
            by_cases q : i = 4 + 6 * m
            · rw [q, upd_eq, ← e56, es]
            · rw [upd_ne q, upd_ne q]
          have ed : h4.1 56 (4 + 6 * m) - 1 = nI (zSl S m) := by rw [e56', upd_eq, nI_pred]
          refine q_Moinch_51 (n := 98) _ _ _ h4 hv62 hv62 (fun w1 w2 => ?_) (fun w1 w2 => ?_) (fun w1 w2 => ?_) (fun w1 w2 => ?_) <;> rw [hix, ed] <;> refine ⟨?_, fr, f52, f56⟩
          · rw [z_cn, z_cn, if_pos (show V1 = -1 from w1), if_pos (show V2 = -1 from w2)]
          · rw [z_cn, z_cn, if_pos (show V1 = -1 from w1), if_neg (show ¬ V2 = -1 from w2)]
          · rw [z_cn, z_cn, if_neg (show ¬ V1 = -1 from w1), if_pos (show V2 = -1 from w2)]
          · rw [z_cn, z_cn, if_neg (show ¬ V1 = -1 from w1), if_neg (show ¬ V2 = -1 from w2)]
      refine ⟨_, c2, fun v2 h3 hp2 => ⟨hp2.1, ?_⟩⟩
      obtain ⟨_, g1, g2, g3⟩ := hp2
      exact zInv_mono j _ (zInv_fr2 ((hf2.sub (by decide)).trans (g1.sub (by decide))) (fun i hi => by rw [g2 i hi, (hf2 52 (by decide)).1]) (fun L' S' _ q => by rw [g3, (hf2 56 (by decide)).1]; exact q) hI')
    · exact bad (Or.inr (by rw [e3]; exact m1)) (Or.inr (by rw [e5]; exact m2))
  · exact bad (Or.inl (by rw [e4]; exact d1)) (Or.inl (by rw [e6]; exact d2))
/-! best stake -/
def zFn (p : Nat → Bool) : Nat → Nat → Nat
  | 0, i => i
  | k + 1, i => if p i = true then i else zFn p k (i + 1)
theorem zFn_le (p : Nat → Bool) : ∀ k i, i ≤ zFn p k i ∧ zFn p k i ≤ i + k
  | 0, i => ⟨Nat.le_refl _, Nat.le_refl _⟩
  | k + 1, i => by
    show i ≤ (if p i = true then i else zFn p k (i + 1)) ∧ (if p i = true then i else zFn p k (i + 1)) ≤ i + (k + 1)
    have := zFn_le p k (i + 1)
    split <;> omega
theorem zFn_no {p : Nat → Bool} : ∀ (k i j : Nat), i ≤ j → j < zFn p k i → p j = false
  | 0, i, j, h1, h2 => by
    have : j < i := h2
    omega
  | k + 1, i, j, h1, h2 => by
    have h2' : j < (if p i = true then i else zFn p k (i + 1)) := h2
    by_cases q : p i = true
    · rw [if_pos q] at h2'; omega
    · rw [if_neg q] at h2'
      by_cases e : j = i
      · rw [e]; simpa using q
      · exact zFn_no k (i + 1) j (by omega) h2'
theorem zFn_yes {p : Nat → Bool} : ∀ (k i : Nat), zFn p k i < i + k → p (zFn p k i) = true
  | 0, i, h => by
    have : i < i + 0 := h
    omega
  | k + 1, i, h => by
    have e : zFn p (k + 1) i = if p i = true then i else zFn p k (i + 1) := rfl
    rw [e] at h ⊢
    by_cases q : p i = true
    · rw [if_pos q]; exact q
    · rw [if_neg q] at h ⊢
      exact zFn_yes k (i + 1) (by omega)
/-- a search within b hours out of that within 41 -/
theorem zFi_fn {p : Nat → Bool} {b : Nat} (hb : b ≤ 41) : zFi p b 0 = if zFn p 41 0 < b then nI (zFn p 41 0) else -1 := by
  by_cases q : zFn p 41 0 < b
  · rw [if_pos q]
    obtain ⟨t, _, t2, t3, t4, t5⟩ := zFi_yes (p := p) b 0 ⟨zFn p 41 0, by omega, by omega, zFn_yes 41 0 (by omega)⟩
    rw [t4]
    congr 1
    by_cases e : t < zFn p 41 0
    · rw [zFn_no 41 0 t (by omega) e] at t3; cases t3
    · by_cases e2 : zFn p 41 0 < t
      · have := t5 _ (by omega) e2
        rw [zFn_yes (p := p) 41 0 (by omega)] at this; cases this
      · omega
  · rw [if_neg q]
    exact zFi_no b 0 (fun j _ h2 => zFn_no 41 0 j (by omega) (by omega))
/-- how soon with a stake on a cell; 41: never -/
def zVs (L : ZL) (S : ZS) (k c : Nat) : Nat := zFn (zGo L (sSk S c true) k) 41 0
def zSo (L : ZL) (S : ZS) (k : Nat) : Nat → Nat × Int32
  | 0 => (41, -1)
  | c + 1 => if zVs L S k c < (zSo L S k c).1 then (zVs L S k c, nI c) else zSo L S k c
theorem zSo_le (L : ZL) (S : ZS) (k : Nat) : ∀ c, (zSo L S k c).1 ≤ 41
  | 0 => Nat.le_refl _
  | c + 1 => by
    have := zSo_le L S k c
    show (if zVs L S k c < (zSo L S k c).1 then (zVs L S k c, nI c) else zSo L S k c).1 ≤ 41
    split
    · have h : zVs L S k c < (zSo L S k c).1 := by assumption
      show zVs L S k c ≤ 41
      omega
    · exact this
theorem zSo_is (L : ZL) (S : ZS) (k : Nat) : ∀ c, ((zSo L S k c).1 = 41 ∧ (zSo L S k c).2 = -1) ∨ ((zSo L S k c).1 < 41 ∧ ∃ d, d < c ∧ (zSo L S k c).2 = nI d)
  | 0 => Or.inl ⟨rfl, rfl⟩
  | c + 1 => by
    have h1 := zSo_le L S k c
    have es : zSo L S k (c + 1) = if zVs L S k c < (zSo L S k c).1 then (zVs L S k c, nI c) else zSo L S k c := rfl
    rw [es]
    by_cases q : zVs L S k c < (zSo L S k c).1
    · rw [if_pos q]
      exact Or.inr ⟨by show zVs L S k c < 41; omega, c, by omega, rfl⟩
    · rw [if_neg q]
      rcases zSo_is L S k c with h | ⟨h, d, hd, e⟩
      · exact Or.inl h
      · exact Or.inr ⟨h, d, by omega, e⟩
theorem zSo_0 {L : ZL} {S : ZS} {k c : Nat} (h : (zSo L S k c).1 = 0) : ∀ j, zSo L S k (c + j) = zSo L S k c
  | 0 => rfl
  | j + 1 => by
    show (if zVs L S k (c + j) < (zSo L S k (c + j)).1 then _ else zSo L S k (c + j)) = _
    rw [zSo_0 h j, if_neg (by omega)]
section BS
variable {E : jEnv} {n : Nat} {X : State → Prop} {P : Option Value → HP → Prop} {L : ZL} {S : ZS} {k : Nat}
theorem zc_bsL (hL : zLok L) (hS : zSh L S) (hk : k < zN L) {h0 : HP} (hCl : zCl L h0) (hs : zCs L S 18 h0) (kx : ∀ h, zFr [24, 25, 26, 27] h0 h → h.1 24 9 = (zSo L S k (zA L)).2 → h.1 24 10 = nI (zSo L S k (zA L)).1 → P none h) : ∀ (q c : Nat) (h : HP), c + q = zA L → zFr [24, 25, 26, 27] h0 h → (∀ m, m < zM L → h.1 25 m = nI (zSl S m)) → h.1 24 9 = (zSo L S k c).2 → h.1 24 10 = nI (zSo L S k c).1 → jG E mX4_findBestStake (n + 3) X P 17 [some (.ref 24), some (.int (nI k)), some (.int (nI c)), none] [] h := by
  have hM : zM L ≤ 4 := hL.2.2.2.2.2.1
  have hA := hL.2.2.1
  intro q
  induction q with
  | zero =>
    intro c h hc hf h25 h9 h10
    obtain rfl : c = zA L := by omega
    have hCl' := zCl_fr hf (by decide) hCl
    have hAe : f_Ldcells (h.1 3 0) (h.1 3 1) = nI (zA L) := by unfold f_Ldcells; rw [hCl'.1.1, hCl'.1.2.1, pk_mul]; rfl
    have hle : f_Ldcells (h.1 3 0) (h.1 3 1) ≤ nI (zA L) := by rw [hAe]; exact Int32.le_refl _
    exact q_OlfindBestStake_17 _ _ h (fun _ => kx h hf h9 h10) (fun q => absurd hle q) (fun q => absurd hle q)
  | succ q ih =>
    intro c h hc hf h25 h9 h10
    have hCl' := zCl_fr hf (by decide) hCl
    have hAe : f_Ldcells (h.1 3 0) (h.1 3 1) = nI (zA L) := by unfold f_Ldcells; rw [hCl'.1.1, hCl'.1.2.1, pk_mul]; rfl
    have hlt : ¬ f_Ldcells (h.1 3 0) (h.1 3 1) ≤ nI c := by rw [hAe]; exact nI_ge (by omega) (by omega)
    have h41 := zSo_le L S k c
    refine q_OlfindBestStake_17 _ _ h (fun q => absurd q hlt) (fun _ w => ?_) (fun _ w => ?_)
    · have h0' : (zSo L S k c).1 = 0 := by
        rcases Nat.eq_zero_or_pos (zSo L S k c).1 with r | r
        · exact r
        · rw [h10] at w; exact absurd w (nI_nle r (by omega))
      have := zSo_0 h0' (zA L - c)
      rw [show c + (zA L - c) = zA L by omega] at this
      exact kx h hf (by rw [this]; exact h9) (by rw [this]; exact h10)
    · have h0' : 0 < (zSo L S k c).1 := by
        rcases Nat.eq_zero_or_pos (zSo L S k c).1 with r | r
        · rw [h10, r] at w; exact absurd (by decide) w
        · exact r
      have hcA : c < zA L := by omega
      have hO : zOl L (sSk S c true) (jPL h 24 3 ((h.2 18 3) ||| (1 <<< ((nI c).toInt64 &&& 63)))) := by
        refine ⟨?_, ?_, fun m hm => ?_⟩
        · show h.1 18 1 = _
          rw [(hf 18 (by decide)).1]; exact hs.1
        · show zB ((h.2 18 3) ||| (1 <<< ((nI c).toInt64 &&& 63))) _
          rw [(hf 18 (by decide)).2]
          exact zB_set hs.2.2.1 (by omega)
        · obtain ⟨a1, a2, a3, _, _⟩ := hs.2.2.2 m hm
          refine ⟨?_, ?_, h25 m hm⟩
          · show h.1 19 m = _
            rw [(hf 19 (by decide)).1]; exact a1
          · show h.1 21 m = _
            rw [(hf 21 (by decide)).1]; exact a3
      have hf2 : zFr [24, 25, 26, 27] h0 (jPL h 24 3 ((h.2 18 3) ||| (1 <<< ((nI c).toInt64 &&& 63)))) := hf.trans (zFr_L (by decide))
      obtain ⟨b, hb⟩ : ∃ b, (zSo L S k c).1 = b + 1 := ⟨(zSo L S k c).1 - 1, by omega⟩
      have eb : h.1 24 10 - 1 = nI b := by rw [h10, hb, nI_pred]
      rw [eb]
      refine ⟨_, c_OlhoursToCastle hL (zSh_sk hS hcA) hk (show b ≤ 40 by omega) _ (zCl_fr hf2 (by decide) hCl) hO, fun v h3 hp => ?_⟩
      obtain ⟨ev, hf3, _⟩ := hp
      rw [ev]
      have hff : zFr [24, 25, 26, 27] h0 h3 := hf2.trans (hf3.sub (by decide))
      have e24 : h3.1 24 = h.1 24 := (hf3 24 (by decide)).1
      have e25 : ∀ m, m < zM L → h3.1 25 m = nI (zSl S m) := fun m hm => by rw [(hf3 25 (by decide)).1]; exact h25 m hm
      have es : zSo L S k (c + 1) = if zVs L S k c < (zSo L S k c).1 then (zVs L S k c, nI c) else zSo L S k c := rfl
      have ev2 := zFi_fn (p := zGo L (sSk S c true) k) (show b + 1 ≤ 41 by omega)
      rw [ev2]
      show jG E mX4_findBestStake (n + 3) X P 61 _ ([.int (if zVs L S k c < b + 1 then nI (zVs L S k c) else -1)] ++ []) h3
      rw [hb] at es
      by_cases r : zVs L S k c < b + 1
      · rw [if_pos r] at es ⊢
        refine q_OlfindBestStake_61 _ _ _ h3 (fun w => absurd w (nI_neg1 (by omega))) (fun _ => ?_)
        rw [nI_1]
        refine ih (c + 1) _ (by omega) (hff.trans ((zFr_I (by decide)).trans (zFr_I (by decide)))) e25 ?_ ?_
        · rw [es]; rfl
        · rw [es]; rfl
      · rw [if_neg r] at es ⊢
        refine q_OlfindBestStake_61 _ _ _ h3 (fun _ => ?_) (fun w => absurd rfl w)
        rw [nI_1]
        refine ih (c + 1) h3 (by omega) hff e25 ?_ ?_
        · rw [es, e24]; exact h9
        · rw [es, e24]; exact h10
theorem zm_bsL (hL : zLok L) (hS : zSh L S) (hk : k < zN L) {h0 : HP} (hMl : zMl L h0) (hs : zMs L S (h0.1 56)) {y : Int32} (kx : ∀ h, zFr [52, 56, 66, 67] h0 h → (∀ i, i ≠ 40 → h.1 52 i = h0.1 52 i) → h.1 56 = h0.1 56 → P (some (.int (if y = 1 then (if (zSo L S k (zA L)).1 = 41 then -1 else nI (zSo L S k (zA L)).1) else if (zSo L S k (zA L)).2 = -1 then -1 else f_LdnameOf (nI (zW L)) (zSo L S k (zA L)).2))) h) : ∀ (q c : Nat) (h : HP), c + q = zA L → zFr [52, 56, 66, 67] h0 h → (∀ i, i ≠ 40 → h.1 52 i = h0.1 52 i) → h.1 56 = h0.1 56 → jG E mX8_bestStake (n + 7) X P 32 [some (.ref 52), some (.int (nI k)), some (.int y), some (.int (zSo L S k c).2), some (.int (if (zSo L S k c).1 = 41 then -1 else nI (zSo L S k c).1)), some (.int (nI c)), none, none] [] h := by
  have hM : zM L ≤ 4 := hL.2.2.2.2.2.1
  have hA := hL.2.2.1
  have hW9 := hL.1
  have ml : ∀ h : HP, zFr [52, 56, 66, 67] h0 h → (∀ i, i ≠ 40 → h.1 52 i = h0.1 52 i) → zMl L h := fun h hf h52 => zMl_c (fun i hi => h52 i (by omega)) (hf 53 (by decide)).1 (hf 54 (by decide)).1 (hf 55 (by decide)).1 hMl
  intro q
  induction q with
  | zero =>
    intro c h hc hf h52 h56
    obtain rfl : c = zA L := by omega
    have hMl' := ml h hf h52
    have hAe : h.1 52 0 * h.1 52 1 = nI (zA L) := by rw [hMl'.1.1, hMl'.1.2.1, pk_mul]; rfl
    have hle : h.1 52 0 * h.1 52 1 ≤ nI (zA L) := by rw [hAe]; exact Int32.le_refl _
    have hK := kx h hf h52 h56
    have hW0 : 0 < zW L := by
      rcases Nat.eq_zero_or_pos (zW L) with q | q
      · have := (hL.2.2.2.2.2.2.2.1 q).2.2.1; omega
      · exact q
    have hne0 : ¬ h.1 52 0 = 0 := by rw [hMl'.1.1]; exact nI_ne0 hW0 (by omega)
    refine q_MobestStake_32 _ _ _ _ _ h (fun _ w => ?_) (fun _ w w2 => ?_) (fun _ _ _ => hne0) (fun _ _ _ => hne0) (fun _ w w2 => ?_) (fun q => absurd hle q) (fun q => absurd hle q) (fun q => absurd hle q)
    · rw [if_pos w] at hK; exact hK
    · rw [if_neg w, if_pos w2] at hK; exact hK
    · rw [if_neg w, if_neg w2] at hK
      rcases zSo_is L S k (zA L) with ⟨_, r⟩ | ⟨_, d, hd, r⟩
      · exact absurd r w2
      · rw [r] at hK ⊢
        rw [hMl'.1.1, z_code hW0 hW9 (by omega)]
        exact hK
  | succ q ih =>
    intro c h hc hf h52 h56
    have hMl' := ml h hf h52
    have hs' : zMs L S (h.1 56) := by rw [h56]; exact hs
    have hAe : h.1 52 0 * h.1 52 1 = nI (zA L) := by rw [hMl'.1.1, hMl'.1.2.1, pk_mul]; rfl
    have hlt : ¬ h.1 52 0 * h.1 52 1 ≤ nI c := by rw [hAe]; exact nI_ge (by omega) (by omega)
    have hv : vp_in (26 + nI c) 62 := by rw [z_26]; exact z_vp (by omega) (by omega)
    have hix : (26 + nI c).toNatClampNeg = 26 + c := by rw [z_26]; exact nI_clamp (by omega)
    have hcA : c < zA L := by omega
    refine q_MobestStake_32 _ _ _ _ _ h (fun q => absurd q hlt) (fun q => absurd q hlt) (fun q => absurd q hlt) (fun q => absurd q hlt) (fun q => absurd q hlt) (fun _ => hv) (fun _ => hv) (fun _ => ?_)
    rw [hix]
    have hf2 : zFr [52, 56, 66, 67] h0 (jPI h 56 (26 + c) 1) := hf.trans (zFr_I (by decide))
    have hs2 : zMs L (sSk S c true) ((jPI h 56 (26 + c) 1).1 56) := zMs_sk hM hs' c true
    refine ⟨_, c_MofirstOf (n := n) hL (zSh_sk hS hcA) hk (lim := 40) (by omega) _ (ml _ hf2 h52) hs2, fun v h3 hp => ?_⟩
    obtain ⟨ev, hf3, g52, _⟩ := hp
    rw [ev]
    have hff : zFr [52, 56, 66, 67] h0 (jPI h3 56 (26 + c) (h.1 56 (26 + c))) := (hf2.trans (hf3.sub (by decide))).trans (zFr_I (by decide))
    have f52 : ∀ i, i ≠ 40 → (jPI h3 56 (26 + c) (h.1 56 (26 + c))).1 52 i = h0.1 52 i := fun i hi => (g52 i hi).trans (h52 i hi)
    have f56 : (jPI h3 56 (26 + c) (h.1 56 (26 + c))).1 56 = h0.1 56 := by
      show upd (h3.1 56) (26 + c) (h.1 56 (26 + c)) = _
      rw [(hf3 56 (by decide)).1, ← h56]
      funext i
      show upd (upd (h.1 56) (26 + c) 1) (26 + c) (h.1 56 (26 + c)) i = _
      by_cases q : i = 26 + c
      · rw [q, upd_eq]
      · rw [upd_ne q, upd_ne q]
    have es : zSo L S k (c + 1) = if zVs L S k c < (zSo L S k c).1 then (zVs L S k c, nI c) else zSo L S k c := rfl
    have hgo := ih (c + 1) _ (by omega) hff f52 f56
    have ev2 := zFi_fn (p := zGo L (sSk S c true) k) (show 41 ≤ 41 by omega)
    rw [ev2]
    show jG E mX8_bestStake (n + 7) X P 76 _ ([.int (if zVs L S k c < 41 then nI (zVs L S k c) else -1)] ++ []) h3
    have h41 := zSo_le L S k c
    have hvle : zVs L S k c ≤ 41 := (zFn_le _ 41 0).2
    rw [es] at hgo
    by_cases r : zVs L S k c < (zSo L S k c).1
    · rw [if_pos r] at hgo
      have hgo' : jG E mX8_bestStake (n + 7) X P 32 [some (.ref 52), some (.int (nI k)), some (.int y), some (.int (nI c)), some (.int (nI (zVs L S k c))), some (.int (nI (c + 1))), none, none] [] (jPI h3 56 (26 + c) (h.1 56 (26 + c))) := by
        have e1 : (if (zVs L S k c, nI c).1 = 41 then (-1 : Int32) else nI (zVs L S k c, nI c).1) = nI (zVs L S k c) := if_neg (by show ¬ zVs L S k c = 41; omega)
        rw [e1] at hgo
        exact hgo
      rw [if_pos (show zVs L S k c < 41 by omega)]
      refine q_MobestStake_76 _ _ _ _ _ _ _ h3 hv (fun w => absurd w (nI_neg1 (by omega))) (fun _ w => ?_) (fun _ w w2 => ?_) (fun _ w w2 => ?_)
      · rw [hix, nI_1]; exact hgo'
      · exfalso
        have hne : ¬ (zSo L S k c).1 = 41 := fun e => w (if_pos e)
        rw [if_neg hne] at w2
        exact nI_ge r (by omega) w2
      · rw [hix, nI_1]; exact hgo'
    · rw [if_neg r] at hgo
      by_cases r2 : zVs L S k c < 41
      · rw [if_pos r2]
        have hne : ¬ (zSo L S k c).1 = 41 := by omega
        rw [if_neg hne] at hgo ⊢
        refine q_MobestStake_76 _ _ _ _ _ _ _ h3 hv (fun w => absurd w (nI_neg1 (by omega))) (fun _ w => absurd w (nI_neg1 (by omega))) (fun _ w w2 => ?_) (fun _ w w2 => ?_)
        · rw [hix, nI_1]; exact hgo
        · exact absurd ((nI_leI (by omega) (by omega)).mpr (by omega)) w2
      · rw [if_neg r2]
        refine q_MobestStake_76 _ _ _ _ _ _ _ h3 hv (fun _ => ?_) (fun w => absurd rfl w) (fun w => absurd rfl w) (fun w => absurd rfl w)
        rw [hix, nI_1]; exact hgo
end BS
theorem p_bestStake (E : jEnv) (x y : Int32) : jPair E 100 zInv mX7_bestStake mX8_bestStake [.int x, .int y] := by
  intro j h hj hI
  have hI' := hI
  obtain ⟨L, S, hL, hCl, hMl, hS, hCs, hMs, hIm, hFt, hBk, hTx, hFa⟩ := hI
  have hM4 : zM L ≤ 4 := hL.2.2.2.2.2.1
  have hN4 : zN L ≤ 4 := hL.2.2.2.2.2.2.1
  have hA := hL.2.2.1
  have hsh : zSh L S := hS.sh (by omega)
  have hO := zOl_tk hM4 hCs
  have hf := hTk_fr h
  have e4 : h.1 3 4 = nI (zN L) := hCl.1.2.2.2.2.1
  have e6 : h.1 52 6 = nI (zN L) := hMl.1.2.2.2.2.1
  rcases z_isNews (n := zN L) (by omega) x with ⟨d1, d2, k, hk, ex⟩ | ⟨d1, d2⟩
  · have d1' : ¬ f_LdisNews (h.1 3 4) x = 0 := by rw [e4, d1]; exact one0
    rcases z_bnd (x := y) (b := 1) (b2 := 1) (k := 1) (by decide) (by decide) with ⟨y1, y2, y3, t, ht, ey⟩ | ⟨y1, y3⟩
    · have hW0 : 0 < zW L := by
        rcases Nat.eq_zero_or_pos (zW L) with q | q
        · have := (hL.2.2.2.2.2.2.2.1 q).2.2.1; omega
        · exact q
      have hA0 : 0 < zA L := Nat.mul_pos hW0 (hL.2.2.2.1 hW0)
      have hAe : f_Ldcells (h.1 3 0) (h.1 3 1) = nI (zA L) := by unfold f_Ldcells; rw [hCl.1.1, hCl.1.2.1, pk_mul]; rfl
      have hy01 : y = 0 ∨ y = 1 := by
        rw [ey]
        have : t = 0 ∨ t = 1 := by omega
        rcases this with r | r
        · left; rw [r]; rfl
        · right; rw [r]; rfl
      let R : Int32 := if y = 1 then (if (zSo L S k (zA L)).1 = 41 then -1 else nI (zSo L S k (zA L)).1) else if (zSo L S k (zA L)).2 = -1 then -1 else f_LdnameOf (nI (zW L)) (zSo L S k (zA L)).2
      have c1 : jC E mX7_bestStake 100 [.ref 0, .int x, .int y] h (fun v h2 => v = some (.int R) ∧ zFr [24, 25, 26, 27] h h2) := by
        refine jC.of (lv := [some (.ref 0), some (.int x), some (.int y)]) (by decide) (Nat.le_of_ble_eq_true rfl) ⟨rfl, rfl, rfl, trivial⟩ (q_ShbestStake_0 (n := 98) _ _ h (fun q => absurd q d1') (fun _ q => absurd q y1) (fun _ _ _ q => absurd q (by rw [hAe]; exact nI_ne0 hA0 (by omega))) (fun _ _ _ _ => ?_) (fun _ _ q => absurd y2 q))
        rw [ex]
        refine ⟨fun v h2 => v = none ∧ zFr [24, 25, 26, 27] h h2 ∧ h2.1 24 9 = (zSo L S k (zA L)).2 ∧ h2.1 24 10 = nI (zSo L S k (zA L)).1, ?_, fun v h2 hp => ?_⟩
        · refine jC.of (lv := [some (.ref 24), some (.int (nI k)), none, none]) (by decide) (Nat.le_of_ble_eq_true rfl) ⟨rfl, rfl, trivial⟩ (q_OlfindBestStake_0 (n := 97) _ h ?_)
          refine zc_bsL (n := 96) (h0 := h) hL hsh hk hCl hCs (fun h2 hf2 g9 g10 => ⟨rfl, hf2, g9, g10⟩) (zA L) 0 _ (by omega) ((hf.sub (by decide)).trans ((zFr_I (by decide)).trans (zFr_I (by decide)))) (fun m hm => (hO.2.2 m hm).2.2) rfl rfl
        · obtain ⟨ev, hf2, g9, g10⟩ := hp
          rw [ev]
          have e30 : h2.1 3 0 = nI (zW L) := by rw [(hf2 3 (by decide)).1]; exact hCl.1.1
          have eR : R = if y = 1 then (if (zSo L S k (zA L)).1 = 41 then -1 else nI (zSo L S k (zA L)).1) else if (zSo L S k (zA L)).2 = -1 then -1 else f_LdnameOf (nI (zW L)) (zSo L S k (zA L)).2 := rfl
          refine q_ShbestStake_47 (n := 98) _ h2 (fun w => ⟨?_, hf2⟩) (fun w w2 => ⟨?_, hf2⟩) (fun w w2 => ⟨?_, hf2⟩)
          · rw [g9] at w
            rcases zSo_is L S k (zA L) with ⟨r1, r2⟩ | ⟨r1, d, hd, r2⟩
            · rw [eR, r1, r2]
              rw [if_pos rfl, if_pos rfl]
              split <;> rfl
            · rw [r2] at w; exact absurd w (nI_neg1 (by omega))
          · rw [g9] at w ⊢
            rw [eR, if_neg (by rw [w2]; decide), if_neg w, e30]
          · rw [g9] at w
            have hy1 : y = 1 := hy01.resolve_left w2
            rcases zSo_is L S k (zA L) with ⟨r1, r2⟩ | ⟨r1, d, hd, r2⟩
            · exact absurd r2 w
            · rw [eR, if_pos hy1, if_neg (by omega), g10]
      refine ⟨_, c1, fun v h2 hp => ⟨_, hp.1, ?_⟩⟩
      have hf2 := hp.2
      have hMl2 := zMl_fr hf2 (by decide) hMl
      have hs2 := zMs_fr hf2 (by decide) hMs
      have c2 : jC E mX8_bestStake 100 [.ref 52, .int x, .int y] h2 (fun v h3 => v = some (.int R) ∧ zFr [52, 56, 66, 67] h2 h3 ∧ (∀ i, i ≠ 40 → h3.1 52 i = h2.1 52 i) ∧ h3.1 56 = h2.1 56) := by
        refine jC.of (lv := [some (.ref 52), some (.int x), some (.int y), none, none, none, none, none]) (by decide) (Nat.le_of_ble_eq_true rfl) ⟨rfl, rfl, rfl, trivial⟩ (q_MobestStake_0 (n := 98) _ _ h2 (fun q => ?_) (fun _ q => ?_) (fun _ _ => ?_))
        · rw [hMl2.1.2.2.2.2.1, d2] at q; exact absurd q one0
        · rw [y3] at q; exact absurd q one0
        · rw [ex]
          exact zm_bsL (n := 93) (h0 := h2) hL hsh hk hMl2 hs2 (fun h3 g1 g2 g3 => ⟨rfl, g1, g2, g3⟩) (zA L) 0 h2 (by omega) (zFr.refl _ h2) (fun i _ => rfl) rfl
      refine ⟨_, c2, fun v2 h3 hp2 => ⟨hp2.1, ?_⟩⟩
      obtain ⟨_, g1, g2, g3⟩ := hp2
      exact zInv_mono j _ (zInv_fr2 ((hf2.sub (by decide)).trans (g1.sub (by decide))) (fun i hi => by rw [g2 i hi, (hf2 52 (by decide)).1]) (fun L' S' _ q => by rw [g3, (hf2 56 (by decide)).1]; exact q) hI')
    · have c1 : jC E mX7_bestStake 100 [.ref 0, .int x, .int y] h (fun v h2 => v = some (.int (-1000000002)) ∧ h2 = h) := by
        refine jC.of (lv := [some (.ref 0), some (.int x), some (.int y)]) (by decide) (Nat.le_of_ble_eq_true rfl) ⟨rfl, rfl, rfl, trivial⟩ (q_ShbestStake_0 (n := 98) _ _ h (fun q => absurd q d1') (fun _ _ => ⟨rfl, rfl⟩) (fun _ q1 q2 => ?_) (fun _ q1 q2 => ?_) (fun _ _ _ => ⟨rfl, rfl⟩))
        · rcases y1 with w | ⟨_, w⟩
          · exact absurd w q1
          · exact absurd q2 w
        · rcases y1 with w | ⟨_, w⟩
          · exact absurd w q1
          · exact absurd q2 w
      have c2 : jC E mX8_bestStake 100 [.ref 52, .int x, .int y] h (fun v h2 => v = some (.int (-1000000002)) ∧ h2 = h) := by
        refine jC.of (lv := [some (.ref 52), some (.int x), some (.int y), none, none, none, none, none]) (by decide) (Nat.le_of_ble_eq_true rfl) ⟨rfl, rfl, rfl, trivial⟩ (q_MobestStake_0 (n := 98) _ _ h (fun q => ?_) (fun _ _ => ⟨rfl, rfl⟩) (fun _ q => absurd y3 q))
        rw [e6, d2] at q; exact absurd q one0
      exact z_pair c1 c2 rfl (zInv_mono j h hI')
  · have c1 : jC E mX7_bestStake 100 [.ref 0, .int x, .int y] h (fun v h2 => v = some (.int (-1000000001)) ∧ h2 = h) := by
      have d1' : f_LdisNews (h.1 3 4) x = 0 := by rw [e4, d1]
      exact jC.of (lv := [some (.ref 0), some (.int x), some (.int y)]) (by decide) (Nat.le_of_ble_eq_true rfl) ⟨rfl, rfl, rfl, trivial⟩ (q_ShbestStake_0 (n := 98) _ _ h (fun _ => ⟨rfl, rfl⟩) (fun q => absurd d1' q) (fun q => absurd d1' q) (fun q => absurd d1' q) (fun q => absurd d1' q))
    have c2 : jC E mX8_bestStake 100 [.ref 52, .int x, .int y] h (fun v h2 => v = some (.int (-1000000001)) ∧ h2 = h) := by
      have d2' : f_MoisNews (h.1 52 6) x = 0 := by rw [e6, d2]
      exact jC.of (lv := [some (.ref 52), some (.int x), some (.int y), none, none, none, none, none]) (by decide) (Nat.le_of_ble_eq_true rfl) ⟨rfl, rfl, rfl, trivial⟩ (q_MobestStake_0 (n := 98) _ _ h (fun _ => ⟨rfl, rfl⟩) (fun q => absurd d2' q) (fun q => absurd d2' q))
    exact z_pair c1 c2 rfl (zInv_mono j h hI')
