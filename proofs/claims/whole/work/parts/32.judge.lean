/-! ===== hours, drift, judge ===== -/
theorem zInv_st {j : Nat} {h h3 : HP} {L : ZL} {S : ZS} (hL : zLok L) (hCl : zCl L h) (hMl : zMl L h) (hIm : zIm L (99 * j) h) (hFt : zFt L h) (hBk : zBk L h) (hTx : zTx h) (hFa : zFa h) (hf : zFr (zScr ++ [18, 19, 20, 21, 22, 23, 56]) h h3) (h52 : ∀ i, i ≠ 40 → h3.1 52 i = h.1 52 i) (hS : zSok L S (99 * (j + 1))) (hCs : zCs L S 18 h3) (hMs : zMs L S (h3.1 56)) : zInv (j + 1) h3 := by
  have e := fun (k : Nat) (hk : k ∉ zScr ++ [18, 19, 20, 21, 22, 23, 56]) => (hf k hk).1
  have e' := fun (k : Nat) (hk : k ∉ zScr ++ [18, 19, 20, 21, 22, 23, 56]) => (hf k hk).2
  have up := zIm_up hIm
  refine ⟨L, S, hL, zCl_c (e 3 (by decide)) (e' 3 (by decide)) (e 4 (by decide)) (e 5 (by decide)) (e 8 (by decide)) (e' 9 (by decide)) hCl, zMl_c (fun i hi => h52 i (by omega)) (e 53 (by decide)) (e 54 (by decide)) (e 55 (by decide)) hMl, hS, hCs, hMs, ⟨?_, ?_⟩, zFt_c (e 30 (by decide)) (e 31 (by decide)) (e 32 (by decide)) (e 59 (by decide)) (h52 12 (by decide)) (h52 14 (by decide)) hFt, zBk_c (e 33 (by decide)) (e 34 (by decide)) (e 35 (by decide)) (e 60 (by decide)) (h52 16 (by decide)) hBk, zTx_c (e 1 (by decide)) (e 2 (by decide)) (e 61 (by decide)) (h52 18 (by decide)) hTx, ?_⟩
  · exact zI1_c (e 39 (by decide)) (e 58 (by decide)) (e 57 (by decide)) (e 40 (by decide)) (e' 40 (by decide)) (e 41 (by decide)) (e 42 (by decide)) (e 43 (by decide)) (e 44 (by decide)) (e 45 (by decide)) up.1
  · exact zI1_c (e 39 (by decide)) (e 58 (by decide)) (e 57 (by decide)) (e 46 (by decide)) (e' 46 (by decide)) (e 47 (by decide)) (e 48 (by decide)) (e 49 (by decide)) (e 50 (by decide)) (e 51 (by decide)) up.2
  · unfold zFa at *
    rw [e 10 (by decide), h52 24 (by decide)]
    exact hFa
theorem fb_andL (a b : Nat) : lN a &&& lN b = lN (a &&& b) := by
  apply Int64.toBitVec_inj.1
  show BitVec.ofNat 64 a &&& BitVec.ofNat 64 b = BitVec.ofNat 64 (a &&& b)
  apply BitVec.eq_of_getLsbD_eq
  intro i hi
  simp [hi]
def zDr (s : Nat) : Nat := (s * 1103515245 + 12345) % 2147483648
theorem zDr_lt (s : Nat) : zDr s < 2 ^ 31 := Nat.mod_lt _ (by decide)
theorem z_drX {s : Nat} (hs : s < 2 ^ 31) : (nI s).toInt64 * 1103515245 + 12345 = lN (s * 1103515245 + 12345) := by
  rw [nI_l hs, show (1103515245 : Int64) = lN 1103515245 from rfl, show (12345 : Int64) = lN 12345 from rfl, lN_mul, lN_add]
theorem z_drC {s : Nat} (hs : s < 2 ^ 31) : (((nI s).toInt64 * 1103515245 + 12345) &&& 2147483647).toInt32 = nI (zDr s) := by
  rw [z_drX hs, show (2147483647 : Int64) = lN (2 ^ 31 - 1) from rfl, fb_andL, Nat.and_two_pow_sub_one_eq_mod, lN_i]
  rfl
theorem z_drM {s : Nat} (hs : s < 2 ^ 31) : (((nI s).toInt64 * 1103515245 + 12345) - ((nI s).toInt64 * 1103515245 + 12345) / 2147483648 * 2147483648).toInt32 = nI (zDr s) := by
  rw [z_drX hs, show (2147483648 : Int64) = lN 2147483648 from rfl, pk_lRem (by omega) (by decide) (by decide), lN_i]
  rfl
theorem z_drW {s : Nat} (hs : s < 2 ^ 31) : nI s / 65536 - nI s / 65536 / 5 * 5 = nI (s / 65536 % 5) := by
  rw [show (65536 : Int32) = nI 65536 from rfl, show (5 : Int32) = nI 5 from rfl, pk_div hs (by decide) (by decide), pk_rem (by omega) (by decide) (by decide)]
def zSeq (s : Nat) : Nat → Nat
  | 0 => s
  | m + 1 => zDr (zSeq s m)
theorem zSeq_lt {s : Nat} (hs : s < 2 ^ 31) : ∀ m, zSeq s m < 2 ^ 31
  | 0 => hs
  | m + 1 => zDr_lt _
def zDraw (L : ZL) (S : ZS) (k : Nat) : ZS := sOf (sSe S (zSeq (zSe S) k)) (mx k (fun m => zSeq (zSe S) (m + 1) / 65536 % 5) (zOr S))
theorem zDraw_0 (L : ZL) (S : ZS) : zDraw L S 0 = S := by
  unfold zDraw
  rw [mx_0]
  rfl
theorem zDraw_ok {L : ZL} {S : ZS} {B : Nat} (hS : zSok L S B) : zSok L (zDraw L S (zM L)) B := by
  refine ⟨hS.1, zSeq_lt hS.2.1 _, hS.2.2.1, fun m hm => ?_⟩
  obtain ⟨a, b, c, d, e⟩ := hS.2.2.2 m hm
  refine ⟨a, b, c, d, ?_⟩
  show mx (zM L) (fun m => zSeq (zSe S) (m + 1) / 65536 % 5) (zOr S) m ≤ 4
  unfold mx
  rw [if_pos hm]
  have : zSeq (zSe S) (m + 1) / 65536 % 5 < 5 := Nat.mod_lt _ (by decide)
  exact Nat.le_of_lt_succ this
theorem zCs_se {L : ZL} {S : ZS} {h : HP} (q : zCs L S 18 h) (v : Nat) : zCs L (sSe S v) 18 (jPI h 18 2 (nI v)) := ⟨q.1, rfl, q.2.2⟩
section DR
variable {E : jEnv} {n : Nat} {X : State → Prop} {P : Option Value → HP → Prop} {L : ZL} {S : ZS}
theorem zc_draw (hL : zLok L) (hse : zSe S < 2 ^ 31) {h0 : HP} (hCl : zCl L h0) (kx : ∀ h, zFr [18, 23] h0 h → zCs L (zDraw L S (zM L)) 18 h → P none h) : ∀ (k m : Nat) (h : HP), m + k = zM L → zFr [18, 23] h0 h → zCs L (zDraw L S m) 18 h → jG E mX5_orderByDraws n X P 2 [some (.ref 18), some (.int (nI m))] [] h := by
  have hM : zM L ≤ 4 := hL.2.2.2.2.2.1
  intro k
  induction k with
  | zero =>
    intro m h hm hf hs
    obtain rfl : m = zM L := by omega
    have e3 : h.1 3 3 = nI (zM L) := (zCl_fr hf (by decide) hCl).1.2.2.2.1
    have hle : h.1 3 3 ≤ nI (zM L) := by rw [e3]; exact Int32.le_refl _
    exact q_StorderByDraws_2 _ h (fun _ => kx h hf hs) (fun c => absurd hle c) (fun c => absurd hle c)
  | succ k ih =>
    intro m h hm hf hs
    have e3 : h.1 3 3 = nI (zM L) := (zCl_fr hf (by decide) hCl).1.2.2.2.1
    have hlt : ¬ h.1 3 3 ≤ nI m := by rw [e3]; exact nI_ge (by omega) (by omega)
    have hcl : (nI m).toNatClampNeg = m := nI_clamp (by omega)
    have es : h.1 18 2 = nI (zSeq (zSe S) m) := hs.2.1
    have hlt2 := zSeq_lt hse m
    refine q_StorderByDraws_2 _ h (fun c => absurd c hlt) (fun _ => z_vp (by omega) (by omega)) (fun _ => ?_)
    rw [hcl, nI_1, es, z_drC hlt2, z_drW (zDr_lt _)]
    refine ih (m + 1) _ (by omega) (hf.trans ((zFr_I (by decide)).trans (zFr_I (by decide)))) ?_
    have h1 : zCs L (sSe (zDraw L S m) (zDr (zSeq (zSe S) m))) 18 (jPI h 18 2 (nI (zDr (zSeq (zSe S) m)))) := zCs_se hs _
    have h2 := zCs_or h1 m (zDr (zSeq (zSe S) m) / 65536 % 5)
    unfold zDraw
    rw [← mx_u]
    exact h2
theorem c_StorderByDraws (hL : zLok L) (hse : zSe S < 2 ^ 31) (h : HP) (hCl : zCl L h) (hs : zCs L S 18 h) : jC E mX5_orderByDraws n [.ref 18] h (fun v h2 => v = none ∧ zFr [18, 23] h h2 ∧ zCs L (zDraw L S (zM L)) 18 h2) := by
  refine jC.of (lv := [some (.ref 18), none]) (by decide) (Nat.le_of_ble_eq_true rfl) ⟨rfl, trivial⟩ (q_StorderByDraws_0 h ?_)
  exact zc_draw hL hse (h0 := h) hCl (fun h2 hf hs2 => ⟨rfl, hf, hs2⟩) (zM L) 0 h (by omega) (zFr.refl _ h) (by rw [zDraw_0]; exact hs)
theorem zm_draw (hL : zLok L) (hse : zSe S < 2 ^ 31) {h0 : HP} (hMl : zMl L h0) (a1 a2 : Int32) (kx : ∀ h, zFr [56] h0 h → zMs L (zDraw L S (zM L)) (h.1 56) → jCall E mX8_goesBy n [.ref 52] h (fun v h2 => jG E mX8_drift (n + 1) X P 104 [some (.ref 52), some (.int a1), some (.int a2), none] (v.toList ++ []) h2)) : ∀ (k m : Nat) (h : HP), m + k = zM L → zFr [56] h0 h → zMs L (zDraw L S m) (h.1 56) → jG E mX8_drift (n + 1) X P 35 [some (.ref 52), some (.int a1), some (.int a2), some (.int (nI m))] [] h := by
  have hM : zM L ≤ 4 := hL.2.2.2.2.2.1
  intro k
  induction k with
  | zero =>
    intro m h hm hf hs
    obtain rfl : m = zM L := by omega
    have e3 : h.1 52 5 = nI (zM L) := (zMl_fr hf (by decide) hMl).1.2.2.2.1
    have hle : h.1 52 5 ≤ nI (zM L) := by rw [e3]; exact Int32.le_refl _
    exact q_Modrift_35 _ _ _ h (fun _ => kx h hf hs) (fun c => absurd hle c) (fun c => absurd hle c)
  | succ k ih =>
    intro m h hm hf hs
    have e3 : h.1 52 5 = nI (zM L) := (zMl_fr hf (by decide) hMl).1.2.2.2.1
    have hlt : ¬ h.1 52 5 ≤ nI m := by rw [e3]; exact nI_ge (by omega) (by omega)
    have hc5 : ((2 + 6 * nI m) + 5).toNatClampNeg = 7 + 6 * m := by rw [z_ix5]; exact nI_clamp (by omega)
    have es : h.1 56 1 = nI (zSeq (zSe S) m) := hs.2.1
    have hlt2 := zSeq_lt hse m
    refine q_Modrift_35 _ _ _ h (fun c => absurd c hlt) (fun _ => by rw [z_ix5]; exact z_vp (by omega) (by omega)) (fun _ => ?_)
    rw [hc5, nI_1, es, z_drM hlt2, z_drW (zDr_lt _)]
    refine ih (m + 1) _ (by omega) (hf.trans ((zFr_I (by decide)).trans (zFr_I (by decide)))) ?_
    have h2 := zMs_of (zMs_se hs (zDr (zSeq (zSe S) m))) (m := m) (by omega) (zDr (zSeq (zSe S) m) / 65536 % 5)
    unfold zDraw
    rw [← mx_u]
    exact h2
end DR
/-- hours one behind another -/
def zIt (f : ZS → ZS) : Nat → ZS → ZS
  | 0, S => S
  | k + 1, S => zIt f k (f S)
theorem zIt_ok {L : ZL} (hL : zLok L) {f : ZS → ZS} (hf : ∀ (S : ZS) (B : Nat), B < 2 ^ 29 → zSok L S B → zSok L (f S) (B + 1)) : ∀ (k : Nat) (S : ZS) (B : Nat), B + k < 2 ^ 29 → zSok L S B → zSok L (zIt f k S) (B + k)
  | 0, S, B, _, h => h
  | k + 1, S, B, hB, h => by
    have := zIt_ok hL hf k (f S) (B + 1) (by omega) (hf S B (by omega) h)
    rw [show B + (k + 1) = B + 1 + k by omega]
    exact this
section HR
variable {E : jEnv} {n : Nat} {X : State → Prop} {P : Option Value → HP → Prop} {L : ZL}
theorem zc_hours (hL : zLok L) (N : Nat) (hN : N ≤ 99) : ∀ (k a : Nat) (S : ZS) (B : Nat) (h : HP), a + k = N → B + k < 2 ^ 29 → zSok L S B → zCl L h → zCs L S 18 h → (∀ h2, zFr [18, 19, 20, 21, 22, 23] h h2 → zCs L (zIt (zHour L) k S) 18 h2 → P (some (.int (nI (zH (zIt (zHour L) k S))))) h2) → jG E mX7_letPass (n + 5) X P 29 [some (.ref 0), some (.int (nI N)), some (.int 0), some (.int (nI a))] [] h := by
  intro k
  induction k with
  | zero =>
    intro a S B h ha hB hS hCl hs hP
    obtain rfl : a = N := by omega
    have hle : nI a ≤ nI a := Int32.le_refl _
    refine q_ShletPass_29 _ _ _ h (fun _ => ?_) (fun c => absurd hle c) (fun c => absurd hle c)
    rw [hs.1]
    exact hP h (zFr.refl _ h) hs
  | succ k ih =>
    intro a S B h ha hB hS hCl hs hP
    have hlt : ¬ nI N ≤ nI a := nI_ge (by omega) (by omega)
    refine q_ShletPass_29 _ _ _ h (fun c => absurd c hlt) (fun _ _ => ?_) (fun _ c => absurd rfl c)
    have hH := hS.1
    refine ⟨_, c_StpassAnHour hL (hS.sg (by omega)) (by omega) h hCl hs, fun v h2 hp => ?_⟩
    obtain ⟨ev, hf, hs2⟩ := hp
    rw [ev]
    refine q_ShletPass_52 _ _ _ h2 ?_
    rw [nI_1]
    refine ih (a + 1) (zHour L S) (B + 1) h2 (by omega) (by omega) (zHour_ok hL (by omega) hS) (zCl_fr hf (by decide) hCl) hs2 (fun h3 hf3 hs3 => ?_)
    exact hP h3 ((hf.sub (by decide)).trans hf3) hs3
theorem zc_drift (hL : zLok L) (N : Nat) (hN : N ≤ 99) : ∀ (k a : Nat) (S : ZS) (B : Nat) (h : HP), a + k = N → B + k < 2 ^ 29 → zSok L S B → zCl L h → zCs L S 18 h → (∀ h2, zFr [18, 19, 20, 21, 22, 23] h h2 → zCs L (zIt (fun S => zHour L (zDraw L S (zM L))) k S) 18 h2 → P (some (.int (nI (zH (zIt (fun S => zHour L (zDraw L S (zM L))) k S))))) h2) → jG E mX7_letPass (n + 5) X P 29 [some (.ref 0), some (.int (nI N)), some (.int 1), some (.int (nI a))] [] h := by
  intro k
  induction k with
  | zero =>
    intro a S B h ha hB hS hCl hs hP
    obtain rfl : a = N := by omega
    have hle : nI a ≤ nI a := Int32.le_refl _
    refine q_ShletPass_29 _ _ _ h (fun _ => ?_) (fun c => absurd hle c) (fun c => absurd hle c)
    rw [hs.1]
    exact hP h (zFr.refl _ h) hs
  | succ k ih =>
    intro a S B h ha hB hS hCl hs hP
    have hlt : ¬ nI N ≤ nI a := nI_ge (by omega) (by omega)
    refine q_ShletPass_29 _ _ _ h (fun c => absurd c hlt) (fun _ c => absurd c one0) (fun _ _ => ?_)
    have hH := hS.1
    have hS1 := zDraw_ok hS
    refine ⟨_, c_StorderByDraws hL hS.2.1 h hCl hs, fun v h1 hp => ?_⟩
    obtain ⟨ev1, hf1, hs1⟩ := hp
    rw [ev1]
    refine q_ShletPass_45 _ _ _ h1 ?_
    have hCl1 := zCl_fr hf1 (by decide) hCl
    refine ⟨_, c_StpassAnHour hL (hS1.sg (by omega)) (by have := hS1.1; omega) h1 hCl1 hs1, fun v h2 hp => ?_⟩
    obtain ⟨ev, hf, hs2⟩ := hp
    rw [ev]
    refine q_ShletPass_52 _ _ _ h2 ?_
    rw [nI_1]
    refine ih (a + 1) (zHour L (zDraw L S (zM L))) (B + 1) h2 (by omega) (by omega) (zHour_ok hL (by omega) hS1) (zCl_fr hf (by decide) hCl1) hs2 (fun h3 hf3 hs3 => ?_)
    exact hP h3 (((hf1.sub (by decide)).trans (hf.sub (by decide))).trans hf3) hs3
theorem zm_hours (hL : zLok L) (N : Nat) (hN : N ≤ 99) : ∀ (k a : Nat) (S : ZS) (B : Nat) (h : HP), a + k = N → B + k < 2 ^ 29 → zSok L S B → zMl L h → zMs L S (h.1 56) → (∀ h2, zFr [56] h h2 → zMs L (zIt (zHour L) k S) (h2.1 56) → P (some (.int (nI (zH (zIt (zHour L) k S))))) h2) → jG E mX8_hour (n + 5) X P 28 [some (.ref 52), some (.int (nI N)), some (.int (nI a))] [] h := by
  intro k
  induction k with
  | zero =>
    intro a S B h ha hB hS hMl hs hP
    obtain rfl : a = N := by omega
    have hle : nI a ≤ nI a := Int32.le_refl _
    refine q_Mohour_28 _ _ h (fun _ => ?_) (fun c => absurd hle c)
    rw [hs.1]
    exact hP h (zFr.refl _ h) hs
  | succ k ih =>
    intro a S B h ha hB hS hMl hs hP
    have hlt : ¬ nI N ≤ nI a := nI_ge (by omega) (by omega)
    refine q_Mohour_28 _ _ h (fun c => absurd c hlt) (fun _ => ?_)
    have hH := hS.1
    refine ⟨_, c_MogoesBy hL (hS.sg (by omega)) (by omega) h hMl hs, fun v h2 hp => ?_⟩
    obtain ⟨ev, hf, hs2⟩ := hp
    rw [ev]
    refine q_Mohour_37 _ _ h2 ?_
    rw [nI_1]
    refine ih (a + 1) (zHour L S) (B + 1) h2 (by omega) (by omega) (zHour_ok hL (by omega) hS) (zMl_fr hf (by decide) hMl) hs2 (fun h3 hf3 hs3 => ?_)
    exact hP h3 (hf.trans hf3) hs3
theorem zm_drift (hL : zLok L) (N : Nat) (hN : N ≤ 99) : ∀ (k a : Nat) (S : ZS) (B : Nat) (h : HP), a + k = N → B + k < 2 ^ 29 → zSok L S B → zMl L h → zMs L S (h.1 56) → (∀ h2, zFr [56] h h2 → zMs L (zIt (fun S => zHour L (zDraw L S (zM L))) k S) (h2.1 56) → P (some (.int (nI (zH (zIt (fun S => zHour L (zDraw L S (zM L))) k S))))) h2) → jG E mX8_drift (n + 5) X P 28 [some (.ref 52), some (.int (nI N)), some (.int (nI a)), none] [] h := by
  intro k
  induction k with
  | zero =>
    intro a S B h ha hB hS hMl hs hP
    obtain rfl : a = N := by omega
    have hle : nI a ≤ nI a := Int32.le_refl _
    refine q_Modrift_28 _ _ h (fun _ => ?_) (fun c => absurd hle c)
    rw [hs.1]
    exact hP h (zFr.refl _ h) hs
  | succ k ih =>
    intro a S B h ha hB hS hMl hs hP
    have hlt : ¬ nI N ≤ nI a := nI_ge (by omega) (by omega)
    refine q_Modrift_28 _ _ h (fun c => absurd c hlt) (fun _ => ?_)
    have hH := hS.1
    have hS1 := zDraw_ok hS
    refine zm_draw hL hS.2.1 (h0 := h) hMl _ _ (fun h1 hf1 hs1 => ?_) (zM L) 0 h (by omega) (zFr.refl _ h) (by rw [zDraw_0]; exact hs)
    have hMl1 := zMl_fr hf1 (by decide) hMl
    refine ⟨_, c_MogoesBy hL (hS1.sg (by omega)) (by have := hS1.1; omega) h1 hMl1 hs1, fun v h2 hp => ?_⟩
    obtain ⟨ev, hf, hs2⟩ := hp
    rw [ev]
    refine q_Modrift_104 _ _ h2 ?_
    rw [nI_1]
    refine ih (a + 1) (zHour L (zDraw L S (zM L))) (B + 1) h2 (by omega) (by omega) (zHour_ok hL (by omega) hS1) (zMl_fr hf (by decide) hMl1) hs2 (fun h3 hf3 hs3 => ?_)
    exact hP h3 ((hf1.trans hf).trans hf3) hs3
end HR
theorem z_W0 {L : ZL} (hL : zLok L) : (zW L = 0 ∧ f_Ldcells (nI (zW L)) (nI (zG L)) = 0) ∨ (0 < zW L ∧ ¬ f_Ldcells (nI (zW L)) (nI (zG L)) = 0) := by
  unfold f_Ldcells
  rw [pk_mul]
  rcases Nat.eq_zero_or_pos (zW L) with q | q
  · left; exact ⟨q, by rw [q, Nat.zero_mul, nI_0]⟩
  · right
    have := hL.2.2.1
    have h1 := hL.2.2.2.1 q
    have h2 : 0 < zW L * zG L := Nat.mul_pos q h1
    unfold zA at this
    exact ⟨q, nI_ne0 h2 (by omega)⟩
theorem p_hour (E : jEnv) (x : Int32) : jPair E 100 zInv mX7_hour mX8_hour [.int x] := by
  intro j h hj hI
  have hI' := hI
  obtain ⟨L, S, hL, hCl, hMl, hS, hCs, hMs, hIm, hFt, hBk, hTx, hFa⟩ := hI
  have hin : f_Moin x.toInt64 1 99 = if 1 ≤ x.toInt ∧ x.toInt ≤ 99 then 1 else 0 := by
    rw [z_Moin, z_l]; rfl
  have hx1 : x < 1 ↔ x.toInt < 1 := by rw [Int32.lt_iff_toInt_lt]; rfl
  have hx8 : x ≤ 99 ↔ x.toInt ≤ 99 := by rw [Int32.le_iff_toInt_le]; rfl
  by_cases hx : 1 ≤ x.toInt ∧ x.toInt ≤ 99
  · rw [if_pos hx] at hin
    rcases z_W0 hL with ⟨hw, hc⟩ | ⟨hw, hc⟩
    · have c1 : jC E mX7_hour 100 [.ref 0, .int x] h (fun v h2 => v = some (.int (-1000000003)) ∧ h2 = h) := by
        refine jC.of (lv := [some (.ref 0), some (.int x)]) (by decide) (Nat.le_of_ble_eq_true rfl) ⟨rfl, rfl, trivial⟩ (q_Shhour_0 (n := 99) x h ?_)
        refine ⟨fun v h2 => v = some (.int (-1000000003)) ∧ h2 = h, ?_, fun v h2 hp => by rw [hp.1, hp.2]; exact q_Shhour_6 _ h ⟨rfl, rfl⟩⟩
        exact jC.of (lv := [some (.ref 0), some (.int x), some (.int 0), none]) (by decide) (Nat.le_of_ble_eq_true rfl) ⟨rfl, rfl, rfl, trivial⟩ (q_ShletPass_0 (n := 98) x 0 h (fun c => absurd (hx1.mp c) (by omega)) (fun _ _ _ => ⟨rfl, rfl⟩) (fun _ _ c => absurd (by rw [hCl.1.1, hCl.1.2.1]; exact hc) c) (fun _ c => absurd (hx8.mpr hx.2) c))
      have c2 : jC E mX8_hour 100 [.ref 52, .int x] h (fun v h2 => v = some (.int (-1000000003)) ∧ h2 = h) :=
        jC.of (lv := [some (.ref 52), some (.int x), none]) (by decide) (Nat.le_of_ble_eq_true rfl) ⟨rfl, rfl, trivial⟩ (q_Mohour_0 (n := 99) x h (fun c => by rw [hin] at c; exact absurd c one0) (fun _ _ => ⟨rfl, rfl⟩) (fun _ c => absurd (by rw [hMl.1.1, hw]; rfl) c))
      exact z_pair c1 c2 rfl (zInv_mono j h hI')
    · obtain ⟨N, hN, rfl⟩ : ∃ N : Nat, (1 ≤ N ∧ N ≤ 99) ∧ x = nI N := ⟨x.toInt.toNat, by omega, z_of (by omega)⟩
      have c1 : jC E mX7_hour 100 [.ref 0, .int (nI N)] h (fun v h2 => v = some (.int (nI (zH (zIt (zHour L) N S)))) ∧ zFr [18, 19, 20, 21, 22, 23] h h2 ∧ zCs L (zIt (zHour L) N S) 18 h2) := by
        refine jC.of (lv := [some (.ref 0), some (.int (nI N))]) (by decide) (Nat.le_of_ble_eq_true rfl) ⟨rfl, rfl, trivial⟩ (q_Shhour_0 (n := 99) (nI N) h ?_)
        refine ⟨fun v h2 => v = some (.int (nI (zH (zIt (zHour L) N S)))) ∧ zFr [18, 19, 20, 21, 22, 23] h h2 ∧ zCs L (zIt (zHour L) N S) 18 h2, ?_, fun v h2 hp => by rw [hp.1]; exact q_Shhour_6 _ h2 ⟨rfl, hp.2⟩⟩
        refine jC.of (lv := [some (.ref 0), some (.int (nI N)), some (.int 0), none]) (by decide) (Nat.le_of_ble_eq_true rfl) ⟨rfl, rfl, rfl, trivial⟩ (q_ShletPass_0 (n := 98) (nI N) 0 h (fun c => absurd (hx1.mp c) (by omega)) (fun _ _ c => absurd c (by rw [hCl.1.1, hCl.1.2.1]; exact hc)) (fun _ _ _ => ?_) (fun _ c => absurd (hx8.mpr hx.2) c))
        exact zc_hours (n := 94) hL N hN.2 N 0 S (99 * j) h (by omega) (by omega) hS hCl hCs (fun h2 hf hs => ⟨rfl, hf, hs⟩)
      refine ⟨_, c1, fun v h2 hp => ?_⟩
      obtain ⟨ev, hf, hs⟩ := hp
      have hMl2 := zMl_fr hf (by decide) hMl
      have hMs2 : zMs L S (h2.1 56) := by rw [(hf 56 (by decide)).1]; exact hMs
      have c2 : jC E mX8_hour 100 [.ref 52, .int (nI N)] h2 (fun v h3 => v = some (.int (nI (zH (zIt (zHour L) N S)))) ∧ zFr [56] h2 h3 ∧ zMs L (zIt (zHour L) N S) (h3.1 56)) := by
        refine jC.of (lv := [some (.ref 52), some (.int (nI N)), none]) (by decide) (Nat.le_of_ble_eq_true rfl) ⟨rfl, rfl, trivial⟩ (q_Mohour_0 (n := 99) (nI N) h2 (fun c => by rw [hin] at c; exact absurd c one0) (fun _ c => absurd c (by rw [hMl2.1.1]; exact nI_ne0 hw (by have := hL.1; omega))) (fun _ _ => ?_))
        exact zm_hours (n := 95) hL N hN.2 N 0 S (99 * j) h2 (by omega) (by omega) hS hMl2 hMs2 (fun h3 hf3 hs3 => ⟨rfl, hf3, hs3⟩)
      refine ⟨_, ev, _, c2, fun v2 h3 hp2 => ?_⟩
      obtain ⟨ev2, hf3, hs3⟩ := hp2
      refine ⟨ev2, zInv_st hL hCl hMl hIm hFt hBk hTx hFa ((hf.sub (by decide)).trans (hf3.sub (by decide))) (fun i _ => by rw [(hf3 52 (by decide)).1, (hf 52 (by decide)).1]) ?_ ?_ hs3⟩
      · refine zSok.mono (B := 99 * j + N) (by omega) ?_
        exact zIt_ok hL (fun S B hB hS => zHour_ok hL (by omega) hS) N S (99 * j) (by omega) hS
      · exact zCs_c (hf3 18 (by decide)).1 (hf3 18 (by decide)).2 (hf3 19 (by decide)).1 (hf3 20 (by decide)).1 (hf3 21 (by decide)).1 (hf3 22 (by decide)).1 (hf3 23 (by decide)).1 hs
  · rw [if_neg hx] at hin
    have c1 : jC E mX7_hour 100 [.ref 0, .int x] h (fun v h2 => v = some (.int (-1000000002)) ∧ h2 = h) := by
      refine jC.of (lv := [some (.ref 0), some (.int x)]) (by decide) (Nat.le_of_ble_eq_true rfl) ⟨rfl, rfl, trivial⟩ (q_Shhour_0 (n := 99) x h ?_)
      refine ⟨fun v h2 => v = some (.int (-1000000002)) ∧ h2 = h, ?_, fun v h2 hp => by rw [hp.1, hp.2]; exact q_Shhour_6 _ h ⟨rfl, rfl⟩⟩
      exact jC.of (lv := [some (.ref 0), some (.int x), some (.int 0), none]) (by decide) (Nat.le_of_ble_eq_true rfl) ⟨rfl, rfl, rfl, trivial⟩ (q_ShletPass_0 (n := 98) x 0 h (fun _ => ⟨rfl, rfl⟩) (fun w1 w2 _ => absurd ⟨by have := mt hx1.mpr w1; omega, hx8.mp w2⟩ hx) (fun w1 w2 _ => absurd ⟨by have := mt hx1.mpr w1; omega, hx8.mp w2⟩ hx) (fun _ _ => ⟨rfl, rfl⟩))
    have c2 : jC E mX8_hour 100 [.ref 52, .int x] h (fun v h2 => v = some (.int (-1000000002)) ∧ h2 = h) :=
      jC.of (lv := [some (.ref 52), some (.int x), none]) (by decide) (Nat.le_of_ble_eq_true rfl) ⟨rfl, rfl, trivial⟩ (q_Mohour_0 (n := 99) x h (fun _ => ⟨rfl, rfl⟩) (fun c => absurd hin c) (fun c => absurd hin c))
    exact z_pair c1 c2 rfl (zInv_mono j h hI')
theorem p_drift (E : jEnv) (x : Int32) : jPair E 100 zInv mX7_drift mX8_drift [.int x] := by
  intro j h hj hI
  have hI' := hI
  obtain ⟨L, S, hL, hCl, hMl, hS, hCs, hMs, hIm, hFt, hBk, hTx, hFa⟩ := hI
  have hin : f_Moin x.toInt64 1 99 = if 1 ≤ x.toInt ∧ x.toInt ≤ 99 then 1 else 0 := by
    rw [z_Moin, z_l]; rfl
  have hx1 : x < 1 ↔ x.toInt < 1 := by rw [Int32.lt_iff_toInt_lt]; rfl
  have hx8 : x ≤ 99 ↔ x.toInt ≤ 99 := by rw [Int32.le_iff_toInt_le]; rfl
  by_cases hx : 1 ≤ x.toInt ∧ x.toInt ≤ 99
  · rw [if_pos hx] at hin
    rcases z_W0 hL with ⟨hw, hc⟩ | ⟨hw, hc⟩
    · have c1 : jC E mX7_drift 100 [.ref 0, .int x] h (fun v h2 => v = some (.int (-1000000003)) ∧ h2 = h) := by
        refine jC.of (lv := [some (.ref 0), some (.int x)]) (by decide) (Nat.le_of_ble_eq_true rfl) ⟨rfl, rfl, trivial⟩ (q_Shdrift_0 (n := 99) x h ?_)
        refine ⟨fun v h2 => v = some (.int (-1000000003)) ∧ h2 = h, ?_, fun v h2 hp => by rw [hp.1, hp.2]; exact q_Shdrift_6 _ h ⟨rfl, rfl⟩⟩
        exact jC.of (lv := [some (.ref 0), some (.int x), some (.int 1), none]) (by decide) (Nat.le_of_ble_eq_true rfl) ⟨rfl, rfl, rfl, trivial⟩ (q_ShletPass_0 (n := 98) x 1 h (fun c => absurd (hx1.mp c) (by omega)) (fun _ _ _ => ⟨rfl, rfl⟩) (fun _ _ c => absurd (by rw [hCl.1.1, hCl.1.2.1]; exact hc) c) (fun _ c => absurd (hx8.mpr hx.2) c))
      have c2 : jC E mX8_drift 100 [.ref 52, .int x] h (fun v h2 => v = some (.int (-1000000003)) ∧ h2 = h) :=
        jC.of (lv := [some (.ref 52), some (.int x), none, none]) (by decide) (Nat.le_of_ble_eq_true rfl) ⟨rfl, rfl, trivial⟩ (q_Modrift_0 (n := 99) x h (fun c => by rw [hin] at c; exact absurd c one0) (fun _ _ => ⟨rfl, rfl⟩) (fun _ c => absurd (by rw [hMl.1.1, hw]; rfl) c))
      exact z_pair c1 c2 rfl (zInv_mono j h hI')
    · obtain ⟨N, hN, rfl⟩ : ∃ N : Nat, (1 ≤ N ∧ N ≤ 99) ∧ x = nI N := ⟨x.toInt.toNat, by omega, z_of (by omega)⟩
      have c1 : jC E mX7_drift 100 [.ref 0, .int (nI N)] h (fun v h2 => v = some (.int (nI (zH (zIt (fun S => zHour L (zDraw L S (zM L))) N S)))) ∧ zFr [18, 19, 20, 21, 22, 23] h h2 ∧ zCs L (zIt (fun S => zHour L (zDraw L S (zM L))) N S) 18 h2) := by
        refine jC.of (lv := [some (.ref 0), some (.int (nI N))]) (by decide) (Nat.le_of_ble_eq_true rfl) ⟨rfl, rfl, trivial⟩ (q_Shdrift_0 (n := 99) (nI N) h ?_)
        refine ⟨fun v h2 => v = some (.int (nI (zH (zIt (fun S => zHour L (zDraw L S (zM L))) N S)))) ∧ zFr [18, 19, 20, 21, 22, 23] h h2 ∧ zCs L (zIt (fun S => zHour L (zDraw L S (zM L))) N S) 18 h2, ?_, fun v h2 hp => by rw [hp.1]; exact q_Shdrift_6 _ h2 ⟨rfl, hp.2⟩⟩
        refine jC.of (lv := [some (.ref 0), some (.int (nI N)), some (.int 1), none]) (by decide) (Nat.le_of_ble_eq_true rfl) ⟨rfl, rfl, rfl, trivial⟩ (q_ShletPass_0 (n := 98) (nI N) 1 h (fun c => absurd (hx1.mp c) (by omega)) (fun _ _ c => absurd c (by rw [hCl.1.1, hCl.1.2.1]; exact hc)) (fun _ _ _ => ?_) (fun _ c => absurd (hx8.mpr hx.2) c))
        exact zc_drift (n := 94) hL N hN.2 N 0 S (99 * j) h (by omega) (by omega) hS hCl hCs (fun h2 hf hs => ⟨rfl, hf, hs⟩)
      refine ⟨_, c1, fun v h2 hp => ?_⟩
      obtain ⟨ev, hf, hs⟩ := hp
      have hMl2 := zMl_fr hf (by decide) hMl
      have hMs2 : zMs L S (h2.1 56) := by rw [(hf 56 (by decide)).1]; exact hMs
      have c2 : jC E mX8_drift 100 [.ref 52, .int (nI N)] h2 (fun v h3 => v = some (.int (nI (zH (zIt (fun S => zHour L (zDraw L S (zM L))) N S)))) ∧ zFr [56] h2 h3 ∧ zMs L (zIt (fun S => zHour L (zDraw L S (zM L))) N S) (h3.1 56)) := by
        refine jC.of (lv := [some (.ref 52), some (.int (nI N)), none, none]) (by decide) (Nat.le_of_ble_eq_true rfl) ⟨rfl, rfl, trivial⟩ (q_Modrift_0 (n := 99) (nI N) h2 (fun c => by rw [hin] at c; exact absurd c one0) (fun _ c => absurd c (by rw [hMl2.1.1]; exact nI_ne0 hw (by have := hL.1; omega))) (fun _ _ => ?_))
        exact zm_drift (n := 95) hL N hN.2 N 0 S (99 * j) h2 (by omega) (by omega) hS hMl2 hMs2 (fun h3 hf3 hs3 => ⟨rfl, hf3, hs3⟩)
      refine ⟨_, ev, _, c2, fun v2 h3 hp2 => ?_⟩
      obtain ⟨ev2, hf3, hs3⟩ := hp2
      refine ⟨ev2, zInv_st hL hCl hMl hIm hFt hBk hTx hFa ((hf.sub (by decide)).trans (hf3.sub (by decide))) (fun i _ => by rw [(hf3 52 (by decide)).1, (hf 52 (by decide)).1]) ?_ ?_ hs3⟩
      · refine zSok.mono (B := 99 * j + N) (by omega) ?_
        exact zIt_ok hL (fun S B hB hS => zHour_ok hL (by omega) (zDraw_ok hS)) N S (99 * j) (by omega) hS
      · exact zCs_c (hf3 18 (by decide)).1 (hf3 18 (by decide)).2 (hf3 19 (by decide)).1 (hf3 20 (by decide)).1 (hf3 21 (by decide)).1 (hf3 22 (by decide)).1 (hf3 23 (by decide)).1 hs
  · rw [if_neg hx] at hin
    have c1 : jC E mX7_drift 100 [.ref 0, .int x] h (fun v h2 => v = some (.int (-1000000002)) ∧ h2 = h) := by
      refine jC.of (lv := [some (.ref 0), some (.int x)]) (by decide) (Nat.le_of_ble_eq_true rfl) ⟨rfl, rfl, trivial⟩ (q_Shdrift_0 (n := 99) x h ?_)
      refine ⟨fun v h2 => v = some (.int (-1000000002)) ∧ h2 = h, ?_, fun v h2 hp => by rw [hp.1, hp.2]; exact q_Shdrift_6 _ h ⟨rfl, rfl⟩⟩
      exact jC.of (lv := [some (.ref 0), some (.int x), some (.int 1), none]) (by decide) (Nat.le_of_ble_eq_true rfl) ⟨rfl, rfl, rfl, trivial⟩ (q_ShletPass_0 (n := 98) x 1 h (fun _ => ⟨rfl, rfl⟩) (fun w1 w2 _ => absurd ⟨by have := mt hx1.mpr w1; omega, hx8.mp w2⟩ hx) (fun w1 w2 _ => absurd ⟨by have := mt hx1.mpr w1; omega, hx8.mp w2⟩ hx) (fun _ _ => ⟨rfl, rfl⟩))
    have c2 : jC E mX8_drift 100 [.ref 52, .int x] h (fun v h2 => v = some (.int (-1000000002)) ∧ h2 = h) :=
      jC.of (lv := [some (.ref 52), some (.int x), none, none]) (by decide) (Nat.le_of_ble_eq_true rfl) ⟨rfl, rfl, trivial⟩ (q_Modrift_0 (n := 99) x h (fun _ => ⟨rfl, rfl⟩) (fun c => absurd hin c) (fun c => absurd hin c))
    exact z_pair c1 c2 rfl (zInv_mono j h hI')
theorem z_fill12 {E : jEnv} {n : Nat} {X : State → Prop} {P : Option Value → HP → Prop} {h0 : HP} (x : Int32) (kx : ∀ h, zFr [12] h0 h → (∀ i, i < 36 → h.1 12 i = x) → P none h) : ∀ (q a : Nat) (h : HP), a + q = 36 → zFr [12] h0 h → (∀ i, i < a → h.1 12 i = x) → jG E mJ7_fill_53178 n X P 5 [some (.ref 12), some (.int x), some (.int (nI a)), some (.int 36)] [] h := by
  intro q
  induction q with
  | zero =>
    intro a h ha hf hs
    obtain rfl : a = 36 := by omega
    exact q_fill12_5 _ _ _ h (fun _ => kx h hf hs) (fun c => absurd (by decide) c) (fun c => absurd (by decide) c)
  | succ q ih =>
    intro a h ha hf hs
    have hlt : ¬ (36 : Int32) ≤ nI a := by rw [show (36 : Int32) = nI 36 from rfl]; exact nI_ge (by omega) (by omega)
    refine q_fill12_5 _ _ _ h (fun c => absurd c hlt) (fun _ => z_vp (by omega) (by omega)) (fun _ => ?_)
    rw [nI_1, nI_clamp (by omega)]
    refine ih (a + 1) _ (by omega) (hf.trans (zFr_I (by decide))) (fun i hi => ?_)
    show upd (h.1 12) a x i = x
    by_cases he : i = a
    · rw [he, upd_eq]
    · rw [upd_ne he]; exact hs i (by omega)
theorem c_fill12 {E : jEnv} {n : Nat} (x : Int32) (h : HP) : jC E mJ7_fill_53178 n [.ref 12, .int x] h (fun v h2 => v = none ∧ zFr [12] h h2 ∧ ∀ i, i < 36 → h2.1 12 i = x) :=
  jC.of (lv := [some (.ref 12), some (.int x), none, none]) (by decide) (Nat.le_of_ble_eq_true rfl) ⟨rfl, rfl, trivial⟩ (q_fill12_0 x h (z_fill12 x (fun h2 hf hs => ⟨rfl, hf, hs⟩) 36 0 h (by omega) (zFr.refl _ h) (fun i hi => absurd hi (by omega))))
theorem z_fill21 {E : jEnv} {n : Nat} {X : State → Prop} {P : Option Value → HP → Prop} {h0 : HP} (x : Int32) (kx : ∀ h, zFr [21] h0 h → (∀ i, i < 4 → h.1 21 i = x) → P none h) : ∀ (q a : Nat) (h : HP), a + q = 4 → zFr [21] h0 h → (∀ i, i < a → h.1 21 i = x) → jG E mJ7_fill_53178 n X P 5 [some (.ref 21), some (.int x), some (.int (nI a)), some (.int 4)] [] h := by
  intro q
  induction q with
  | zero =>
    intro a h ha hf hs
    obtain rfl : a = 4 := by omega
    exact q_fill21_5 _ _ _ h (fun _ => kx h hf hs) (fun c => absurd (by decide) c) (fun c => absurd (by decide) c)
  | succ q ih =>
    intro a h ha hf hs
    have hlt : ¬ (4 : Int32) ≤ nI a := by rw [show (4 : Int32) = nI 4 from rfl]; exact nI_ge (by omega) (by omega)
    refine q_fill21_5 _ _ _ h (fun c => absurd c hlt) (fun _ => z_vp (by omega) (by omega)) (fun _ => ?_)
    rw [nI_1, nI_clamp (by omega)]
    refine ih (a + 1) _ (by omega) (hf.trans (zFr_I (by decide))) (fun i hi => ?_)
    show upd (h.1 21) a x i = x
    by_cases he : i = a
    · rw [he, upd_eq]
    · rw [upd_ne he]; exact hs i (by omega)
theorem c_fill21 {E : jEnv} {n : Nat} (x : Int32) (h : HP) : jC E mJ7_fill_53178 n [.ref 21, .int x] h (fun v h2 => v = none ∧ zFr [21] h h2 ∧ ∀ i, i < 4 → h2.1 21 i = x) :=
  jC.of (lv := [some (.ref 21), some (.int x), none, none]) (by decide) (Nat.le_of_ble_eq_true rfl) ⟨rfl, rfl, trivial⟩ (q_fill21_0 x h (z_fill21 x (fun h2 hf hs => ⟨rfl, hf, hs⟩) 4 0 h (by omega) (zFr.refl _ h) (fun i hi => absurd hi (by omega))))
theorem z_fill22 {E : jEnv} {n : Nat} {X : State → Prop} {P : Option Value → HP → Prop} {h0 : HP} (x : Int32) (kx : ∀ h, zFr [22] h0 h → (∀ i, i < 4 → h.1 22 i = x) → P none h) : ∀ (q a : Nat) (h : HP), a + q = 4 → zFr [22] h0 h → (∀ i, i < a → h.1 22 i = x) → jG E mJ7_fill_53178 n X P 5 [some (.ref 22), some (.int x), some (.int (nI a)), some (.int 4)] [] h := by
  intro q
  induction q with
  | zero =>
    intro a h ha hf hs
    obtain rfl : a = 4 := by omega
    exact q_fill22_5 _ _ _ h (fun _ => kx h hf hs) (fun c => absurd (by decide) c) (fun c => absurd (by decide) c)
  | succ q ih =>
    intro a h ha hf hs
    have hlt : ¬ (4 : Int32) ≤ nI a := by rw [show (4 : Int32) = nI 4 from rfl]; exact nI_ge (by omega) (by omega)
    refine q_fill22_5 _ _ _ h (fun c => absurd c hlt) (fun _ => z_vp (by omega) (by omega)) (fun _ => ?_)
    rw [nI_1, nI_clamp (by omega)]
    refine ih (a + 1) _ (by omega) (hf.trans (zFr_I (by decide))) (fun i hi => ?_)
    show upd (h.1 22) a x i = x
    by_cases he : i = a
    · rw [he, upd_eq]
    · rw [upd_ne he]; exact hs i (by omega)
theorem c_fill22 {E : jEnv} {n : Nat} (x : Int32) (h : HP) : jC E mJ7_fill_53178 n [.ref 22, .int x] h (fun v h2 => v = none ∧ zFr [22] h h2 ∧ ∀ i, i < 4 → h2.1 22 i = x) :=
  jC.of (lv := [some (.ref 22), some (.int x), none, none]) (by decide) (Nat.le_of_ble_eq_true rfl) ⟨rfl, rfl, trivial⟩ (q_fill22_0 x h (z_fill22 x (fun h2 hf hs => ⟨rfl, hf, hs⟩) 4 0 h (by omega) (zFr.refl _ h) (fun i hi => absurd hi (by omega))))
theorem z_fill23 {E : jEnv} {n : Nat} {X : State → Prop} {P : Option Value → HP → Prop} {h0 : HP} (x : Int32) (kx : ∀ h, zFr [23] h0 h → (∀ i, i < 4 → h.1 23 i = x) → P none h) : ∀ (q a : Nat) (h : HP), a + q = 4 → zFr [23] h0 h → (∀ i, i < a → h.1 23 i = x) → jG E mJ7_fill_53178 n X P 5 [some (.ref 23), some (.int x), some (.int (nI a)), some (.int 4)] [] h := by
  intro q
  induction q with
  | zero =>
    intro a h ha hf hs
    obtain rfl : a = 4 := by omega
    exact q_fill23_5 _ _ _ h (fun _ => kx h hf hs) (fun c => absurd (by decide) c) (fun c => absurd (by decide) c)
  | succ q ih =>
    intro a h ha hf hs
    have hlt : ¬ (4 : Int32) ≤ nI a := by rw [show (4 : Int32) = nI 4 from rfl]; exact nI_ge (by omega) (by omega)
    refine q_fill23_5 _ _ _ h (fun c => absurd c hlt) (fun _ => z_vp (by omega) (by omega)) (fun _ => ?_)
    rw [nI_1, nI_clamp (by omega)]
    refine ih (a + 1) _ (by omega) (hf.trans (zFr_I (by decide))) (fun i hi => ?_)
    show upd (h.1 23) a x i = x
    by_cases he : i = a
    · rw [he, upd_eq]
    · rw [upd_ne he]; exact hs i (by omega)
theorem c_fill23 {E : jEnv} {n : Nat} (x : Int32) (h : HP) : jC E mJ7_fill_53178 n [.ref 23, .int x] h (fun v h2 => v = none ∧ zFr [23] h h2 ∧ ∀ i, i < 4 → h2.1 23 i = x) :=
  jC.of (lv := [some (.ref 23), some (.int x), none, none]) (by decide) (Nat.le_of_ble_eq_true rfl) ⟨rfl, rfl, trivial⟩ (q_fill23_0 x h (z_fill23 x (fun h2 hf hs => ⟨rfl, hf, hs⟩) 4 0 h (by omega) (zFr.refl _ h) (fun i hi => absurd hi (by omega))))
theorem z_fill25 {E : jEnv} {n : Nat} {X : State → Prop} {P : Option Value → HP → Prop} {h0 : HP} (x : Int32) (kx : ∀ h, zFr [25] h0 h → (∀ i, i < 4 → h.1 25 i = x) → P none h) : ∀ (q a : Nat) (h : HP), a + q = 4 → zFr [25] h0 h → (∀ i, i < a → h.1 25 i = x) → jG E mJ7_fill_53178 n X P 5 [some (.ref 25), some (.int x), some (.int (nI a)), some (.int 4)] [] h := by
  intro q
  induction q with
  | zero =>
    intro a h ha hf hs
    obtain rfl : a = 4 := by omega
    exact q_fill25_5 _ _ _ h (fun _ => kx h hf hs) (fun c => absurd (by decide) c) (fun c => absurd (by decide) c)
  | succ q ih =>
    intro a h ha hf hs
    have hlt : ¬ (4 : Int32) ≤ nI a := by rw [show (4 : Int32) = nI 4 from rfl]; exact nI_ge (by omega) (by omega)
    refine q_fill25_5 _ _ _ h (fun c => absurd c hlt) (fun _ => z_vp (by omega) (by omega)) (fun _ => ?_)
    rw [nI_1, nI_clamp (by omega)]
    refine ih (a + 1) _ (by omega) (hf.trans (zFr_I (by decide))) (fun i hi => ?_)
    show upd (h.1 25) a x i = x
    by_cases he : i = a
    · rw [he, upd_eq]
    · rw [upd_ne he]; exact hs i (by omega)
theorem c_fill25 {E : jEnv} {n : Nat} (x : Int32) (h : HP) : jC E mJ7_fill_53178 n [.ref 25, .int x] h (fun v h2 => v = none ∧ zFr [25] h h2 ∧ ∀ i, i < 4 → h2.1 25 i = x) :=
  jC.of (lv := [some (.ref 25), some (.int x), none, none]) (by decide) (Nat.le_of_ble_eq_true rfl) ⟨rfl, rfl, trivial⟩ (q_fill25_0 x h (z_fill25 x (fun h2 hf hs => ⟨rfl, hf, hs⟩) 4 0 h (by omega) (zFr.refl _ h) (fun i hi => absurd hi (by omega))))
theorem z_fill37 {E : jEnv} {n : Nat} {X : State → Prop} {P : Option Value → HP → Prop} {h0 : HP} (x : Int32) (kx : ∀ h, zFr [37] h0 h → (∀ i, i < 4 → h.1 37 i = x) → P none h) : ∀ (q a : Nat) (h : HP), a + q = 4 → zFr [37] h0 h → (∀ i, i < a → h.1 37 i = x) → jG E mJ7_fill_53178 n X P 5 [some (.ref 37), some (.int x), some (.int (nI a)), some (.int 4)] [] h := by
  intro q
  induction q with
  | zero =>
    intro a h ha hf hs
    obtain rfl : a = 4 := by omega
    exact q_fill37_5 _ _ _ h (fun _ => kx h hf hs) (fun c => absurd (by decide) c) (fun c => absurd (by decide) c)
  | succ q ih =>
    intro a h ha hf hs
    have hlt : ¬ (4 : Int32) ≤ nI a := by rw [show (4 : Int32) = nI 4 from rfl]; exact nI_ge (by omega) (by omega)
    refine q_fill37_5 _ _ _ h (fun c => absurd c hlt) (fun _ => z_vp (by omega) (by omega)) (fun _ => ?_)
    rw [nI_1, nI_clamp (by omega)]
    refine ih (a + 1) _ (by omega) (hf.trans (zFr_I (by decide))) (fun i hi => ?_)
    show upd (h.1 37) a x i = x
    by_cases he : i = a
    · rw [he, upd_eq]
    · rw [upd_ne he]; exact hs i (by omega)
theorem c_fill37 {E : jEnv} {n : Nat} (x : Int32) (h : HP) : jC E mJ7_fill_53178 n [.ref 37, .int x] h (fun v h2 => v = none ∧ zFr [37] h h2 ∧ ∀ i, i < 4 → h2.1 37 i = x) :=
  jC.of (lv := [some (.ref 37), some (.int x), none, none]) (by decide) (Nat.le_of_ble_eq_true rfl) ⟨rfl, rfl, trivial⟩ (q_fill37_0 x h (z_fill37 x (fun h2 hf hs => ⟨rfl, hf, hs⟩) 4 0 h (by omega) (zFr.refl _ h) (fun i hi => absurd hi (by omega))))
/-! judge -/
def zJu (L : ZL) (S : ZS) (bm bd : Nat → Nat) : Nat → Nat → (Nat → Nat) → (Nat → Nat) → Int32
  | 0, _, _, _ => -1
  | k + 1, i, ce, ct => if zWl L (zSk S) (ce (bm i)) (bd i) (zSl S (bm i)) (zH S + ct (bm i) + 1) = 99 then nI i else zJu L S bm bd k (i + 1) (up1 (bm i) (zWl L (zSk S) (ce (bm i)) (bd i) (zSl S (bm i)) (zH S + ct (bm i) + 1)) ce) (up1 (bm i) (ct (bm i) + 1) ct)
section JU
variable {E : jEnv} {n : Nat} {X : State → Prop} {P : Option Value → HP → Prop} {L : ZL} {S : ZS} {bm bd : Nat → Nat} {N : Nat}
theorem zc_judge (hL : zLok L) (hS : zSg L S) (hN : N ≤ 40) {h0 : HP} (hCl : zCl L h0) (hs : zCs L S 18 h0) (h33 : h0.1 33 1 = nI N) (hb : ∀ i, i < N → bm i < zM L ∧ bd i ≤ 4 ∧ h0.1 34 i = nI (bm i) ∧ h0.1 35 i = nI (bd i)) : ∀ (k i : Nat) (ce ct : Nat → Nat) (h : HP), i + k = N → zFr [36, 37] h0 h → (∀ m, m < zM L → ce m < zA L ∧ ct m ≤ i ∧ h.1 36 m = nI (ce m) ∧ h.1 37 m = nI (zH S + ct m)) → (∀ h2, zFr [36, 37] h0 h2 → P (some (.int (zJu L S bm bd k i ce ct))) h2) → jG E mX0_firstWrong (n + 4) X P 33 [some (.ref 33), some (.int (nI i)), none, none] [] h := by
  have hM : zM L ≤ 4 := hL.2.2.2.2.2.1
  have hA := hL.2.2.1
  intro k
  induction k with
  | zero =>
    intro i ce ct h hi hf hq hP
    obtain rfl : i = N := by omega
    have hle : h.1 33 1 ≤ nI i := by rw [(hf 33 (by decide)).1, h33]; exact Int32.le_refl _
    exact q_BkfirstWrong_33 _ h (fun _ => hP h hf) (fun c => absurd hle c) (fun c => absurd hle c) (fun c => absurd hle c) (fun c => absurd hle c) (fun c => absurd hle c) (fun c => absurd hle c) (fun c => absurd hle c) (fun c => absurd hle c) (fun c => absurd hle c) (fun c => absurd hle c) (fun c => absurd hle c)
  | succ k ih =>
    intro i ce ct h hi hf hq hP
    have hCl' := zCl_fr hf (by decide) hCl
    have hlt : ¬ h.1 33 1 ≤ nI i := by rw [(hf 33 (by decide)).1, h33]; exact nI_ge (by omega) (by omega)
    have hcl : (nI i).toNatClampNeg = i := nI_clamp (by omega)
    obtain ⟨b1, b2, b3, b4⟩ := hb i (by omega)
    have e34 : h.1 34 i = nI (bm i) := by rw [(hf 34 (by decide)).1]; exact b3
    have e35 : h.1 35 i = nI (bd i) := by rw [(hf 35 (by decide)).1]; exact b4
    have hcm : (nI (bm i)).toNatClampNeg = bm i := nI_clamp (by omega)
    obtain ⟨q1, q2, q3, q4⟩ := hq (bm i) b1
    have e20 : h.1 20 (bm i) = nI (zSl S (bm i)) := by rw [(hf 20 (by decide)).1]; exact (hs.2.2.2 _ b1).2.1
    have e183 : h.2 18 3 = h0.2 18 3 := by rw [(hf 18 (by decide)).2]
    have hH := hS.1
    have ht : zH S + ct (bm i) + 1 < 2 ^ 31 := by omega
    have hv : vp_in (h.1 34 (nI i).toNatClampNeg) 4 := by rw [hcl, e34]; exact z_vp (by omega) (by omega)
    have hvi : vp_in (nI i) 40 := z_vp (by omega) (by omega)
    have ew : f_StwayLeads (h.1 3 0) (h.1 3 1) (h.1 3 2) (h.2 18 3) (h.1 4) (h.1 5) (h.1 36 ((h.1 34 (nI i).toNatClampNeg).toNatClampNeg)) (h.1 35 (nI i).toNatClampNeg) (h.1 20 ((h.1 34 (nI i).toNatClampNeg).toNatClampNeg)) ((h.1 37 ((h.1 34 (nI i).toNatClampNeg).toNatClampNeg)) + 1) = zI (zWl L (zSk S) (ce (bm i)) (bd i) (zSl S (bm i)) (zH S + ct (bm i) + 1)) := by
      rw [hcl, e34, hcm, q3, q4, e35, e20, nI_1, hCl'.1.1, hCl'.1.2.1, hCl'.1.2.2.1]
      exact z_wayC hL hCl'.2.1 hCl'.2.2.1 (by rw [e183]; exact hs.2.2.1) q1 b2 (hS.2 _ b1).2.1 ht
    have hwl := zWl_lt hL (K := zSk S) (l := zSl S (bm i)) (t := zH S + ct (bm i) + 1) q1 b2
    refine q_BkfirstWrong_33 _ h (fun c => absurd c hlt) (fun _ => hvi) (fun _ => hv) (fun _ => hv) (fun _ => hv) (fun _ => hvi) (fun _ => hv) (fun _ => hv) (fun _ _ _ _ _ _ _ => by rw [hCl'.1.2.2.1, hcl, e34, hcm, q4, nI_1]; exact z_tin hL ht) (fun _ w => ?_) (fun _ _ => hv) (fun _ w => ?_)
    · rw [ew] at w
      have w' : zWl L (zSk S) (ce (bm i)) (bd i) (zSl S (bm i)) (zH S + ct (bm i) + 1) = 99 := by
        rcases hwl with q | q
        · exact q
        · exact absurd w (zI_in (by omega)).2
      have := hP (jPI h 37 ((h.1 34 (nI i).toNatClampNeg).toNatClampNeg) ((h.1 37 ((h.1 34 (nI i).toNatClampNeg).toNatClampNeg)) + 1)) (hf.trans (zFr_I (by decide)))
      unfold zJu at this
      rw [if_pos w'] at this
      exact this
    · rw [ew] at w
      have w' : ¬ zWl L (zSk S) (ce (bm i)) (bd i) (zSl S (bm i)) (zH S + ct (bm i) + 1) = 99 := fun q => w (by rw [q]; rfl)
      have hlt2 := hwl.resolve_left w'
      rw [ew, hcl, e34, hcm, q4, nI_1, nI_1, (zI_in (by omega)).1]
      refine ih (i + 1) (up1 (bm i) (zWl L (zSk S) (ce (bm i)) (bd i) (zSl S (bm i)) (zH S + ct (bm i) + 1)) ce) (up1 (bm i) (ct (bm i) + 1) ct) _ (by omega) (hf.trans ((zFr_I (by decide)).trans (zFr_I (by decide)))) (fun m hm => ?_) (fun h2 hf2 => ?_)
      · obtain ⟨r1, r2, r3, r4⟩ := hq m hm
        refine ⟨?_, ?_, updn r3, ?_⟩
        · unfold up1; split
          · exact hlt2
          · exact r1
        · unfold up1; split <;> omega
        · show upd (h.1 37) (bm i) (nI (zH S + ct (bm i) + 1)) m = nI (zH S + up1 (bm i) (ct (bm i) + 1) ct m)
          unfold up1
          by_cases he : m = bm i
          · rw [if_pos he, he, upd_eq, Nat.add_assoc]
          · rw [if_neg he, upd_ne he]; exact r4
      · have := hP h2 hf2
        unfold zJu at this
        rw [if_neg w'] at this
        exact this
theorem zm_judge (hL : zLok L) (hS : zSg L S) (hN : N ≤ 40) {h0 : HP} (hMl : zMl L h0) (hs : zMs L S (h0.1 56)) (h16 : h0.1 52 16 = nI N) (hb : ∀ i, i < N → bm i < zM L ∧ bd i ≤ 4 ∧ h0.1 60 (2 * i) = nI (bm i) ∧ h0.1 60 (2 * i + 1) = nI (bd i)) : ∀ (k i : Nat) (ce ct : Nat → Nat) (h : HP), i + k = N → zFr [70, 71] h0 h → (∀ m, m < zM L → ce m < zA L ∧ ct m ≤ i ∧ h.1 70 m = nI (ce m) ∧ h.1 71 m = nI (ct m)) → (∀ h2, zFr [70, 71] h0 h2 → P (some (.int (zJu L S bm bd k i ce ct))) h2) → jG E mX8_judge (n + 4) X P 36 [some (.ref 52), some (.int (nI i)), none, none] [] h := by
  have hM : zM L ≤ 4 := hL.2.2.2.2.2.1
  have hA := hL.2.2.1
  have hW9 := hL.1
  intro k
  induction k with
  | zero =>
    intro i ce ct h hi hf hq hP
    obtain rfl : i = N := by omega
    have hle : h.1 52 16 ≤ nI i := by rw [(hf 52 (by decide)).1, h16]; exact Int32.le_refl _
    exact q_Mojudge_36 _ h (fun _ => hP h hf) (fun c => absurd hle c) (fun c => absurd hle c) (fun c => absurd hle c) (fun c => absurd hle c) (fun c => absurd hle c) (fun c => absurd hle c) (fun c => absurd hle c) (fun c => absurd hle c) (fun c => absurd hle c) (fun c => absurd hle c) (fun c => absurd hle c) (fun c => absurd hle c) (fun c => absurd hle c) (fun c => absurd hle c) (fun c => absurd hle c) (fun c => absurd hle c) (fun c => absurd hle c) (fun c => absurd hle c) (fun c => absurd hle c) (fun c => absurd hle c) (fun c => absurd hle c) (fun c => absurd hle c) (fun c => absurd hle c)
  | succ k ih =>
    intro i ce ct h hi hf hq hP
    have hMl' := zMl_fr hf (by decide) hMl
    have e56 : h.1 56 = h0.1 56 := (hf 56 (by decide)).1
    have hlt : ¬ h.1 52 16 ≤ nI i := by rw [(hf 52 (by decide)).1, h16]; exact nI_ge (by omega) (by omega)
    have hcl : (2 * nI i).toNatClampNeg = 2 * i := by rw [z_2x]; exact nI_clamp (by omega)
    have hcl1 : (2 * nI i + 1).toNatClampNeg = 2 * i + 1 := by rw [z_2x1]; exact nI_clamp (by omega)
    obtain ⟨b1, b2, b3, b4⟩ := hb i (by omega)
    have e34 : h.1 60 (2 * i) = nI (bm i) := by rw [(hf 60 (by decide)).1]; exact b3
    have e35 : h.1 60 (2 * i + 1) = nI (bd i) := by rw [(hf 60 (by decide)).1]; exact b4
    have hcm : (nI (bm i)).toNatClampNeg = bm i := nI_clamp (by omega)
    obtain ⟨q1, q2, q3, q4⟩ := hq (bm i) b1
    have hW0 : 0 < zW L := by
      rcases Nat.eq_zero_or_pos (zW L) with q | q
      · have : zA L = 0 := by unfold zA; rw [q, Nat.zero_mul]
        omega
      · exact q
    have hne0 : ¬ h.1 52 0 = 0 := by rw [hMl'.1.1]; exact nI_ne0 hW0 (by omega)
    have hne4 : ¬ h.1 52 4 = 0 := by rw [hMl'.1.2.2.1]; exact nI_ne0 (by have := hL.2.2.2.2.1; omega) (by have := hL.2.2.2.2.1; omega)
    have hH := hS.1
    have ht : zH S + ct (bm i) + 1 < 2 ^ 31 := by omega
    have hv : vp_in (h.1 60 (2 * nI i).toNatClampNeg) 4 := by rw [hcl, e34]; exact z_vp (by omega) (by omega)
    have hc2 : ((2 + 6 * nI (bm i)) + 2).toNatClampNeg = 4 + 6 * bm i := by rw [z_ix2]; exact nI_clamp (by omega)
    have esl : h.1 56 (4 + 6 * bm i) = nI (zSl S (bm i)) := by rw [e56]; exact (hs.2.2.2 _ b1).2.2.1
    have e0 : h.1 56 0 + (h.1 71 (bm i) + 1) = nI (zH S + ct (bm i) + 1) := by rw [e56, hs.1, q4, nI_1, nI_add, Nat.add_assoc]
    obtain ⟨l1, l2, l3⟩ := z_led hL q1 b2
    have hl : ∀ q : ¬ f_Moled (nI (zW L)) (nI (zG L)) (nI (ce (bm i))) (nI (bd i)) = -1, ∃ d, d < 36 ∧ f_Moled (nI (zW L)) (nI (zG L)) (nI (ce (bm i))) (nI (bd i)) = nI d := fun q => by
      rw [l1] at q ⊢
      rcases l3 with l3 | l3
      · exact absurd (by rw [l3]; rfl) q
      · exact ⟨_, by omega, (zI_in (by omega)).1⟩
    have hwm := z_wayM hL hMl'.2.1 hMl'.2.2.1 (K := zSk S) (r56 := h.1 56) (by rw [e56]; exact hs.2.2.1) (t := zH S + ct (bm i) + 1) (l := zSl S (bm i)) q1 b2 (hS.2 _ b1).2.1 ht
    refine q_Mojudge_36 _ h (fun c => absurd c hlt) (fun _ => by rw [z_2x]; exact z_vp (by omega) (by omega)) (fun _ => by rw [z_2x1]; exact z_vp (by omega) (by omega)) (fun _ => hv) (fun _ => hv) (fun _ => hv) (fun _ => by rw [hcl, e34, z_ix2]; exact z_vp (by omega) (by omega)) (fun _ => hv) (fun _ => hne0) (fun _ _ => hne0) (fun _ _ _ => hne0) (fun _ _ _ => hne0) (fun _ _ => ?_) (fun _ _ _ => hne4) (fun _ _ _ => ?_) (fun _ _ => ?_) (fun _ w => ?_) (fun _ _ => hv) (fun _ _ => hne0) (fun _ _ _ => hne0) (fun _ _ _ _ => hne0) (fun _ _ _ _ => hne0) (fun _ _ => hv) (fun _ w => ?_)
    · rw [hcl, hcl1, e34, hcm, e35, q3, hMl'.1.1, hMl'.1.2.1]
      intro q
      obtain ⟨d, hd, ed⟩ := hl q
      rw [ed]; exact z_vp hd (by omega)
    · rw [hcl, e34, hcm, e0, hMl'.1.2.2.1]; exact z_tinM hL ht
    · rw [hcl, hcl1, e34, hcm, e35, q3, hMl'.1.1, hMl'.1.2.1]
      intro q
      obtain ⟨d, hd, ed⟩ := hl q
      rw [ed, z_26]; exact z_vp (by omega) (by omega)
    · rw [hcl, hcl1, e34, hcm, e35, q3, hc2, esl, e0, hMl'.1.1, hMl'.1.2.1, hMl'.1.2.2.1] at w
      rcases hwm with ⟨q, _⟩ | ⟨_, q, _⟩
      · have := hP (jPI h 71 ((h.1 60 (2 * nI i).toNatClampNeg).toNatClampNeg) ((h.1 71 ((h.1 60 (2 * nI i).toNatClampNeg).toNatClampNeg)) + 1)) (hf.trans (zFr_I (by decide)))
        unfold zJu at this
        rw [if_pos q] at this
        exact this
      · rw [q] at w; exact absurd w one0
    · rw [hcl, hcl1, e34, hcm, e35, q3, hc2, esl, e0, hMl'.1.1, hMl'.1.2.1, hMl'.1.2.2.1] at w
      rcases hwm with ⟨_, q⟩ | ⟨r1, _, r2⟩
      · exact absurd q w
      · rw [hcl, hcl1, e34, hcm, e35, q3, q4, hMl'.1.1, hMl'.1.2.1, r2, nI_1, nI_1]
        refine ih (i + 1) (up1 (bm i) (zWl L (zSk S) (ce (bm i)) (bd i) (zSl S (bm i)) (zH S + ct (bm i) + 1)) ce) (up1 (bm i) (ct (bm i) + 1) ct) _ (by omega) (hf.trans ((zFr_I (by decide)).trans (zFr_I (by decide)))) (fun m hm => ?_) (fun h2 hf2 => ?_)
        · obtain ⟨u1, u2, u3, u4⟩ := hq m hm
          refine ⟨?_, ?_, updn u3, updn u4⟩
          · unfold up1; split
            · exact r1
            · exact u1
          · unfold up1; split <;> omega
        · have := hP h2 hf2
          unfold zJu at this
          rw [if_neg (by omega)] at this
          exact this
theorem zm_jbeg (hL : zLok L) (hS : zSg L S) {h0 : HP} (hMl : zMl L h0) (hs : zMs L S (h0.1 56)) (kx : ∀ h, zFr [70, 71] h0 h → (∀ m, m < zM L → h.1 70 m = nI (zCe S m) ∧ h.1 71 m = nI 0) → jG E mX8_judge (n + 4) X P 36 [some (.ref 52), some (.int 0), none, none] [] h) : ∀ (k a : Nat) (h : HP), a + k = zM L → zFr [70, 71] h0 h → (∀ m, m < a → h.1 70 m = nI (zCe S m) ∧ h.1 71 m = nI 0) → jG E mX8_judge (n + 4) X P 2 [some (.ref 52), some (.int (nI a)), none, none] [] h := by
  have hM : zM L ≤ 4 := hL.2.2.2.2.2.1
  intro k
  induction k with
  | zero =>
    intro a h ha hf hq
    obtain rfl : a = zM L := by omega
    have hle : h.1 52 5 ≤ nI (zM L) := by rw [(zMl_fr hf (by decide) hMl).1.2.2.2.1]; exact Int32.le_refl _
    exact q_Mojudge_2 _ h (fun _ => kx h hf hq) (fun c => absurd hle c) (fun c => absurd hle c) (fun c => absurd hle c) (fun c => absurd hle c) (fun c => absurd hle c)
  | succ k ih =>
    intro a h ha hf hq
    have hMl' := zMl_fr hf (by decide) hMl
    have hlt : ¬ h.1 52 5 ≤ nI a := by rw [hMl'.1.2.2.2.1]; exact nI_ge (by omega) (by omega)
    have hv : vp_in (nI a) 4 := z_vp (by omega) (by omega)
    refine q_Mojudge_2 _ h (fun c => absurd c hlt) (fun _ => by rw [z_ix1]; exact z_vp (by omega) (by omega)) (fun _ => by rw [z_ix0]; exact z_vp (by omega) (by omega)) (fun _ => hv) (fun _ => hv) (fun _ => ?_)
    rw [nI_clamp (by omega), nI_1, hMl'.1.1, (hf 56 (by decide)).1, z_spot hs hM (by omega)]
    refine ih (a + 1) _ (by omega) (hf.trans ((zFr_I (by decide)).trans (zFr_I (by decide)))) (fun m hm => ?_)
    show upd (h.1 70) a (nI (zCe S a)) m = _ ∧ upd (h.1 71) a 0 m = _
    by_cases he : m = a
    · rw [he, upd_eq, upd_eq]; exact ⟨rfl, rfl⟩
    · rw [upd_ne he, upd_ne he]; exact hq m (by omega)
end JU
theorem p_judge (E : jEnv) : jPair E 100 zInv mX7_judge mX8_judge [] := by
  intro j h hj hI
  have hI' := hI
  obtain ⟨L, S, hL, hCl, hMl, hS, hCs, hMs, hIm, hFt, hBk, hTx, hFa⟩ := hI
  have hM4 : zM L ≤ 4 := hL.2.2.2.2.2.1
  have hg : zSg L S := hS.sg (by omega)
  obtain ⟨N, hN, q1, q2, q3⟩ := hBk
  have hb1 : ∀ i, i < N → (h.1 34 i).toNatClampNeg < zM L ∧ (h.1 35 i).toNatClampNeg ≤ 4 ∧ h.1 34 i = nI (h.1 34 i).toNatClampNeg ∧ h.1 35 i = nI (h.1 35 i).toNatClampNeg := fun i hi => by
    obtain ⟨m, d, hm, hd, a1, a2, a3, a4⟩ := q3 i hi
    rw [a1, a3, nI_clamp (by omega), nI_clamp (by omega)]
    exact ⟨hm, hd, rfl, rfl⟩
  have hb2 : ∀ i, i < N → (h.1 34 i).toNatClampNeg < zM L ∧ (h.1 35 i).toNatClampNeg ≤ 4 ∧ h.1 60 (2 * i) = nI (h.1 34 i).toNatClampNeg ∧ h.1 60 (2 * i + 1) = nI (h.1 35 i).toNatClampNeg := fun i hi => by
    obtain ⟨m, d, hm, hd, a1, a2, a3, a4⟩ := q3 i hi
    rw [a1, a3, a2, a4, nI_clamp (by omega), nI_clamp (by omega)]
    exact ⟨hm, hd, rfl, rfl⟩
  have c1 : jC E mX7_judge 100 [.ref 0] h (fun v h2 => v = some (.int (zJu L S (fun i => (h.1 34 i).toNatClampNeg) (fun i => (h.1 35 i).toNatClampNeg) N 0 (zCe S) (fun _ => 0))) ∧ zFr [36, 37] h h2) := by
    refine jC.of (lv := [some (.ref 0)]) (by decide) (Nat.le_of_ble_eq_true rfl) ⟨rfl, trivial⟩ (q_Shjudge_0 (n := 99) h ?_)
    refine ⟨fun v h2 => v = some (.int (zJu L S (fun i => (h.1 34 i).toNatClampNeg) (fun i => (h.1 35 i).toNatClampNeg) N 0 (zCe S) (fun _ => 0))) ∧ zFr [36, 37] h h2, ?_, fun v h2 hp => by rw [hp.1]; exact q_Shjudge_7 _ h2 ⟨rfl, hp.2⟩⟩
    refine jC.of (lv := [some (.ref 33), none, none, none]) (by decide) (Nat.le_of_ble_eq_true rfl) ⟨rfl, trivial⟩ (q_BkfirstWrong_0 (n := 95) h ?_)
    refine ⟨_, c_fill37 (h.1 18 1) _, fun v h2 hp => ?_⟩
    obtain ⟨ev, hf, hfill⟩ := hp
    rw [ev]
    refine q_BkfirstWrong_31 h2 ?_
    have hf0 : zFr [36, 37] h h2 := (zFr_A (by decide)).trans (hf.sub (by decide))
    refine zc_judge hL hg hN hCl hCs q1 hb1 N 0 (zCe S) (fun _ => 0) h2 (by omega) hf0 (fun m hm => ?_) (fun h3 hf3 => ⟨rfl, hf3⟩)
    refine ⟨(hS.2.2.2 m hm).1, Nat.zero_le _, ?_, ?_⟩
    · rw [(hf 36 (by decide)).1]
      show va_cpy (h.1 19) (h.1 36) _ _ _ m = _
      rw [z_cp4 (by omega)]
      exact (hCs.2.2.2 m hm).1
    · rw [hfill m (by omega)]
      exact hCs.1
  refine ⟨_, c1, fun v h2 hp => ?_⟩
  obtain ⟨ev, hf⟩ := hp
  have hMl2 := zMl_fr hf (by decide) hMl
  have e56 : h2.1 56 = h.1 56 := (hf 56 (by decide)).1
  have e60 : h2.1 60 = h.1 60 := (hf 60 (by decide)).1
  have c2 : jC E mX8_judge 100 [.ref 52] h2 (fun v h3 => v = some (.int (zJu L S (fun i => (h.1 34 i).toNatClampNeg) (fun i => (h.1 35 i).toNatClampNeg) N 0 (zCe S) (fun _ => 0))) ∧ zFr [70, 71] h2 h3) := by
    refine jC.of (lv := [some (.ref 52), none, none, none]) (by decide) (Nat.le_of_ble_eq_true rfl) ⟨rfl, trivial⟩ (q_Mojudge_0 (n := 96) h2 ?_)
    refine zm_jbeg hL hg hMl2 (S := S) (by rw [e56]; exact hMs) (fun h3 hf3 hq => ?_) (zM L) 0 h2 (by omega) (zFr.refl _ h2) (fun m hm => absurd hm (by omega))
    refine zm_judge hL hg hN (h0 := h2) hMl2 (by rw [e56]; exact hMs) (by rw [(hf 52 (by decide)).1]; exact q2) (fun i hi => by rw [e60]; exact hb2 i hi) N 0 (zCe S) (fun _ => 0) h3 (by omega) hf3 (fun m hm => ⟨(hS.2.2.2 m hm).1, Nat.zero_le _, hq m hm⟩) (fun h4 hf4 => ⟨rfl, hf4⟩)
  refine ⟨_, ev, _, c2, fun v2 h3 hp2 => ⟨hp2.1, ?_⟩⟩
  exact zInv_mono j _ (zInv_fr ((hf.sub (by decide)).trans (hp2.2.sub (by decide))) (fun i _ => by rw [(hp2.2 52 (by decide)).1, (hf 52 (by decide)).1]) hI')
