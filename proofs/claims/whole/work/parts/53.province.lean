/-! ===== province ===== -/
def prC : List Nat := [1, 3, 4, 5, 6, 7, 8, 9, 10, 11, 12, 13, 14, 15, 16, 18, 19, 20, 21, 22, 23, 30, 33, 39]
def prM : List Nat := [52, 53, 54, 55, 56, 58, 62, 63, 64, 65]
section PV
variable {E : jEnv} {n : Nat} {X : State → Prop} {P : Option Value → HP → Prop} {B : Nat → Nat} {N : Nat}
theorem c_Shprov_f {f : ZE} (er : tRead B N = .inl f) (h : HP) (hX : zX B N h) : jC E mX7_province (n + 7) [.ref 0] h (fun v h2 => v = some (.int (-10 - nI f.1)) ∧ zFr (1 :: zRc) h h2 ∧ h2.1 1 1 = 0 ∧ h2.1 10 3 = nI f.2) := by
  refine jC.of (lv := [some (.ref 0), none, none]) (by decide) (Nat.le_of_ble_eq_true rfl) ⟨rfl, trivial⟩ (q_Shprovince_0 (n := n + 6) h ?_)
  refine ⟨_, c_read (n := n) h hX, fun v h1 hp => ?_⟩
  obtain ⟨ev, hf1, he1⟩ := hp
  rw [ev, er]
  rw [er] at he1
  obtain ⟨e2, e3⟩ := he1
  refine q_Shprovince_7 (n := n + 6) _ h1 (fun _ => ⟨by rw [e2], (hf1.sub (by decide)).trans (zFr_I (by decide)), rfl, e3⟩) (fun w => absurd rfl w)
theorem c_Shprov_s {D : ZD} (er : tRead B N = .inr D) {sd : Nat} (h : HP) (hX : zX B N h) (hsd : h.1 18 2 = nI sd) : jC E mX7_province (n + 7) [.ref 0] h (fun v h2 => v = some (.int (nI (dW D * dG D))) ∧ zFr prC h h2 ∧ (h2.1 1 1 = 0 ∧ h2.1 10 3 = -1 ∧ h2.1 30 2 = -1 ∧ h2.1 30 3 = 0 ∧ h2.1 33 1 = 0 ∧ h2.1 39 0 = 0 ∧ h2.1 39 1 = 0) ∧ zCl (zLD D) h2 ∧ zCs (zLD D) (zShare (zLD D) (zHear (zLD D) (sBeg D sd))) 18 h2) := by
  have hD := tRead_ok er
  refine jC.of (lv := [some (.ref 0), none, none]) (by decide) (Nat.le_of_ble_eq_true rfl) ⟨rfl, trivial⟩ (q_Shprovince_0 (n := n + 6) h ?_)
  refine ⟨_, c_read (n := n) h hX, fun v h1 hp => ?_⟩
  obtain ⟨ev, hf1, he1⟩ := hp
  rw [ev, er]
  rw [er] at he1
  obtain ⟨hd1, e3⟩ := he1
  refine q_Shprovince_7 (n := n + 6) _ h1 (fun w => absurd w one0) (fun _ => ?_)
  have hF1 : zFr prC h (jPI h1 1 1 0) := (hf1.sub (by decide)).trans (zFr_I (by decide))
  refine ⟨_, c_Ldbecome (n := n + 2) hD (jPI h1 1 1 0) hd1, fun v h2 hp => ?_⟩
  obtain ⟨ev2, hf2, hcl2, h67⟩ := hp
  rw [ev2]
  have hF2 : zFr prC h h2 := hF1.trans (hf2.sub (by decide))
  have e11 : h2.1 1 1 = 0 := by rw [(hf2 1 (by decide)).1]; rfl
  have e103 : h2.1 10 3 = -1 := by rw [(hf2 10 (by decide)).1]; exact e3
  have esd : h2.1 18 2 = nI sd := by
    rw [(hf2 18 (by decide)).1]
    show h1.1 18 2 = _
    rw [(hf1 18 (by decide)).1]; exact hsd
  refine q_Shprovince_45 (n := n + 6) h2 ?_
  refine ⟨_, c_Stbegin (n := n + 4) hD h2 hcl2 h67 esd, fun v h3 hp => ?_⟩
  obtain ⟨ev3, hf3, hs3⟩ := hp
  rw [ev3]
  have hF3 : zFr prC h h3 := hF2.trans (hf3.sub (by decide))
  have hcl3 := zCl_fr hf3 (by decide) hcl2
  refine q_Shprovince_52 (n := n + 6) h3 ?_
  have hfF : zFr prC h3 (jPI (jPI (jPI h3 30 2 (-1)) 30 3 0) 33 1 0) := ((zFr_I (by decide)).trans (zFr_I (by decide))).trans (zFr_I (by decide))
  have v0 : vp_nar .boolean 0 = 0 := rfl
  refine q_Shprovince_69 (n := n + 6) _ _ (fun c => absurd c (by decide)) (fun _ => z_vp (m := 0) (by omega) (by omega)) (fun _ => ?_)
  rw [v0]
  refine q_Shprovince_69 (n := n + 6) _ _ (fun c => absurd c (by decide)) (fun _ => z_vp (m := 1) (by omega) (by omega)) (fun _ => ?_)
  rw [v0]
  refine q_Shprovince_69 (n := n + 6) _ _ (fun _ => ⟨?_, (hF3.trans hfF).trans ((zFr_I (by decide)).trans (zFr_I (by decide))), ⟨?_, ?_, rfl, rfl, rfl, rfl, rfl⟩, hcl3, hs3⟩) (fun c => absurd (by decide) c) (fun c => absurd (by decide) c)
  · have e : f_Ldcells (h3.1 3 0) (h3.1 3 1) = nI (dW D * dG D) := by unfold f_Ldcells; rw [hcl3.1.1, hcl3.1.2.1, pk_mul]; rfl
    exact congrArg (fun z => some (Value.int z)) e
  · show h3.1 1 1 = 0
    rw [(hf3 1 (by decide)).1]; exact e11
  · show h3.1 10 3 = -1
    rw [(hf3 10 (by decide)).1]; exact e103
theorem c_Moprov_f {f : ZE} (er : tRead B N = .inl f) (h : HP) (hY : zY B N h) : jC E mX8_province (n + 7) [.ref 52] h (fun v h2 => v = some (.int (-10 - nI f.1)) ∧ zFr [52, 62, 63, 64, 65] h h2 ∧ (∀ i, i ∉ 18 :: 24 :: zMc → h2.1 52 i = h.1 52 i) ∧ h2.1 52 18 = 0 ∧ h2.1 52 24 = nI f.2 + 1) := by
  refine jC.of (lv := [some (.ref 52), none, none, none, none]) (by decide) (Nat.le_of_ble_eq_true rfl) ⟨rfl, trivial⟩ (q_Moprovince_0 (n := n + 6) h ?_)
  refine ⟨_, c_Moreads (n := n) h hY, fun v h1 hp => ?_⟩
  obtain ⟨ev, hf1, he1⟩ := hp
  rw [ev, er]
  rw [er] at he1
  obtain ⟨e2, e3⟩ := he1
  refine q_Moprovince_4 (n := n + 6) _ h1 (fun _ _ => ⟨by rw [e2], hf1.1.trans ((zFr_I (by decide)).trans (zFr_I (by decide))), fun i hi => ?_, rfl, ?_⟩) (fun _ w => absurd rfl w) (fun w => absurd rfl w) (fun w => absurd rfl w)
  · have h18 : i ≠ 18 := fun e => hi (by rw [e]; decide)
    have h24 : i ≠ 24 := fun e => hi (by rw [e]; decide)
    show upd (upd (h1.1 52) 18 0) 24 _ i = _
    rw [upd_ne h24, upd_ne h18]
    exact hf1.2 i (fun q => hi (by simp only [List.mem_cons]; exact Or.inr (Or.inr q)))
  · show h1.1 52 20 + 1 = _
    rw [e3]
def zPm (D : ZD) (h h' : HP) : Prop := zFr prM h h' ∧ zDm D h' ∧ (h'.1 52 18 = 0 ∧ h'.1 52 24 = 0 ∧ h'.1 52 0 = nI (dW D) ∧ h'.1 52 1 = nI (dG D))
def isM (j : Nat) : Prop := ∃ m i, m < 4 ∧ i < 3 ∧ j = 2 + 6 * m + i
/-- the row while men are laid into it -/
def zRo (sd a k : Nat) (h : HP) : Prop := h.1 56 1 = nI sd ∧ (∀ j, j < 62 → j ≠ 1 → ¬ isM j → h.1 56 j = 0) ∧ ∀ m i, i < 3 → (m < a ∨ (m = a ∧ i < k)) → h.1 56 (2 + 6 * m + i) = h.1 64 (3 * m + i)
theorem zm_menL {D : ZD} {sd : Nat} (hL : zLok (zLD D)) {h0 : HP} (kx : ∀ h, zPm D h0 h → zMl (zLD D) h → zMs (zLD D) (sBeg D sd) (h.1 56) → jCall E mX8_hears (n + 6) [.ref 52] (jPI (jPI (jPI (jPI (jPI h 58 0 (vp_nar .boolean 0)) 58 1 (vp_nar .boolean 0)) 52 12 (-1)) 52 14 0) 52 16 0) (fun v h2 => jG E mX8_province (n + 7) X P 323 [some (.ref 52), none, none, none, none] (v.toList ++ []) h2)) : ∀ (q a : Nat) (h : HP), a + q = dM D → zPm D h0 h → zMl (zLD D) h → zRo sd a 0 h → jG E mX8_province (n + 7) X P 236 [some (.ref 52), none, none, some (.int (nI a)), none] [] h := by
  have hM4 : dM D ≤ 4 := hL.2.2.2.2.2.1
  intro q
  induction q with
  | zero =>
    intro a h ha hp hMl hr
    obtain rfl : a = dM D := by omega
    have hle : h.1 52 5 ≤ nI (dM D) := by rw [show h.1 52 5 = nI (dM D) from hMl.1.2.2.2.1]; exact Int32.le_refl _
    refine q_Moprovince_236 (n := n + 6) _ h (fun _ => kx h hp hMl ?_) (fun c => absurd hle c)
    obtain ⟨r1, r2, r3⟩ := hr
    refine ⟨?_, r1, fun c hc => ?_, fun m hm => ?_⟩
    · rw [r2 0 (by omega) (by omega) (by rintro ⟨m, i, h1, h2, h3⟩; omega)]; rfl
    · rw [r2 (26 + c) (by omega) (by omega) (by rintro ⟨m, i, h1, h2, h3⟩; omega)]; rfl
    · have hm' : m < dM D := hm
      obtain ⟨_, _, _, d4, _⟩ := hp.2.1
      obtain ⟨x1, x2, x3⟩ := d4 m hm'
      have w0 := r3 m 0 (by omega) (Or.inl hm')
      have w1 := r3 m 1 (by omega) (Or.inl hm')
      have w2 := r3 m 2 (by omega) (Or.inl hm')
      refine ⟨?_, ?_, ?_, ?_, ?_, ?_⟩
      · show h.1 56 (2 + 6 * m + 0) = nI (dX D m % dW D)
        rw [w0]; exact x1
      · rw [show 3 + 6 * m = 2 + 6 * m + 1 by omega, w1]; exact x2
      · rw [show 4 + 6 * m = 2 + 6 * m + 2 by omega, w2]; exact x3
      · rw [r2 (5 + 6 * m) (by omega) (by omega) (by rintro ⟨m', i, h1, h2, h3⟩; omega)]; rfl
      · rw [r2 (6 + 6 * m) (by omega) (by omega) (by rintro ⟨m', i, h1, h2, h3⟩; omega)]; rfl
      · rw [r2 (7 + 6 * m) (by omega) (by omega) (by rintro ⟨m', i, h1, h2, h3⟩; omega)]; rfl
  | succ q ih =>
    intro a h ha hp hMl hr
    have hlt : ¬ h.1 52 5 ≤ nI a := by rw [show h.1 52 5 = nI (dM D) from hMl.1.2.2.2.1]; exact nI_ge (by omega) (by omega)
    refine q_Moprovince_236 (n := n + 6) _ h (fun c => absurd c hlt) (fun _ => ?_)
    have inner : ∀ (r k : Nat) (h' : HP), k + r = 3 → zPm D h0 h' → zMl (zLD D) h' → zRo sd a k h' → jG E mX8_province (n + 7) X P 247 [some (.ref 52), none, none, some (.int (nI a)), some (.int (nI k))] [] h' := by
      intro r
      induction r with
      | zero =>
        intro k h' hk hp' hMl' hr'
        obtain rfl : k = 3 := by omega
        refine q_Moprovince_247 (n := n + 6) _ _ h' (fun _ => ?_) (fun c => absurd (by decide) c) (fun c => absurd (by decide) c) (fun c => absurd (by decide) c)
        rw [nI_1]
        refine ih (a + 1) h' (by omega) hp' hMl' ⟨hr'.1, hr'.2.1, fun m i hi hmi => hr'.2.2 m i hi (by omega)⟩
      | succ r ihr =>
        intro k h' hk hp' hMl' hr'
        have h3 : ¬ (3 : Int32) ≤ nI k := by rw [show (3 : Int32) = nI 3 from rfl]; exact nI_ge (by omega) (by omega)
        have e1 : 3 * nI a + nI k = nI (3 * a + k) := by rw [show 3 * nI a = nI (3 * a) from pk_mul 3 a, nI_add]
        have e2 : (2 + 6 * nI a) + nI k = nI (2 + 6 * a + k) := by rw [z_ix0, nI_add]
        refine q_Moprovince_247 (n := n + 6) _ _ h' (fun c => absurd c h3) (fun _ => by rw [e1]; exact z_vp (by omega) (by omega)) (fun _ => by rw [e2]; exact z_vp (by omega) (by omega)) (fun _ => ?_)
        rw [e1, e2, nI_clamp (by omega), nI_clamp (by omega), nI_1]
        refine ihr (k + 1) _ (by omega) ⟨hp'.1.trans (zFr_I (by decide)), hp'.2.1, hp'.2.2⟩ hMl' ⟨?_, fun j hj hj1 hjm => ?_, fun m i hi hmi => ?_⟩
        · show upd (h'.1 56) (2 + 6 * a + k) _ 1 = _
          rw [upd_ne (by omega)]; exact hr'.1
        · show upd (h'.1 56) (2 + 6 * a + k) _ j = _
          rw [upd_ne (fun e => hjm ⟨a, k, by omega, by omega, e⟩)]
          exact hr'.2.1 j hj hj1 hjm
        · show upd (h'.1 56) (2 + 6 * a + k) (h'.1 64 (3 * a + k)) (2 + 6 * m + i) = h'.1 64 (3 * m + i)
          by_cases e : m = a ∧ i = k
          · rw [e.1, e.2, upd_eq]
          · rw [upd_ne (by omega)]
            exact hr'.2.2 m i hi (by omega)
    exact inner 3 0 h rfl hp hMl hr
theorem c_Moprov_s {D : ZD} (er : tRead B N = .inr D) {sd : Nat} (h : HP) (hY : zY B N h) (hsd : h.1 56 1 = nI sd) : jC E mX8_province (n + 7) [.ref 52] h (fun v h2 => v = some (.int (nI (dW D * dG D))) ∧ zFr prM h h2 ∧ (h2.1 52 18 = 0 ∧ h2.1 52 24 = 0 ∧ h2.1 52 12 = -1 ∧ h2.1 52 14 = 0 ∧ h2.1 52 16 = 0 ∧ h2.1 58 0 = 0 ∧ h2.1 58 1 = 0) ∧ zMl (zLD D) h2 ∧ zMs (zLD D) (zShare (zLD D) (zHear (zLD D) (sBeg D sd))) (h2.1 56)) := by
  have hD := tRead_ok er
  have hL := zLD_ok hD
  have hM4 : dM D ≤ 4 := hL.2.2.2.2.2.1
  have hN4 : dN D ≤ 4 := hL.2.2.2.2.2.2.1
  have hT6 := hL.2.2.2.2.1.2
  have hA36 := hL.2.2.1
  have hH6 : dH D ≤ 6 := by
    have : (if dH D = 0 then 1 else dH D) ≤ 6 := hT6
    split at this <;> omega
  refine jC.of (lv := [some (.ref 52), none, none, none, none]) (by decide) (Nat.le_of_ble_eq_true rfl) ⟨rfl, trivial⟩ (q_Moprovince_0 (n := n + 6) h ?_)
  refine ⟨_, c_Moreads (n := n) h hY, fun v h1 hp => ?_⟩
  obtain ⟨ev, hf1, he1⟩ := hp
  rw [ev, er]
  rw [er] at he1
  have hd1 : zDm D h1 := he1
  refine q_Moprovince_4 (n := n + 6) _ h1 (fun w => absurd w one0) (fun w => absurd w one0) (fun _ w => absurd w one0) (fun _ _ => ?_)
  -- the men, and the end
  have sMen : ∀ h', zPm D h h' → zMl (zLD D) h' → zRo sd 0 0 h' → jG E mX8_province (n + 7) (fun _ => True) (fun v h2 => v = some (.int (nI (dW D * dG D))) ∧ zFr prM h h2 ∧ (h2.1 52 18 = 0 ∧ h2.1 52 24 = 0 ∧ h2.1 52 12 = -1 ∧ h2.1 52 14 = 0 ∧ h2.1 52 16 = 0 ∧ h2.1 58 0 = 0 ∧ h2.1 58 1 = 0) ∧ zMl (zLD D) h2 ∧ zMs (zLD D) (zShare (zLD D) (zHear (zLD D) (sBeg D sd))) (h2.1 56)) 236 [some (.ref 52), none, none, some (.int 0), none] [] h' := fun h' hp' hMl' hr' => by
    refine zm_menL (n := n) (h0 := h) hL (fun h2 hp2 hMl2 hs2 => ?_) (dM D) 0 h' (by omega) hp' hMl' hr'
    have hMl3 : zMl (zLD D) (jPI (jPI (jPI (jPI (jPI h2 58 0 (vp_nar .boolean 0)) 58 1 (vp_nar .boolean 0)) 52 12 (-1)) 52 14 0) 52 16 0) := hMl2
    refine ⟨_, c_Mohears (n := n + 5) (S := sBeg D sd) hL (fun m hm => ?_) _ hMl3 hs2, fun v h3 hp => ?_⟩
    · have hm' : m < dM D := hm
      rcases hD with rfl | hD
      · exact absurd hm' (by show ¬ m < 0; omega)
      · have := (hD.2.2.2.2.2.2.2.2.2.2.2.1 m hm').1
        have h36 := hD.2.2.1
        show dX D m < 36
        omega
    · obtain ⟨ev3, hf3, hs3⟩ := hp
      rw [ev3]
      have e52 : h3.1 52 = (jPI (jPI (jPI (jPI (jPI h2 58 0 (vp_nar .boolean 0)) 58 1 (vp_nar .boolean 0)) 52 12 (-1)) 52 14 0) 52 16 0).1 52 := (hf3 52 (by decide)).1
      have e58 : h3.1 58 = (jPI (jPI (jPI (jPI (jPI h2 58 0 (vp_nar .boolean 0)) 58 1 (vp_nar .boolean 0)) 52 12 (-1)) 52 14 0) 52 16 0).1 58 := (hf3 58 (by decide)).1
      refine q_Moprovince_323 (n := n + 6) h3 ⟨?_, (hp2.1.trans (((((zFr_I (by decide)).trans (zFr_I (by decide))).trans (zFr_I (by decide))).trans (zFr_I (by decide))).trans (zFr_I (by decide)))).trans (hf3.sub (by decide)), ⟨?_, ?_, ?_, ?_, ?_, ?_, ?_⟩, zMl_fr hf3 (by decide) hMl3, hs3⟩
      · have e : h3.1 52 0 * h3.1 52 1 = nI (dW D * dG D) := by
          rw [e52]
          show h2.1 52 0 * h2.1 52 1 = _
          rw [hp2.2.2.2.2.1, hp2.2.2.2.2.2, pk_mul]
        rw [e]
      · rw [e52]; exact hp2.2.2.1
      · rw [e52]; exact hp2.2.2.2.1
      · rw [e52]; rfl
      · rw [e52]; rfl
      · rw [e52]; rfl
      · rw [e58]; rfl
      · rw [e58]; rfl
  -- zeros
  have sZero : ∀ (q c : Nat) (h' : HP), c + q = 62 → zPm D h h' → zMl (zLD D) h' → (∀ i, i < c → h'.1 56 i = 0) → jG E mX8_province (n + 7) (fun _ => True) (fun v h2 => v = some (.int (nI (dW D * dG D))) ∧ zFr prM h h2 ∧ (h2.1 52 18 = 0 ∧ h2.1 52 24 = 0 ∧ h2.1 52 12 = -1 ∧ h2.1 52 14 = 0 ∧ h2.1 52 16 = 0 ∧ h2.1 58 0 = 0 ∧ h2.1 58 1 = 0) ∧ zMl (zLD D) h2 ∧ zMs (zLD D) (zShare (zLD D) (zHear (zLD D) (sBeg D sd))) (h2.1 56)) 208 [some (.ref 52), none, some (.int (nI sd)), some (.int (nI c)), none] [] h' := by
    intro q
    induction q with
    | zero =>
      intro c h' hc hp' hMl' hz
      obtain rfl : c = 62 := by omega
      refine q_Moprovince_208 (n := n + 6) _ _ h' (fun _ => ?_) (fun c => absurd (by decide) c) (fun c => absurd (by decide) c)
      refine sMen _ ⟨hp'.1.trans (zFr_I (by decide)), hp'.2.1, hp'.2.2⟩ hMl' ⟨rfl, fun j hj hj1 _ => ?_, fun m i hi hmi => absurd hmi (by omega)⟩
      show upd (h'.1 56) 1 (nI sd) j = 0
      rw [upd_ne hj1]; exact hz j hj
    | succ q ih =>
      intro c h' hc hp' hMl' hz
      have h62 : ¬ (62 : Int32) ≤ nI c := by rw [show (62 : Int32) = nI 62 from rfl]; exact nI_ge (by omega) (by omega)
      refine q_Moprovince_208 (n := n + 6) _ _ h' (fun c => absurd c h62) (fun _ => z_vp (by omega) (by omega)) (fun _ => ?_)
      rw [nI_clamp (by omega), nI_1]
      refine ih (c + 1) _ (by omega) ⟨hp'.1.trans (zFr_I (by decide)), hp'.2.1, hp'.2.2⟩ hMl' (fun i hi => ?_)
      show upd (h'.1 56) c 0 i = 0
      by_cases e : i = c
      · rw [e, upd_eq]
      · rw [upd_ne e]; exact hz i (by omega)
  -- places of news
  have sNews : ∀ (q c : Nat) (h' : HP), c + q = 4 → zPm D h h' → h'.1 56 1 = nI sd → (h'.1 52 4 = nI (zT (zLD D)) ∧ h'.1 52 5 = nI (dM D) ∧ h'.1 52 6 = nI (dN D)) → (∀ i, i < 36 → h'.1 53 i = nI (dO D i)) → (∀ t, t < zT (zLD D) → h'.1 54 t = nI (zD (zLD D) t)) → (∀ i, i < c → h'.1 55 i = h'.1 65 i) → jG E mX8_province (n + 7) (fun _ => True) (fun v h2 => v = some (.int (nI (dW D * dG D))) ∧ zFr prM h h2 ∧ (h2.1 52 18 = 0 ∧ h2.1 52 24 = 0 ∧ h2.1 52 12 = -1 ∧ h2.1 52 14 = 0 ∧ h2.1 52 16 = 0 ∧ h2.1 58 0 = 0 ∧ h2.1 58 1 = 0) ∧ zMl (zLD D) h2 ∧ zMs (zLD D) (zShare (zLD D) (zHear (zLD D) (sBeg D sd))) (h2.1 56)) 168 [some (.ref 52), none, some (.int (nI c)), none, none] [] h' := by
    intro q
    induction q with
    | zero =>
      intro c h' hc hp' hsd' h52 h53 h54 h55
      obtain rfl : c = 4 := by omega
      refine q_Moprovince_168 (n := n + 6) _ h' (fun _ => ?_) (fun c => absurd (by decide) c) (fun c => absurd (by decide) c) (fun c => absurd (by decide) c)
      rw [hsd']
      obtain ⟨hd1, hd2, hd3, hd4, hd5⟩ := hp'.2.1
      refine sZero 62 0 _ rfl ⟨hp'.1.trans (zFr_I (by decide)), hp'.2.1, hp'.2.2⟩ ⟨⟨hp'.2.2.2.2.1, hp'.2.2.2.2.2, h52.1, h52.2.1, h52.2.2, hd1.2.2.2.2.2.1⟩, h53, h54, fun k hk => ?_⟩ (fun i hi => absurd hi (by omega))
      have hk' : k < dN D := hk
      show h'.1 55 k = _
      rw [h55 k (by omega)]
      exact hd5 k hk'
    | succ q ih =>
      intro c h' hc hp' hsd' h52 h53 h54 h55
      have h4 : ¬ (4 : Int32) ≤ nI c := by rw [show (4 : Int32) = nI 4 from rfl]; exact nI_ge (by omega) (by omega)
      refine q_Moprovince_168 (n := n + 6) _ h' (fun c => absurd c h4) (fun _ => z_vp (by omega) (by omega)) (fun _ => z_vp (by omega) (by omega)) (fun _ => ?_)
      rw [nI_clamp (by omega), nI_1]
      refine ih (c + 1) _ (by omega) ⟨hp'.1.trans (zFr_I (by decide)), hp'.2.1, hp'.2.2⟩ hsd' h52 h53 h54 (fun i hi => ?_)
      show upd (h'.1 55) c (h'.1 65 c) i = h'.1 65 i
      by_cases e : i = c
      · rw [e, upd_eq]
      · rw [upd_ne e]; exact h55 i (by omega)
  -- tides
  have sTide : ∀ (q c : Nat) (h' : HP), c + q = 6 → zPm D h h' → h'.1 56 1 = nI sd → h'.1 52 4 = nI (zT (zLD D)) → (∀ i, i < 36 → h'.1 53 i = nI (dO D i)) → (∀ t, t < zT (zLD D) → h'.1 63 t = nI (zD (zLD D) t)) → (∀ i, i < c → h'.1 54 i = h'.1 63 i) → jG E mX8_province (n + 7) (fun _ => True) (fun v h2 => v = some (.int (nI (dW D * dG D))) ∧ zFr prM h h2 ∧ (h2.1 52 18 = 0 ∧ h2.1 52 24 = 0 ∧ h2.1 52 12 = -1 ∧ h2.1 52 14 = 0 ∧ h2.1 52 16 = 0 ∧ h2.1 58 0 = 0 ∧ h2.1 58 1 = 0) ∧ zMl (zLD D) h2 ∧ zMs (zLD D) (zShare (zLD D) (zHear (zLD D) (sBeg D sd))) (h2.1 56)) 126 [some (.ref 52), none, some (.int (nI c)), none, none] [] h' := by
    intro q
    induction q with
    | zero =>
      intro c h' hc hp' hsd' h4 h53 h63 h54
      obtain rfl : c = 6 := by omega
      refine q_Moprovince_126 (n := n + 6) _ h' (fun _ => ?_) (fun c => absurd (by decide) c) (fun c => absurd (by decide) c) (fun c => absurd (by decide) c)
      obtain ⟨hd1, hd2, hd3, hd4, hd5⟩ := hp'.2.1
      refine sNews 4 0 _ rfl ⟨hp'.1.trans ((zFr_I (by decide)).trans (zFr_I (by decide))), hp'.2.1, hp'.2.2⟩ hsd' ⟨h4, hd1.2.2.2.1, hd1.2.2.2.2.1⟩ h53 (fun t ht => ?_) (fun i hi => absurd hi (by omega))
      show h'.1 54 t = _
      rw [h54 t (by omega)]; exact h63 t ht
    | succ q ih =>
      intro c h' hc hp' hsd' h4 h53 h63 h54
      have h6 : ¬ (6 : Int32) ≤ nI c := by rw [show (6 : Int32) = nI 6 from rfl]; exact nI_ge (by omega) (by omega)
      refine q_Moprovince_126 (n := n + 6) _ h' (fun c => absurd c h6) (fun _ => z_vp (by omega) (by omega)) (fun _ => z_vp (by omega) (by omega)) (fun _ => ?_)
      rw [nI_clamp (by omega), nI_1]
      refine ih (c + 1) _ (by omega) ⟨hp'.1.trans (zFr_I (by decide)), hp'.2.1, hp'.2.2⟩ hsd' h4 h53 h63 (fun i hi => ?_)
      show upd (h'.1 54) c (h'.1 63 c) i = h'.1 63 i
      by_cases e : i = c
      · rw [e, upd_eq]
      · rw [upd_ne e]; exact h54 i (by omega)
  -- depths
  have sOwn : ∀ (q c : Nat) (h' : HP), c + q = 36 → zPm D h h' → h'.1 56 1 = nI sd → (∀ i, i < c → h'.1 53 i = nI (dO D i)) → jG E mX8_province (n + 7) (fun _ => True) (fun v h2 => v = some (.int (nI (dW D * dG D))) ∧ zFr prM h h2 ∧ (h2.1 52 18 = 0 ∧ h2.1 52 24 = 0 ∧ h2.1 52 12 = -1 ∧ h2.1 52 14 = 0 ∧ h2.1 52 16 = 0 ∧ h2.1 58 0 = 0 ∧ h2.1 58 1 = 0) ∧ zMl (zLD D) h2 ∧ zMs (zLD D) (zShare (zLD D) (zHear (zLD D) (sBeg D sd))) (h2.1 56)) 58 [some (.ref 52), none, some (.int (nI c)), none, none] [] h' := by
    intro q
    induction q with
    | zero =>
      intro c h' hc hp' hsd' h53
      obtain rfl : c = 36 := by omega
      obtain ⟨hd1, hd2, hd3, hd4, hd5⟩ := id hp'.2.1
      have e30 : h'.1 52 30 = 0 ↔ dH D = 0 := by rw [hd1.2.2.1]; exact nI_eq (b := 0) (by omega) (by omega)
      refine q_Moprovince_58 (n := n + 6) _ h' (fun _ w _ => ?_) (fun _ w w2 => absurd w w2) (fun _ w w2 => absurd w2 w) (fun _ w _ => ?_) (fun c => absurd (by decide) c) (fun c => absurd (by decide) c) (fun c => absurd (by decide) c)
      · have h0 := e30.mp w
        refine sTide 6 0 _ rfl ⟨hp'.1.trans ((zFr_I (by decide)).trans (zFr_I (by decide))), ⟨hd1, hd2, fun t ht => absurd ht (by omega), hd4, hd5⟩, hp'.2.2⟩ hsd' ?_ h53 (fun t ht => ?_) (fun i hi => absurd hi (by omega))
        · show (1 : Int32) = nI (if dH D = 0 then 1 else dH D)
          rw [if_pos h0]; rfl
        · have ht' : t < if dH D = 0 then 1 else dH D := ht
          rw [if_pos h0] at ht'
          obtain rfl : t = 0 := by omega
          show (5 : Int32) = nI (if dH D = 0 then 5 else dT D 0)
          rw [if_pos h0]; rfl
      · have h0 : ¬ dH D = 0 := fun e => w (e30.mpr e)
        have e63 : ∀ t, upd (h'.1 63) 0 (h'.1 63 0) t = h'.1 63 t := fun t => by
          by_cases e : t = 0
          · rw [e, upd_eq]
          · rw [upd_ne e]
        refine sTide 6 0 _ rfl ⟨hp'.1.trans ((zFr_I (by decide)).trans (zFr_I (by decide))), ⟨hd1, hd2, fun t ht => (e63 t).trans (hd3 t ht), hd4, hd5⟩, hp'.2.2⟩ hsd' ?_ h53 (fun t ht => ?_) (fun i hi => absurd hi (by omega))
        · show h'.1 52 30 = nI (if dH D = 0 then 1 else dH D)
          rw [if_neg h0]; exact hd1.2.2.1
        · have ht' : t < if dH D = 0 then 1 else dH D := ht
          rw [if_neg h0] at ht'
          show upd (h'.1 63) 0 (h'.1 63 0) t = nI (if dH D = 0 then 5 else dT D t)
          rw [if_neg h0, e63 t]; exact hd3 t ht'
    | succ q ih =>
      intro c h' hc hp' hsd' h53
      have h36 : ¬ (36 : Int32) ≤ nI c := by rw [show (36 : Int32) = nI 36 from rfl]; exact nI_ge (by omega) (by omega)
      refine q_Moprovince_58 (n := n + 6) _ h' (fun c => absurd c h36) (fun c => absurd c h36) (fun c => absurd c h36) (fun c => absurd c h36) (fun _ => z_vp (by omega) (by omega)) (fun _ => z_vp (by omega) (by omega)) (fun _ => ?_)
      rw [nI_clamp (by omega), nI_1]
      refine ih (c + 1) _ (by omega) ⟨hp'.1.trans (zFr_I (by decide)), hp'.2.1, hp'.2.2⟩ hsd' (fun i hi => ?_)
      show upd (h'.1 53) c (h'.1 62 c) i = _
      by_cases e : i = c
      · rw [e, upd_eq]; exact hp'.2.1.2.1 c (by omega)
      · rw [upd_ne e]; exact h53 i (by omega)
  refine sOwn 36 0 _ rfl ⟨(hf1.1.sub (by decide)).trans ((((zFr_I (by decide)).trans (zFr_I (by decide))).trans (zFr_I (by decide))).trans (zFr_I (by decide))), hd1, ⟨rfl, rfl, hd1.1.1, hd1.1.2.1⟩⟩ ?_ (fun i hi => absurd hi (by omega))
  show h1.1 56 1 = _
  rw [(hf1.1 56 (by decide)).1]; exact hsd
end PV
theorem p_province (E : jEnv) : jPair E 100 zInv mX7_province mX8_province [] := by
  intro j h hj hI
  have hI' := hI
  obtain ⟨L, S, hL, hCl, hMl, hS, hCs, hMs, hIm, hFt, hBk, hTx, hFa⟩ := hI
  obtain ⟨N, hN, t1, t2, t3⟩ := hTx
  let B : Nat → Nat := fun i => (h.1 61 i).toNatClampNeg
  have hB : ∀ i, i < N → B i < 256 ∧ h.1 2 i &&& 255 = nI (B i) ∧ h.1 61 i = nI (B i) ∧ (h.1 2 i = 32 ↔ B i = 32) := fun i hi => by
    obtain ⟨t, ht, q1, q2, q3⟩ := t3 i hi
    have e : B i = t := by
      show (h.1 61 i).toNatClampNeg = t
      rw [q2]; exact nI_clamp (by omega)
    rw [e]
    exact ⟨ht, q1, q2, q3⟩
  have hX : zX B N h := ⟨hN, t1, fun i hi => ⟨(hB i hi).1, (hB i hi).2.1, (hB i hi).2.2.2⟩⟩
  have hY : ∀ h2 : HP, h2.1 52 18 = h.1 52 18 → h2.1 61 = h.1 61 → zY B N h2 := fun h2 e1 e2 => ⟨hN, by rw [e1]; exact t2, fun i hi => ⟨(hB i hi).1, by rw [e2]; exact (hB i hi).2.2.1⟩⟩
  cases er : tRead B N with
  | inl f =>
    refine ⟨_, c_Shprov_f (n := 93) er h hX, fun v h2 hp => ⟨_, hp.1, ?_⟩⟩
    obtain ⟨_, hf2, e11, e103⟩ := hp
    refine ⟨_, c_Moprov_f (n := 93) er h2 (hY h2 (by rw [(hf2 52 (by decide)).1]) (hf2 61 (by decide)).1), fun v3 h3 hp3 => ⟨hp3.1, ?_⟩⟩
    obtain ⟨_, hf3, g52, g18, g24⟩ := hp3
    have e := fun (k : Nat) (w1 : k ∉ 1 :: zRc) (w2 : k ∉ [52, 62, 63, 64, 65]) => ((hf3 k w2).1.trans (hf2 k w1).1 : h3.1 k = h.1 k)
    have e' := fun (k : Nat) (w1 : k ∉ 1 :: zRc) (w2 : k ∉ [52, 62, 63, 64, 65]) => ((hf3 k w2).2.trans (hf2 k w1).2 : h3.2 k = h.2 k)
    have h52 : ∀ i, i ∉ 18 :: 24 :: zMc → h3.1 52 i = h.1 52 i := fun i hi => (g52 i hi).trans (by rw [(hf2 52 (by decide)).1])
    refine zInv_mono j _ ⟨L, S, hL, zCl_c (e 3 (by decide) (by decide)) (e' 3 (by decide) (by decide)) (e 4 (by decide) (by decide)) (e 5 (by decide) (by decide)) (e 8 (by decide) (by decide)) (e' 9 (by decide) (by decide)) hCl, zMl_c (fun i hi => h52 i (by
      have hall : ∀ i, i < 10 → i ∉ 18 :: 24 :: zMc := by decide
      exact hall i hi)) (e 53 (by decide) (by decide)) (e 54 (by decide) (by decide)) (e 55 (by decide) (by decide)) hMl, hS, zCs_c (e 18 (by decide) (by decide)) (e' 18 (by decide) (by decide)) (e 19 (by decide) (by decide)) (e 20 (by decide) (by decide)) (e 21 (by decide) (by decide)) (e 22 (by decide) (by decide)) (e 23 (by decide) (by decide)) hCs, ?_, ⟨?_, ?_⟩, zFt_c (e 30 (by decide) (by decide)) (e 31 (by decide) (by decide)) (e 32 (by decide) (by decide)) (e 59 (by decide) (by decide)) (h52 12 (by decide)) (h52 14 (by decide)) hFt, zBk_c (e 33 (by decide) (by decide)) (e 34 (by decide) (by decide)) (e 35 (by decide) (by decide)) (e 60 (by decide) (by decide)) (h52 16 (by decide)) hBk, ⟨0, by omega, ?_, g18, fun i hi => absurd hi (by omega)⟩, ?_⟩
    · rw [e 56 (by decide) (by decide)]; exact hMs
    · exact zI1_c (e 39 (by decide) (by decide)) (e 58 (by decide) (by decide)) (e 57 (by decide) (by decide)) (e 40 (by decide) (by decide)) (e' 40 (by decide) (by decide)) (e 41 (by decide) (by decide)) (e 42 (by decide) (by decide)) (e 43 (by decide) (by decide)) (e 44 (by decide) (by decide)) (e 45 (by decide) (by decide)) hIm.1
    · exact zI1_c (e 39 (by decide) (by decide)) (e 58 (by decide) (by decide)) (e 57 (by decide) (by decide)) (e 46 (by decide) (by decide)) (e' 46 (by decide) (by decide)) (e 47 (by decide) (by decide)) (e 48 (by decide) (by decide)) (e 49 (by decide) (by decide)) (e 50 (by decide) (by decide)) (e 51 (by decide) (by decide)) hIm.2
    · rw [(hf3 1 (by decide)).1]; exact e11
    · show h3.1 10 3 = h3.1 52 24 - 1
      rw [(hf3 10 (by decide)).1, e103, g24, nI_1, nI_pred]
  | inr D =>
    have hD := tRead_ok er
    have hL2 := zLD_ok hD
    refine ⟨_, c_Shprov_s (n := 93) er (sd := zSe S) h hX hCs.2.1, fun v h2 hp => ⟨_, hp.1, ?_⟩⟩
    obtain ⟨_, hf2, ⟨a1, a2, a3, a4, a5, a6, a7⟩, hcl2, hcs2⟩ := hp
    refine ⟨_, c_Moprov_s (n := 93) er (sd := zSe S) h2 (hY h2 (by rw [(hf2 52 (by decide)).1]) (hf2 61 (by decide)).1) (by rw [(hf2 56 (by decide)).1]; exact hMs.2.1), fun v3 h3 hp3 => ⟨hp3.1, ?_⟩⟩
    obtain ⟨_, hf3, ⟨b1, b2, b3, b4, b5, b6, b7⟩, hml3, hms3⟩ := hp3
    have e := fun (k : Nat) (w2 : k ∉ prM) => ((hf3 k w2).1 : h3.1 k = h2.1 k)
    have e' := fun (k : Nat) (w2 : k ∉ prM) => ((hf3 k w2).2 : h3.2 k = h2.2 k)
    have hok := zHs_ok hL2 (sBeg_ok hD (sd := zSe S) hS.2.1 (99 * (j + 1)))
    refine ⟨zLD D, _, hL2, zCl_fr hf3 (by decide) hcl2, hml3, hok, zCs_c (e 18 (by decide)) (e' 18 (by decide)) (e 19 (by decide)) (e 20 (by decide)) (e 21 (by decide)) (e 22 (by decide)) (e 23 (by decide)) hcs2, hms3, ⟨Or.inl ⟨?_, b6⟩, Or.inl ⟨?_, b7⟩⟩, ⟨?_, Or.inl ?_, 0, by omega, ?_, b4, fun i hi => absurd hi (by omega)⟩, ⟨0, by omega, ?_, b5, fun i hi => absurd hi (by omega)⟩, ⟨0, by omega, ?_, b1, fun i hi => absurd hi (by omega)⟩, ?_⟩
    · rw [e 39 (by decide)]; exact a6
    · rw [e 39 (by decide)]; exact a7
    · rw [e 30 (by decide), a3, b3]
    · rw [e 30 (by decide)]; exact a3
    · rw [e 30 (by decide)]; exact a4
    · rw [e 33 (by decide)]; exact a5
    · rw [e 1 (by decide)]; exact a1
    · show h3.1 10 3 = h3.1 52 24 - 1
      rw [e 10 (by decide), a2, b2]
      decide
