/-! ===== sawed: the model's codes; the pair ===== -/
def wy (g : Nat → Nat) : Nat → Nat
  | 0 => 1
  | n + 1 => wy g n * (g n + 1)
theorem wy_sp {M : Nat} {g : Nat → Nat} : ∀ q, q ≤ M → wy g (M - q) * sp M g q = wy g M
  | 0, _ => by
    show wy g (M - 0) * 1 = _
    rw [Nat.mul_one, Nat.sub_zero]
  | q + 1, h => by
    have ih := wy_sp (M := M) (g := g) q (by omega)
    have e : M - q = (M - (q + 1)) + 1 := by omega
    rw [e] at ih
    have e2 : M - 1 - q = M - (q + 1) := by omega
    show wy g (M - (q + 1)) * ((g (M - 1 - q) + 1) * sp M g q) = _
    rw [e2, ← Nat.mul_assoc]
    exact ih
theorem wy_sp0 (M : Nat) (g : Nat → Nat) : sp M g M = wy g M := by
  have := wy_sp (M := M) (g := g) M (Nat.le_refl _)
  rw [Nat.sub_self] at this
  rw [← this]
  show _ = 1 * _
  rw [Nat.one_mul]
theorem wy_bnd {g : Nat → Nat} : ∀ {n : Nat}, (∀ i, i < n → g i ≤ 6) → wy g n ≤ 7 ^ n ∧ 0 < wy g n
  | 0, _ => ⟨Nat.le_refl _, Nat.one_pos⟩
  | n + 1, h => by
    obtain ⟨h1, h2⟩ := wy_bnd (g := g) (n := n) (fun i hi => h i (by omega))
    have := h n (by omega)
    refine ⟨?_, Nat.mul_pos h2 (by omega)⟩
    show wy g n * (g n + 1) ≤ 7 ^ n * 7
    exact Nat.mul_le_mul h1 (by omega)
/-- the sum from the last man on -/
def zSr (f : Nat → Nat) (M : Nat) : Nat → Nat
  | 0 => 0
  | r + 1 => zSr f M r + f (M - 1 - r)
theorem zSr_su {f : Nat → Nat} {M : Nat} : ∀ r, r ≤ M → zSu f (M - r) + zSr f M r = zSu f M
  | 0, _ => by show zSu f (M - 0) + 0 = _; rw [Nat.sub_zero, Nat.add_zero]
  | r + 1, h => by
    have ih := zSr_su (f := f) (M := M) r (by omega)
    have e : M - r = (M - 1 - r) + 1 := by omega
    rw [e] at ih
    have e2 : M - (r + 1) = M - 1 - r := by omega
    rw [e2]
    have ih' : zSu f (M - 1 - r) + f (M - 1 - r) + zSr f M r = zSu f M := ih
    show zSu f (M - 1 - r) + (zSr f M r + f (M - 1 - r)) = _
    omega
theorem zSr_all (f : Nat → Nat) (M : Nat) : zSr f M M = zSu f M := by
  have := zSr_su (f := f) (M := M) M (Nat.le_refl _)
  rw [Nat.sub_self] at this
  rw [← this]
  show _ = 0 + _
  rw [Nat.zero_add]
theorem zSr_bnd {f : Nat → Nat} {M : Nat} : ∀ r, r ≤ M → zSr f M r ≤ zSu f M := fun r hr => by
  have := zSr_su (f := f) (M := M) r hr
  omega
/-- the model's row, its stilts being F -/
def zRw (L : ZL) (F : Nat → Nat) (h0 h : HP) : Prop := (∀ j, (∀ i, i < zM L → j ≠ 4 + 6 * i) → h.1 56 j = h0.1 56 j) ∧ ∀ i, i < zM L → h.1 56 (4 + 6 * i) = nI (F i)
theorem zRw_ms {L : ZL} {S : ZS} {F : Nat → Nat} {h0 h : HP} (hM : zM L ≤ 4) (hs : zMs L S (h0.1 56)) (q : zRw L F h0 h) : zMs L (sLf S F) (h.1 56) := by
  obtain ⟨h1, h2, h3, h4⟩ := hs
  refine ⟨by rw [q.1 0 (by omega)]; exact h1, by rw [q.1 1 (by omega)]; exact h2, fun c hc => by rw [q.1 _ (by omega)]; exact h3 c hc, fun i hi => ?_⟩
  obtain ⟨a, b, c, d, e, f⟩ := h4 i hi
  exact ⟨by rw [q.1 _ (by omega)]; exact a, by rw [q.1 _ (by omega)]; exact b, q.2 i hi, by rw [q.1 _ (by omega)]; exact d, by rw [q.1 _ (by omega)]; exact e, by rw [q.1 _ (by omega)]; exact f⟩
theorem zRw_up {L : ZL} {F : Nat → Nat} {h0 h : HP} (q : zRw L F h0 h) {m : Nat} (hm : m < zM L) (v : Nat) : zRw L (up1 m v F) h0 (jPI h 56 (4 + 6 * m) (nI v)) := by
  refine ⟨fun j hj => ?_, fun i hi => updw (q.2 i hi)⟩
  show upd (h.1 56) (4 + 6 * m) (nI v) j = _
  rw [upd_ne (hj m hm)]
  exact q.1 j hj
theorem zRw_fr {L : ZL} {F : Nat → Nat} {h0 h h2 : HP} {b : List Nat} (hf : zFr b h h2) (hb : 56 ∉ b) (q : zRw L F h0 h) : zRw L F h0 h2 := by
  unfold zRw
  rw [(hf 56 hb).1]
  exact q
theorem zRw_eq {L : ZL} {F G : Nat → Nat} {h0 h : HP} (q : zRw L F h0 h) (e : ∀ i, i < zM L → F i = G i) : zRw L G h0 h := ⟨q.1, fun i hi => by rw [← e i hi]; exact q.2 i hi⟩
def zLs (L : ZL) (S : ZS) : Option Nat → Int32
  | none => -1
  | some c => nI (smc (zM L) (zSl S) c)
def zBm (L : ZL) (S : ZS) (h : HP) : Option Nat → Prop
  | none => True
  | some c => ∀ m, m < zM L → h.1 68 m = nI (dg (zM L) (zSl S) m c)
theorem zBm_fr {L : ZL} {S : ZS} {b : Option Nat} {l : List Nat} {h h2 : HP} (hf : zFr l h h2) (hl : 68 ∉ l) (q : zBm L S h b) : zBm L S h2 b := by
  cases b with
  | none => trivial
  | some c =>
    intro m hm
    rw [(hf 68 hl).1]
    exact q m hm
/-- what stays while the model tries codes -/
def zMk (L : ZL) (S : ZS) (h0 h : HP) : Prop := zFr [52, 56, 66, 67, 68, 69] h0 h ∧ (∀ i, i ≠ 40 → h.1 52 i = h0.1 52 i) ∧ ∀ i, i < zM L → h.1 69 i = nI (zSl S i)
theorem zMk_ml {L : ZL} {S : ZS} {h0 h : HP} (hMl : zMl L h0) (q : zMk L S h0 h) : zMl L h := zMl_c (fun i hi => q.2.1 i (by omega)) (q.1 53 (by decide)).1 (q.1 54 (by decide)).1 (q.1 55 (by decide)).1 hMl
theorem zMk_I {L : ZL} {S : ZS} {h0 h : HP} (q : zMk L S h0 h) {k j : Nat} {x : Int32} (hk : k = 56 ∨ k = 68) : zMk L S h0 (jPI h k j x) := by
  rcases hk with rfl | rfl
  · exact ⟨q.1.trans (zFr_I (by decide)), q.2.1, q.2.2⟩
  · exact ⟨q.1.trans (zFr_I (by decide)), q.2.1, q.2.2⟩
theorem zMk_fr {L : ZL} {S : ZS} {h0 h h2 : HP} (q : zMk L S h0 h) (hf : zFr [52, 66, 67] h h2) (h52 : ∀ i, i ≠ 40 → h2.1 52 i = h.1 52 i) : zMk L S h0 h2 := ⟨q.1.trans (hf.sub (by decide)), fun i hi => (h52 i hi).trans (q.2.1 i hi), fun i hi => by rw [(hf 69 (by decide)).1]; exact q.2.2 i hi⟩
/-- what is answered -/
def zRs (L : ZL) (S : ZS) (z : Int32) : Option Nat → Int32
  | none => -1
  | some c => if z = -1 then nI (smc (zM L) (zSl S) c) else nI (dg (zM L) (zSl S) z.toNatClampNeg c)
section MS
variable {E : jEnv} {n : Nat} {X : State → Prop} {P : Option Value → HP → Prop} {L : ZL} {S : ZS} {k lim : Nat}
theorem zm_endL (hL : zLok L) {h0 : HP} (hMl : zMl L h0) {z : Int32} {b : Option Nat} (hz : z = -1 ∨ ∃ w, w < zM L ∧ z = nI w) (h6 : ∀ m, m < zM L → zSl S m ≤ 6) (kx : ∀ h, zMk L S h0 h → zRw L (zSl S) h0 h → P (some (.int (zRs L S z b))) h) : ∀ (q a : Nat) (F : Nat → Nat) (h : HP), a + q = zM L → zMk L S h0 h → zRw L F h0 h → (∀ i, i < a → F i = zSl S i) → zBm L S h b → jG E mX8_sawed (n + 2) X P 276 [some (.ref 52), none, none, some (.int z), none, some (.int (zLs L S b)), some (.int (nI a)), none, none, none, none] [] h := by
  have hM : zM L ≤ 4 := hL.2.2.2.2.2.1
  intro q
  induction q with
  | zero =>
    intro a F h ha hk hr hF hb
    obtain rfl : a = zM L := by omega
    have hle : h.1 52 5 ≤ nI (zM L) := by rw [(zMk_ml hMl hk).1.2.2.2.1]; exact Int32.le_refl _
    have hK := kx h hk (zRw_eq hr hF)
    refine q_Mosawed_276 _ _ _ h (fun _ w => ?_) (fun _ w w2 => ?_) (fun _ _ w2 => ?_) (fun _ w w2 => ?_) (fun c => absurd hle c) (fun c => absurd hle c) (fun c => absurd hle c)
    · cases b with
      | none => exact hK
      | some c =>
        have hsm : smc (zM L) (zSl S) c ≤ zM L * 6 := zSu_bnd (fun i hi => Nat.le_trans (dg_le _ _ _ _) (h6 i hi))
        exact absurd w (nI_neg1 (by omega))
    · cases b with
      | none => exact absurd rfl w
      | some c =>
        have hK' : P (some (.int (if z = -1 then nI (smc (zM L) (zSl S) c) else nI (dg (zM L) (zSl S) z.toNatClampNeg c)))) h := hK
        rw [if_pos w2] at hK'
        exact hK'
    · rcases hz with r | ⟨w, hw, r⟩
      · exact absurd r w2
      · rw [r]; exact z_vp (by omega) (by omega)
    · cases b with
      | none => exact absurd rfl w
      | some c =>
        have hK' : P (some (.int (if z = -1 then nI (smc (zM L) (zSl S) c) else nI (dg (zM L) (zSl S) z.toNatClampNeg c)))) h := hK
        rw [if_neg w2] at hK'
        rcases hz with r | ⟨w, hw, r⟩
        · exact absurd r w2
        · have hcw : z.toNatClampNeg = w := by rw [r]; exact nI_clamp (by omega)
          rw [hcw] at hK' ⊢
          rw [hb w hw]
          exact hK'
  | succ q ih =>
    intro a F h ha hk hr hF hb
    have hlt : ¬ h.1 52 5 ≤ nI a := by rw [(zMk_ml hMl hk).1.2.2.2.1]; exact nI_ge (by omega) (by omega)
    have ham : a < zM L := by omega
    refine q_Mosawed_276 _ _ _ h (fun c => absurd c hlt) (fun c => absurd c hlt) (fun c => absurd c hlt) (fun c => absurd c hlt) (fun _ => z_vp (by omega) (by omega)) (fun _ => by rw [z_ix2]; exact z_vp (by omega) (by omega)) (fun _ => ?_)
    rw [z_ix2, nI_clamp (show 4 + 6 * a < 2 ^ 31 by omega), nI_clamp (show a < 2 ^ 31 by omega), hk.2.2 a ham, nI_1]
    refine ih (a + 1) (up1 a (zSl S a) F) _ (by omega) (zMk_I hk (Or.inl rfl)) (zRw_up hr ham _) (fun i hi => ?_) (zBm_fr (l := [56]) (zFr_I (by decide)) (by decide) hb)
    unfold up1
    by_cases e : i = a
    · rw [if_pos e, e]
    · rw [if_neg e]; exact hF i (by omega)
theorem zm_codeL (hL : zLok L) (hS : zSh L S) (h6 : ∀ m, m < zM L → zSl S m ≤ 6) (hk : k < zN L) (hlim : lim ≤ 20) {h0 : HP} (hMl : zMl L h0) (hs : zMs L S (h0.1 56)) {z : Int32} (kx : ∀ (h : HP) (F : Nat → Nat) (b : Option Nat), b = zFo (fun c => zOk L S k lim (lnc (zM L) (zSl S) c)) (smc (zM L) (zSl S)) (wy (zSl S) (zM L)) 0 none → zMk L S h0 h → zRw L F h0 h → zBm L S h b → jG E mX8_sawed (n + 7) X P 276 [some (.ref 52), none, none, some (.int z), none, some (.int (zLs L S b)), some (.int 0), none, none, none, none] [] h) : ∀ (q c : Nat) (b : Option Nat) (F : Nat → Nat) (h : HP), c + q = wy (zSl S) (zM L) → b = zFo (fun c => zOk L S k lim (lnc (zM L) (zSl S) c)) (smc (zM L) (zSl S)) c 0 none → zMk L S h0 h → zRw L F h0 h → zBm L S h b → jG E mX8_sawed (n + 7) X P 101 [some (.ref 52), some (.int (nI k)), some (.int (nI lim)), some (.int z), some (.int (nI (wy (zSl S) (zM L)))), some (.int (zLs L S b)), some (.int (nI c)), none, none, none, none] [] h := by
  have hM : zM L ≤ 4 := hL.2.2.2.2.2.1
  have hwb : wy (zSl S) (zM L) ≤ 2401 := by
    have h1 := (wy_bnd h6).1
    have h2 : 7 ^ zM L ≤ 7 ^ 4 := Nat.pow_le_pow_right (by omega) hM
    omega
  have hsmb : ∀ c, smc (zM L) (zSl S) c ≤ 24 := fun c => by
    have : smc (zM L) (zSl S) c ≤ zM L * 6 := zSu_bnd (fun i hi => Nat.le_trans (dg_le _ _ _ _) (h6 i hi))
    omega
  intro q
  induction q with
  | zero =>
    intro c b F h hc eb hk' hr hb
    obtain rfl : c = wy (zSl S) (zM L) := by omega
    exact q_Mosawed_101 _ _ _ _ _ _ h (fun _ => kx h F b eb hk' hr hb) (fun w => absurd (Int32.le_refl _) w)
  | succ q ih =>
    intro c b F h hc eb hk' hr hb
    have enext : zFo (fun c => zOk L S k lim (lnc (zM L) (zSl S) c)) (smc (zM L) (zSl S)) (c + 1) 0 none = zStp (fun c => zOk L S k lim (lnc (zM L) (zSl S) c)) (smc (zM L) (zSl S)) c b := by
      rw [zFo_add _ _ c 1 0, ← eb, Nat.zero_add]
      rfl
    refine q_Mosawed_101 _ _ _ _ _ _ h (fun w => absurd w (nI_ge (by omega) (by omega))) (fun _ => ?_)
    rw [(zMk_ml hMl hk').1.2.2.2.1]
    have skip : ∀ h1 : HP, zMk L S h0 h1 → (∃ F, zRw L F h0 h1) → zBm L S h1 b → zStp (fun c => zOk L S k lim (lnc (zM L) (zSl S) c)) (smc (zM L) (zSl S)) c b = b → jG E mX8_sawed (n + 7) X P 101 [some (.ref 52), some (.int (nI k)), some (.int (nI lim)), some (.int z), some (.int (nI (wy (zSl S) (zM L)))), some (.int (zLs L S b)), some (.int (nI c + 1)), none, none, none, none] [] h1 := fun h1 hk1 hr1 hb1 est => by
      obtain ⟨F1, hr1⟩ := hr1
      rw [nI_1]
      exact ih (c + 1) b F1 h1 (by omega) (by rw [enext, est]) hk1 hr1 hb1
    have take : ∀ h1 : HP, zMk L S h0 h1 → zRw L (lnc (zM L) (zSl S) c) h0 h1 → zStp (fun c => zOk L S k lim (lnc (zM L) (zSl S) c)) (smc (zM L) (zSl S)) c b = some c → ∀ (q a : Nat) (h2 : HP), a + q = zM L → zMk L S h0 h2 → zRw L (lnc (zM L) (zSl S) c) h0 h2 → (∀ i, i < a → h2.1 68 i = nI (dg (zM L) (zSl S) i c)) → jG E mX8_sawed (n + 7) X P 223 [some (.ref 52), some (.int (nI k)), some (.int (nI lim)), some (.int z), some (.int (nI (wy (zSl S) (zM L)))), some (.int (nI (smc (zM L) (zSl S) c))), some (.int (nI c)), none, none, some (.int (nI a)), none] [] h2 := by
      intro h1 hk1 hr1 est q
      induction q with
      | zero =>
        intro a h2 ha hk2 hr2 hd
        obtain rfl : a = zM L := by omega
        have hle : h2.1 52 5 ≤ nI (zM L) := by rw [(zMk_ml hMl hk2).1.2.2.2.1]; exact Int32.le_refl _
        refine q_Mosawed_223 _ _ _ _ _ _ _ h2 (fun _ => ?_) (fun w => absurd hle w) (fun w => absurd hle w) (fun w => absurd hle w) (fun w => absurd hle w)
        rw [nI_1]
        exact ih (c + 1) (some c) _ h2 (by omega) (by rw [enext, est]) hk2 hr2 hd
      | succ q ihq =>
        intro a h2 ha hk2 hr2 hd
        have hlt : ¬ h2.1 52 5 ≤ nI a := by rw [(zMk_ml hMl hk2).1.2.2.2.1]; exact nI_ge (by omega) (by omega)
        have ham : a < zM L := by omega
        have hv : vp_in (nI a) 4 := z_vp (by omega) (by omega)
        refine q_Mosawed_223 _ _ _ _ _ _ _ h2 (fun w => absurd w hlt) (fun _ => hv) (fun _ => by rw [z_ix2]; exact z_vp (by omega) (by omega)) (fun _ => hv) (fun _ => ?_)
        have hdl := dg_le (zM L) (zSl S) a c
        have e68 : h2.1 69 a - h2.1 56 (4 + 6 * a) = nI (dg (zM L) (zSl S) a c) := by
          rw [hk2.2.2 a ham, hr2.2 a ham]
          unfold lnc
          rw [pk_sub (by omega)]
          congr 1
          omega
        rw [z_ix2, nI_clamp (show 4 + 6 * a < 2 ^ 31 by omega), nI_clamp (show a < 2 ^ 31 by omega), e68, nI_1]
        refine ihq (a + 1) _ (by omega) (zMk_I hk2 (Or.inr rfl)) (zRw_fr (b := [68]) (zFr_I (by decide)) (by decide) hr2) (fun i hi => ?_)
        show upd (h2.1 68) a (nI (dg (zM L) (zSl S) a c)) i = _
        by_cases e : i = a
        · rw [e, upd_eq]
        · rw [upd_ne e]; exact hd i (by omega)
    have digits : ∀ (r t : Nat) (F : Nat → Nat) (h1 : HP), t + r = zM L → zMk L S h0 h1 → zRw L F h0 h1 → (∀ i, t ≤ i → i < zM L → F i = zSl S i - dg (zM L) (zSl S) i c) → zBm L S h1 b → jG E mX8_sawed (n + 7) X P 123 [some (.ref 52), some (.int (nI k)), some (.int (nI lim)), some (.int z), some (.int (nI (wy (zSl S) (zM L)))), some (.int (zLs L S b)), some (.int (nI c)), some (.int (nI (c / sp (zM L) (zSl S) r))), some (.int (nI (zSr (fun m => dg (zM L) (zSl S) m c) (zM L) r))), some (.int (nI t - 1)), none] [] h1 := by
      intro r t
      induction t generalizing r with
      | zero =>
        intro F h1 ht hk1 hr1 hF hb1
        obtain rfl : r = zM L := by omega
        have hneg : nI 0 - 1 < 0 := by decide
        have hr2 : zRw L (lnc (zM L) (zSl S) c) h0 h1 := zRw_eq hr1 (fun i hi => hF i (Nat.zero_le _) hi)
        have hms := zRw_ms hM hs hr2
        have hsh : zSh L (sLf S (lnc (zM L) (zSl S) c)) := zSh_lf hS (fun i hi => by unfold lnc; have := h6 i hi; omega)
        rw [zSr_all]
        have call : (b = none ∨ ∃ d, b = some d ∧ smc (zM L) (zSl S) c < smc (zM L) (zSl S) d) → jCall E mX8_firstOf (n + 6) [.ref 52, .int (nI k), .int (nI lim)] h1 (fun v h2 => jG E mX8_sawed (n + 7) X P 212 [some (.ref 52), some (.int (nI k)), some (.int (nI lim)), some (.int z), some (.int (nI (wy (zSl S) (zM L)))), some (.int (zLs L S b)), some (.int (nI c)), none, some (.int (nI (smc (zM L) (zSl S) c))), none, none] (v.toList ++ []) h2) := fun hb2 => by
          refine ⟨_, c_MofirstOf (n := n) hL hsh hk (show lim ≤ 40 by omega) h1 (zMk_ml hMl hk1) hms, fun v h2 hp => ?_⟩
          obtain ⟨ev, hf2, h52, _⟩ := hp
          rw [ev]
          have hk2 := zMk_fr hk1 hf2 h52
          have hr3 := zRw_fr hf2 (by decide) hr2
          have hb3 := zBm_fr hf2 (by decide) hb1
          refine q_Mosawed_212 _ _ _ _ _ _ _ _ h2 (fun w => ?_) (fun w => ?_)
          · have hok := (zOk_fi (show lim ≤ 40 by omega)).mp w
            have est : zStp (fun c => zOk L S k lim (lnc (zM L) (zSl S) c)) (smc (zM L) (zSl S)) c b = some c := by
              rcases hb2 with e | ⟨d, e, hd⟩
              · rw [e]; exact if_pos hok
              · rw [e]; exact if_pos ⟨hd, hok⟩
            exact take h2 hk2 hr3 est (zM L) 0 h2 (by omega) hk2 hr3 (fun i hi => absurd hi (by omega))
          · have hnok : zOk L S k lim (lnc (zM L) (zSl S) c) = false := by
              cases e : zOk L S k lim (lnc (zM L) (zSl S) c)
              · rfl
              · exact absurd ((zOk_fi (show lim ≤ 40 by omega)).mpr e) w
            exact skip h2 hk2 ⟨_, hr3⟩ hb3 (zStp_no hnok)
        refine q_Mosawed_123 _ _ _ _ _ _ _ _ _ h1 (fun _ w => ?_) (fun _ w w2 => ?_) (fun _ w w2 => ?_) (fun w => absurd hneg w) (fun w => absurd hneg w) (fun w => absurd hneg w) (fun w => absurd hneg w) (fun w => absurd hneg w) (fun w => absurd hneg w) (fun w => absurd hneg w)
        · refine call ?_
          cases b with
          | none => exact Or.inl rfl
          | some d =>
            have := hsmb d
            exact absurd w (nI_neg1 (by omega))
        · cases b with
          | none => exact absurd rfl w
          | some d =>
            have h1' := hsmb d
            have h2' := hsmb c
            have hge : smc (zM L) (zSl S) d ≤ smc (zM L) (zSl S) c := (nI_leI (by omega) (by omega)).mp w2
            exact skip h1 hk1 ⟨_, hr2⟩ hb1 (zStp_ge hge)
        · refine call ?_
          cases b with
          | none => exact absurd rfl w
          | some d =>
            have h1' := hsmb d
            have h2' := hsmb c
            refine Or.inr ⟨d, rfl, ?_⟩
            rcases Nat.lt_or_ge (smc (zM L) (zSl S) c) (smc (zM L) (zSl S) d) with e | e
            · exact e
            · exact absurd ((nI_leI (by omega) (by omega)).mpr e) w2
      | succ t iht =>
        intro F h1 ht hk1 hr1 hF hb1
        have htm : t < zM L := by omega
        have hg6 := h6 t htm
        have hpred : nI (t + 1) - 1 = nI t := nI_pred t
        have hnn : ¬ nI t < 0 := nI_pos (by omega)
        have hv : vp_in (nI t) 4 := z_vp (by omega) (by omega)
        have hct : (nI t).toNatClampNeg = t := nI_clamp (by omega)
        have e69 : h1.1 69 t = nI (zSl S t) := hk1.2.2 t htm
        have hsr := sp_pos (zM L) (zSl S) r
        have hcd : c / sp (zM L) (zSl S) r ≤ c := Nat.div_le_self _ _
        have hne : ¬ h1.1 69 (nI t).toNatClampNeg + 1 = 0 := by rw [hct, e69, nI_1]; exact nI_ne0 (by omega) (by omega)
        rw [hpred]
        refine q_Mosawed_123 _ _ _ _ _ _ _ _ _ h1 (fun w => absurd w hnn) (fun w => absurd w hnn) (fun w => absurd w hnn) (fun _ => hv) (fun _ => hne) (fun _ => hv) (fun _ => hne) (fun _ => hv) (fun _ => by rw [z_ix2]; exact z_vp (by omega) (by omega)) (fun _ => ?_)
        have edg : c / sp (zM L) (zSl S) r % (zSl S t + 1) = dg (zM L) (zSl S) t c := by
          unfold dg
          rw [show zM L - 1 - t = r by omega]
        have edv : c / sp (zM L) (zSl S) r / (zSl S t + 1) = c / sp (zM L) (zSl S) (r + 1) := by
          rw [Nat.div_div_eq_div_mul]
          congr 1
          show _ = (zSl S (zM L - 1 - r) + 1) * sp (zM L) (zSl S) r
          rw [show zM L - 1 - r = t by omega, Nat.mul_comm]
        have hdl := dg_le (zM L) (zSl S) t c
        have esr : zSr (fun m => dg (zM L) (zSl S) m c) (zM L) (r + 1) = zSr (fun m => dg (zM L) (zSl S) m c) (zM L) r + dg (zM L) (zSl S) t c := by
          show _ + dg (zM L) (zSl S) (zM L - 1 - r) c = _
          rw [show zM L - 1 - r = t by omega]
        rw [z_ix2, nI_clamp (show 4 + 6 * t < 2 ^ 31 by omega), hct, e69, nI_1, pk_rem (by omega) (by omega) (by omega), pk_div (by omega) (by omega) (by omega), edg, edv, pk_sub hdl, nI_add, ← esr, show nI t + (-1) = nI t - 1 from (Int32.sub_eq_add_neg _ _).symm]
        refine iht (r + 1) (up1 t (zSl S t - dg (zM L) (zSl S) t c) F) _ (by omega) (zMk_I hk1 (Or.inl rfl)) (zRw_up hr1 htm _) (fun i hi hiM => ?_) (zBm_fr (l := [56]) (zFr_I (by decide)) (by decide) hb1)
        unfold up1
        by_cases e : i = t
        · rw [if_pos e, e]
        · rw [if_neg e]; exact hF i (by omega) hiM
    have := digits 0 (zM L) F h (by omega) hk' hr (fun i hi hiM => absurd hi (by omega)) hb
    rw [show c / sp (zM L) (zSl S) 0 = c from Nat.div_one c] at this
    exact this
theorem zm_hadL (hL : zLok L) (h6 : ∀ m, m < zM L → zSl S m ≤ 6) {h0 : HP} (hMl : zMl L h0) (hs : zMs L S (h0.1 56)) {z : Int32} (kx : ∀ h, zMk L S h0 h → zRw L (zSl S) h0 h → jG E mX8_sawed (n + 2) X P 101 [some (.ref 52), some (.int (nI k)), some (.int (nI lim)), some (.int z), some (.int (nI (wy (zSl S) (zM L)))), some (.int (-1)), some (.int 0), none, none, none, none] [] h) : ∀ (q a : Nat) (h : HP), a + q = zM L → zFr [69] h0 h → (∀ i, i < a → h.1 69 i = nI (zSl S i)) → jG E mX8_sawed (n + 2) X P 45 [some (.ref 52), some (.int (nI k)), some (.int (nI lim)), some (.int z), some (.int (nI (wy (zSl S) a))), some (.int (nI a)), none, none, none, none, none] [] h := by
  have hM : zM L ≤ 4 := hL.2.2.2.2.2.1
  intro q
  induction q with
  | zero =>
    intro a h ha hf h69
    obtain rfl : a = zM L := by omega
    have hle : h.1 52 5 ≤ nI (zM L) := by rw [(zMl_fr hf (by decide) hMl).1.2.2.2.1]; exact Int32.le_refl _
    refine q_Mosawed_45 _ _ _ _ _ h (fun _ => kx h ⟨hf.sub (by decide), fun i _ => by rw [(hf 52 (by decide)).1], h69⟩ ⟨fun j _ => by rw [(hf 56 (by decide)).1], fun i hi => by rw [(hf 56 (by decide)).1]; exact (hs.2.2.2 i hi).2.2.1⟩) (fun c => absurd hle c) (fun c => absurd hle c) (fun c => absurd hle c) (fun c => absurd hle c)
  | succ q ih =>
    intro a h ha hf h69
    have hlt : ¬ h.1 52 5 ≤ nI a := by rw [(zMl_fr hf (by decide) hMl).1.2.2.2.1]; exact nI_ge (by omega) (by omega)
    have hv : vp_in (nI a) 4 := z_vp (by omega) (by omega)
    have e4 : h.1 56 (4 + 6 * a) = nI (zSl S a) := by rw [(hf 56 (by decide)).1]; exact (hs.2.2.2 a (by omega)).2.2.1
    refine q_Mosawed_45 _ _ _ _ _ h (fun c => absurd c hlt) (fun _ => by rw [z_ix2]; exact z_vp (by omega) (by omega)) (fun _ => hv) (fun _ => hv) (fun _ => ?_)
    rw [z_ix2, nI_clamp (show 4 + 6 * a < 2 ^ 31 by omega), nI_clamp (show a < 2 ^ 31 by omega), e4, nI_1, pk_mul, nI_1]
    refine ih (a + 1) _ (by omega) (hf.trans (zFr_I (by decide))) (fun i hi => ?_)
    show upd (h.1 69) a (nI (zSl S a)) i = _
    by_cases e : i = a
    · rw [e, upd_eq]
    · rw [upd_ne e]; exact h69 i (by omega)
end MS
theorem p_sawed (E : jEnv) (x y z : Int32) : jPair E 100 zInv mX7_sawed mX8_sawed [.int x, .int y, .int z] := by
  intro j h hj hI
  have hI' := hI
  obtain ⟨L, S, hL, hCl, hMl, hS, hCs, hMs, hIm, hFt, hBk, hTx, hFa⟩ := hI
  have hM4 : zM L ≤ 4 := hL.2.2.2.2.2.1
  have hN4 : zN L ≤ 4 := hL.2.2.2.2.2.2.1
  have hsh : zSh L S := hS.sh (by omega)
  have h6 : ∀ m, m < zM L → zSl S m ≤ 6 := fun m hm => (hS.2.2.2 m hm).2.1
  have e3 : h.1 3 3 = nI (zM L) := hCl.1.2.2.2.1
  have e4 : h.1 3 4 = nI (zN L) := hCl.1.2.2.2.2.1
  have e5 : h.1 52 5 = nI (zM L) := hMl.1.2.2.2.1
  have e6 : h.1 52 6 = nI (zN L) := hMl.1.2.2.2.2.1
  -- what both answer where it is refused
  have same : ∀ r : Int32, jC E mX7_sawed 100 [.ref 0, .int x, .int y, .int z] h (fun v h2 => v = some (.int r) ∧ h2 = h) → jC E mX8_sawed 100 [.ref 52, .int x, .int y, .int z] h (fun v h2 => v = some (.int r) ∧ h2 = h) → jCall E mX7_sawed 100 (.ref 0 :: [.int x, .int y, .int z]) h (fun v h2 => ∃ r : Int32, v = some (.int r) ∧ jCall E mX8_sawed 100 (.ref 52 :: [.int x, .int y, .int z]) h2 (fun v2 h3 => v2 = some (.int r) ∧ zInv (j + 1) h3)) := fun r c1 c2 => z_pair c1 c2 rfl (zInv_mono j h hI')
  rcases z_isNews (n := zN L) (by omega) x with ⟨d1, d2, k, hk, ex⟩ | ⟨d1, d2⟩
  · have d1' : ¬ f_LdisNews (h.1 3 4) x = 0 := by rw [e4, d1]; exact one0
    have d2' : ¬ f_MoisNews (h.1 52 6) x = 0 := by rw [e6, d2]; exact one0
    have hzc : z = -1 ∨ (¬ z = -1 ∧ ¬ f_LdisMan (h.1 3 3) z = 0 ∧ ¬ f_MoisMan (h.1 52 5) z = 0 ∧ ∃ w, w < zM L ∧ z = nI w) ∨ (¬ z = -1 ∧ f_LdisMan (h.1 3 3) z = 0 ∧ f_MoisMan (h.1 52 5) z = 0) := by
      by_cases q : z = -1
      · exact Or.inl q
      · right
        rcases z_isMan (n := zM L) (by omega) z with ⟨m1, m2, m, hm, ez⟩ | ⟨m1, m2⟩
        · left
          rw [e3, e5, m1, m2]
          exact ⟨q, one0, one0, m, hm, ez⟩
        · right
          rw [e3, e5]
          exact ⟨q, m1, m2⟩
    have hzz : (z = -1 ∨ (¬ z = -1 ∧ ¬ f_LdisMan (h.1 3 3) z = 0 ∧ ¬ f_MoisMan (h.1 52 5) z = 0 ∧ ∃ w, w < zM L ∧ z = nI w)) ∨ (¬ z = -1 ∧ f_LdisMan (h.1 3 3) z = 0 ∧ f_MoisMan (h.1 52 5) z = 0) := by
      rcases hzc with q | q | q
      · exact Or.inl (Or.inl q)
      · exact Or.inl (Or.inr q)
      · exact Or.inr q
    rcases hzz with hz | ⟨z1, z2, z3⟩
    · have hz' : z = -1 ∨ ∃ w, w < zM L ∧ z = nI w := by
        rcases hz with q | ⟨_, _, _, q⟩
        · exact Or.inl q
        · exact Or.inr q
      have zc : ¬ z = -1 → ¬ f_LdisMan (h.1 3 3) z = 0 := fun q => by
        rcases hz with r | ⟨_, r, _⟩
        · exact absurd r q
        · exact r
      have zm : ¬ z = -1 → ¬ f_MoisMan (h.1 52 5) z = 0 := fun q => by
        rcases hz with r | ⟨_, _, r, _⟩
        · exact absurd r q
        · exact r
      rcases z_bnd (x := y) (b := 20) (b2 := 20) (k := 20) (by decide) (by decide) with ⟨y1, y2, y3, lim, hlim, ey⟩ | ⟨y1, y3⟩
      · have y3' : ¬ f_Moin y.toInt64 0 20 = 0 := by rw [y3]; exact one0
        let b : Option Nat := zFo (fun c => zOk L S k lim (lnc (zM L) (zSl S) c)) (smc (zM L) (zSl S)) (sp (zM L) (zSl S) (zM L)) 0 none
        let R : Int32 := zRs L S z b
        have hcall : jCall E mX4_leastCuts 99 [.ref 24, .int x, .int y] h (fun v h2 => jG E mX7_sawed 100 (fun _ => True) (fun v h2 => v = some (.int R) ∧ zFr [24, 25, 26, 27, 28, 29] h h2) 52 [some (.ref 0), none, none, some (.int z), none] (v.toList ++ []) h2) := by
          rw [ex, ey]
          refine ⟨_, c_OlleastCuts (n := 91) hL hsh h6 hk hlim h hCl hCs, fun v h2 hp => ?_⟩
          obtain ⟨b', eb, ev, hb, hf2⟩ := hp
          rw [ev]
          have eb' : b = b' := eb.symm
          have eR : R = zRs L S z b' := congrArg (zRs L S z) eb'
          refine q_Shsawed_52 (n := 99) _ _ h2 (fun w => ⟨?_, hf2⟩) (fun w w2 => ⟨?_, hf2⟩) (fun w w2 => ?_) (fun w w2 => ⟨?_, hf2⟩)
          · rw [eR, w]
            cases b' with
            | none => rfl
            | some c =>
              have hsm : smc (zM L) (zSl S) c ≤ zM L * 6 := zSu_bnd (fun i hi => Nat.le_trans (dg_le _ _ _ _) (h6 i hi))
              rw [hb.1] at w
              exact absurd w (nI_neg1 (by omega))
          · rw [eR]
            cases b' with
            | none => exact absurd hb w
            | some c =>
              show some (Value.int (h2.1 24 8)) = some (Value.int (if z = -1 then nI (smc (zM L) (zSl S) c) else nI (dg (zM L) (zSl S) z.toNatClampNeg c)))
              rw [if_pos w2, hb.1]
          · rcases hz' with r | ⟨u, hu, r⟩
            · exact absurd r w2
            · rw [r]; exact z_vp (by omega) (by omega)
          · rw [eR]
            cases b' with
            | none => exact absurd hb w
            | some c =>
              show some (Value.int (h2.1 29 z.toNatClampNeg)) = some (Value.int (if z = -1 then nI (smc (zM L) (zSl S) c) else nI (dg (zM L) (zSl S) z.toNatClampNeg c)))
              rw [if_neg w2]
              rcases hz' with r | ⟨u, hu, r⟩
              · exact absurd r w2
              · have hcu : z.toNatClampNeg = u := by rw [r]; exact nI_clamp (by omega)
                rw [hcu, hb.2 u hu]
        have c1 : jC E mX7_sawed 100 [.ref 0, .int x, .int y, .int z] h (fun v h2 => v = some (.int R) ∧ zFr [24, 25, 26, 27, 28, 29] h h2) := by
          refine jC.of (lv := [some (.ref 0), some (.int x), some (.int y), some (.int z), none]) (by decide) (Nat.le_of_ble_eq_true rfl) ⟨rfl, rfl, rfl, rfl, trivial⟩ (q_Shsawed_0 (n := 99) _ _ _ h (fun q => absurd q d1') (fun _ _ q => absurd q y1) (fun _ _ _ _ => hcall) (fun _ _ _ q => absurd y2 q) (fun _ q1 q2 => absurd q2 (zc q1)) (fun _ _ _ q => absurd q y1) (fun _ _ _ _ _ => hcall) (fun _ _ _ _ q => absurd y2 q))
        refine ⟨_, c1, fun v h2 hp => ⟨_, hp.1, ?_⟩⟩
        have hf2 := hp.2
        have hMl2 := zMl_fr hf2 (by decide) hMl
        have hs2 := zMs_fr hf2 (by decide) hMs
        have e52 : h2.1 52 = h.1 52 := (hf2 52 (by decide)).1
        have hgo : jG E mX8_sawed 100 (fun _ => True) (fun v h3 => v = some (.int R) ∧ zFr [52, 56, 66, 67, 68, 69] h2 h3 ∧ (∀ i, i ≠ 40 → h3.1 52 i = h2.1 52 i) ∧ h3.1 56 = h2.1 56) 45 [some (.ref 52), some (.int x), some (.int y), some (.int z), some (.int 1), some (.int 0), none, none, none, none, none] [] h2 := by
          rw [ex, ey]
          refine zm_hadL (n := 98) hL h6 hMl2 hs2 (fun h3 hk3 hr3 => ?_) (zM L) 0 h2 (by omega) (zFr.refl _ h2) (fun i hi => absurd hi (by omega))
          refine zm_codeL (n := 93) hL hsh h6 hk hlim hMl2 hs2 (fun h4 F b' eb hk4 hr4 hb4 => ?_) (wy (zSl S) (zM L)) 0 none (zSl S) h3 (by omega) rfl hk3 hr3 trivial
          have eb' : b = b' := by
            rw [eb, ← wy_sp0]
          refine zm_endL (n := 98) hL hMl2 (b := b') hz' h6 (fun h5 hk5 hr5 => ⟨?_, hk5.1, hk5.2.1, ?_⟩) (zM L) 0 F h4 (by omega) hk4 hr4 (fun i hi => absurd hi (by omega)) hb4
          · exact congrArg (fun t => some (Value.int (zRs L S z t))) eb'.symm
          · funext t
            by_cases q : ∃ i, i < zM L ∧ t = 4 + 6 * i
            · obtain ⟨i, hi, et⟩ := q
              rw [et, hr5.2 i hi]
              exact ((hs2.2.2.2 i hi).2.2.1).symm
            · exact hr5.1 t (fun i hi e => q ⟨i, hi, e⟩)
        have c2 : jC E mX8_sawed 100 [.ref 52, .int x, .int y, .int z] h2 (fun v h3 => v = some (.int R) ∧ zFr [52, 56, 66, 67, 68, 69] h2 h3 ∧ (∀ i, i ≠ 40 → h3.1 52 i = h2.1 52 i) ∧ h3.1 56 = h2.1 56) := by
          refine jC.of (lv := [some (.ref 52), some (.int x), some (.int y), some (.int z), none, none, none, none, none, none, none]) (by decide) (Nat.le_of_ble_eq_true rfl) ⟨rfl, rfl, rfl, rfl, trivial⟩ (q_Mosawed_0 (n := 98) _ _ _ h2 (fun q => absurd (by rw [← e52]; exact q) d2') (fun _ _ q => absurd q y3') (fun _ _ _ => hgo) (fun _ q1 q2 => absurd (by rw [← e52]; exact q2) (zm q1)) (fun _ _ _ q => absurd q y3') (fun _ _ _ _ => hgo))
        refine ⟨_, c2, fun v2 h3 hp2 => ⟨hp2.1, ?_⟩⟩
        obtain ⟨_, g1, g2, g3⟩ := hp2
        exact zInv_mono j _ (zInv_fr2 ((hf2.sub (by decide)).trans (g1.sub (by decide))) (fun i hi => by rw [g2 i hi, (hf2 52 (by decide)).1]) (fun L' S' _ q => by rw [g3, (hf2 56 (by decide)).1]; exact q) hI')
      · have no : ∀ (q1 : ¬ y < 0) (q2 : y ≤ 20), False := fun q1 q2 => by
          rcases y1 with w | ⟨_, w⟩
          · exact q1 w
          · exact w q2
        refine same (-1000000002) ?_ ?_
        · exact jC.of (lv := [some (.ref 0), some (.int x), some (.int y), some (.int z), none]) (by decide) (Nat.le_of_ble_eq_true rfl) ⟨rfl, rfl, rfl, rfl, trivial⟩ (q_Shsawed_0 (n := 99) _ _ _ h (fun q => absurd q d1') (fun _ _ _ => ⟨rfl, rfl⟩) (fun _ _ q1 q2 => absurd q2 (fun q2 => no q1 q2)) (fun _ _ _ _ => ⟨rfl, rfl⟩) (fun _ q1 q2 => absurd q2 (zc q1)) (fun _ _ _ _ => ⟨rfl, rfl⟩) (fun _ _ _ q1 q2 => absurd q2 (fun q2 => no q1 q2)) (fun _ _ _ _ _ => ⟨rfl, rfl⟩))
        · exact jC.of (lv := [some (.ref 52), some (.int x), some (.int y), some (.int z), none, none, none, none, none, none, none]) (by decide) (Nat.le_of_ble_eq_true rfl) ⟨rfl, rfl, rfl, rfl, trivial⟩ (q_Mosawed_0 (n := 98) _ _ _ h (fun q => absurd q d2') (fun _ _ _ => ⟨rfl, rfl⟩) (fun _ _ q => absurd y3 q) (fun _ q1 q2 => absurd q2 (zm q1)) (fun _ _ _ _ => ⟨rfl, rfl⟩) (fun _ _ _ q => absurd y3 q))
    · refine same (-1000000001) ?_ ?_
      · exact jC.of (lv := [some (.ref 0), some (.int x), some (.int y), some (.int z), none]) (by decide) (Nat.le_of_ble_eq_true rfl) ⟨rfl, rfl, rfl, rfl, trivial⟩ (q_Shsawed_0 (n := 99) _ _ _ h (fun q => absurd q d1') (fun _ q => absurd q z1) (fun _ q => absurd q z1) (fun _ q => absurd q z1) (fun _ _ _ => ⟨rfl, rfl⟩) (fun _ _ q => absurd z2 q) (fun _ _ q => absurd z2 q) (fun _ _ q => absurd z2 q))
      · exact jC.of (lv := [some (.ref 52), some (.int x), some (.int y), some (.int z), none, none, none, none, none, none, none]) (by decide) (Nat.le_of_ble_eq_true rfl) ⟨rfl, rfl, rfl, rfl, trivial⟩ (q_Mosawed_0 (n := 98) _ _ _ h (fun q => absurd q d2') (fun _ q => absurd q z1) (fun _ q => absurd q z1) (fun _ _ _ => ⟨rfl, rfl⟩) (fun _ _ q => absurd z3 q) (fun _ _ q => absurd z3 q))
  · have d1' : f_LdisNews (h.1 3 4) x = 0 := by rw [e4, d1]
    have d2' : f_MoisNews (h.1 52 6) x = 0 := by rw [e6, d2]
    refine same (-1000000001) ?_ ?_
    · exact jC.of (lv := [some (.ref 0), some (.int x), some (.int y), some (.int z), none]) (by decide) (Nat.le_of_ble_eq_true rfl) ⟨rfl, rfl, rfl, rfl, trivial⟩ (q_Shsawed_0 (n := 99) _ _ _ h (fun _ => ⟨rfl, rfl⟩) (fun q => absurd d1' q) (fun q => absurd d1' q) (fun q => absurd d1' q) (fun q => absurd d1' q) (fun q => absurd d1' q) (fun q => absurd d1' q) (fun q => absurd d1' q))
    · exact jC.of (lv := [some (.ref 52), some (.int x), some (.int y), some (.int z), none, none, none, none, none, none, none]) (by decide) (Nat.le_of_ble_eq_true rfl) ⟨rfl, rfl, rfl, rfl, trivial⟩ (q_Mosawed_0 (n := 98) _ _ _ h (fun _ => ⟨rfl, rfl⟩) (fun q => absurd d2' q) (fun q => absurd d2' q) (fun q => absurd d2' q) (fun q => absurd d2' q) (fun q => absurd d2' q))
