/-! ===== the class's reader: blanks, signs, words, numbers ===== -/
def zX (B : Nat → Nat) (N : Nat) (h : HP) : Prop := N ≤ 500 ∧ h.1 1 1 = nI N ∧ ∀ i, i < N → B i < 256 ∧ h.1 2 i &&& 255 = nI (B i) ∧ (h.1 2 i = 32 ↔ B i = 32)
def zF10 (l : List Nat) (h h2 : HP) : Prop := zFr [10] h h2 ∧ ∀ i, i ∉ l → h2.1 10 i = h.1 10 i
theorem zF10.refl (l : List Nat) (h : HP) : zF10 l h h := ⟨zFr.refl _ h, fun _ _ => rfl⟩
theorem zF10.trans {l : List Nat} {h h2 h3 : HP} (p : zF10 l h h2) (q : zF10 l h2 h3) : zF10 l h h3 := ⟨p.1.trans q.1, fun i hi => (q.2 i hi).trans (p.2 i hi)⟩
theorem zF10.sub {l l' : List Nat} {h h2 : HP} (p : zF10 l h h2) (hs : ∀ i, i ∈ l → i ∈ l') : zF10 l' h h2 := ⟨p.1, fun i hi => p.2 i (fun q => hi (hs i q))⟩
theorem zF10_I {l : List Nat} {h : HP} {j : Nat} {x : Int32} (hj : j ∈ l) : zF10 l h (jPI h 10 j x) := ⟨zFr_I (by decide), fun i hi => upd_ne (fun e => hi (e ▸ hj))⟩
theorem zX_fr {B : Nat → Nat} {N : Nat} {b : List Nat} {h h2 : HP} (hf : zFr b h h2) (hb : 1 ∉ b ∧ 2 ∉ b) (q : zX B N h) : zX B N h2 := by
  unfold zX
  rw [(hf 1 hb.1).1, (hf 2 hb.2).1]
  exact q
def zRd (N : Nat) (h : HP) : ZE ⊕ Nat → Prop
  | .inl f => (h.1 10 2 = nI f.1 ∧ h.1 10 3 = nI f.2 ∧ 1 ≤ f.1 ∧ f.1 ≤ 4) ∧ ∃ a, a ≤ N ∧ h.1 10 4 = nI a
  | .inr a => h.1 10 2 = 0 ∧ h.1 10 3 = -1 ∧ a ≤ N ∧ h.1 10 4 = nI a
theorem zRd_at {N : Nat} {h : HP} : ∀ {r : ZE ⊕ Nat}, zRd N h r → ∃ a, a ≤ N ∧ h.1 10 4 = nI a ∧ ∀ b, r = .inr b → b = a
  | .inl f, q => by
    obtain ⟨_, a, ha, e⟩ := q
    exact ⟨a, ha, e, fun b hb => by cases hb⟩
  | .inr a, q => ⟨a, q.2.2.1, q.2.2.2, fun b hb => by cases hb; rfl⟩
theorem zRd_4 {N : Nat} {h h2 : HP} (hf : zF10 [4] h h2) {a : Nat} (ha : a ≤ N) (e : h2.1 10 4 = nI a) : ∀ {r : ZE ⊕ Nat}, zRd N h r → zRd N h2 (bnd r (fun _ => .inr a))
  | .inl f, q => by
    obtain ⟨⟨q1, q2, q3⟩, _⟩ := q
    exact ⟨⟨by rw [hf.2 2 (by decide)]; exact q1, by rw [hf.2 3 (by decide)]; exact q2, q3⟩, a, ha, e⟩
  | .inr b, q => ⟨by rw [hf.2 2 (by decide)]; exact q.1, by rw [hf.2 3 (by decide)]; exact q.2.1, ha, e⟩
theorem z_failed {N : Nat} {h : HP} : ∀ {r : ZE ⊕ Nat}, zRd N h r → ((f_Rdfailed (h.1 10 2) = 0 ↔ ∃ a, r = .inr a) ∧ (¬ f_Rdfailed (h.1 10 2) = 0 ↔ ∃ f, r = .inl f))
  | .inl f, q => by
    obtain ⟨⟨q1, q2, q3, q4⟩, _⟩ := q
    have hne : ¬ h.1 10 2 = 0 := by rw [q1]; exact nI_ne0 (by omega) (by omega)
    have e : f_Rdfailed (h.1 10 2) = 1 := by unfold f_Rdfailed; rw [if_neg hne]
    rw [e]
    exact ⟨⟨fun w => absurd w one0, fun ⟨a, w⟩ => by cases w⟩, ⟨fun _ => ⟨f, rfl⟩, fun _ => one0⟩⟩
  | .inr a, q => by
    have e : f_Rdfailed (h.1 10 2) = 0 := by unfold f_Rdfailed; rw [if_pos q.1]
    rw [e]
    exact ⟨⟨fun _ => ⟨a, rfl⟩, fun _ => rfl⟩, ⟨fun w => absurd rfl w, fun ⟨a, w⟩ => by cases w⟩⟩
theorem z_fail {N : Nat} {h : HP} {k w : Nat} (h1 : 1 ≤ k) (h4 : k ≤ 4) : ∀ {r : ZE ⊕ Nat}, zRd N h r → zRd N (H_Rdfail h (nI k) (nI w)) (bnd r (fun _ => .inl (k, w))) ∧ zF10 [2, 3] h (H_Rdfail h (nI k) (nI w))
  | .inl f, q => by
    obtain ⟨⟨q1, q2, q3, q4⟩, _⟩ := id q
    have hne : ¬ h.1 10 2 = 0 := by rw [q1]; exact nI_ne0 (by omega) (by omega)
    have e : H_Rdfail h (nI k) (nI w) = h := by unfold H_Rdfail; rw [if_neg hne]
    rw [e]
    exact ⟨q, zF10.refl _ h⟩
  | .inr a, q => by
    have e : H_Rdfail h (nI k) (nI w) = jPI (jPI h 10 2 (nI k)) 10 3 (nI w) := by unfold H_Rdfail; rw [if_pos q.1]
    rw [e]
    exact ⟨⟨⟨rfl, rfl, h1, h4⟩, a, q.2.2.1, q.2.2.2⟩, (zF10_I (by decide)).trans (zF10_I (by decide))⟩
theorem z_bAt {B : Nat → Nat} {N : Nat} {h : HP} (q : zX B N h) {a : Nat} (ha : a ≤ N) : f_TxbyteAt (h.1 1 1) (h.1 2) (nI a) = if a < N then nI (B a) else -1 := by
  have h5 := q.1
  unfold f_TxbyteAt
  rw [q.2.1, if_neg (nI_pos (by omega))]
  by_cases e : a < N
  · rw [if_pos e, if_neg (nI_ge e (by omega)), show (500 : Int32) = nI 500 from rfl, if_neg (nI_ge (by omega) (by omega)), nI_clamp (by omega)]
    exact (q.2.2 a e).2.1
  · rw [if_neg e, if_pos ((nI_leI (by omega) (by omega)).mpr (by omega))]
theorem z_let : ∀ b, b < 256 → f_RdisLetter (nI b) = if (decide (97 ≤ b) && decide (b ≤ 122)) = true then 1 else 0 := by decide +kernel
theorem z_fig : ∀ b, b < 256 → f_RdisFigure (nI b) = if (decide (48 ≤ b) && decide (b ≤ 57)) = true then 1 else 0 := by decide +kernel
section RC
variable {E : jEnv} {n : Nat} {X : State → Prop} {P : Option Value → HP → Prop} {B : Nat → Nat} {N : Nat}
theorem zc_skL : ∀ (k a : Nat) (h : HP), N - a = k → a ≤ N → zX B N h → h.1 10 4 = nI a → (∀ h2, zF10 [4] h h2 → h2.1 10 4 = nI (sk B N a) → P none h2) → jG E mX3_skipBlanks n X P 0 [some (.ref 10)] [] h := by
  intro k
  induction k with
  | zero =>
    intro a h hk ha hX h4 hP
    have h5 := hX.1
    have hle : h.1 1 1 ≤ h.1 10 4 := by rw [hX.2.1, h4]; exact (nI_leI (by omega) (by omega)).mpr (by omega)
    refine q_RdskipBlanks_0 h (fun _ => hP h (zF10.refl _ h) ?_) (fun c => absurd hle c) (fun c => absurd hle c) (fun c => absurd hle c) (fun c => absurd hle c)
    unfold sk
    rw [re_n (fun w => absurd w (by omega)), h4]
  | succ k ih =>
    intro a h hk ha hX h4 hP
    have h5 := hX.1
    have haN : a < N := by omega
    have hlt : ¬ h.1 1 1 ≤ h.1 10 4 := by rw [hX.2.1, h4]; exact nI_ge haN (by omega)
    have h500 : ¬ (500 : Int32) ≤ h.1 10 4 := by rw [h4, show (500 : Int32) = nI 500 from rfl]; exact nI_ge (by omega) (by omega)
    have hb := (hX.2.2 a haN).2.2
    have hcl : (h.1 10 4).toNatClampNeg = a := by rw [h4]; exact nI_clamp (by omega)
    refine q_RdskipBlanks_0 h (fun c => absurd c hlt) (fun _ c => absurd c h500) (fun _ _ => by rw [h4]; exact z_vp (by omega) (by omega)) (fun _ _ w => ?_) (fun _ _ w => hP h (zF10.refl _ h) ?_)
    · rw [hcl] at w
      have hf : zF10 [4] h (jPI h 10 4 (h.1 10 4 + 1)) := zF10_I (by decide)
      refine ih (a + 1) _ (by omega) (by omega) (zX_fr hf.1 (by decide) hX) (by show h.1 10 4 + 1 = _; rw [h4, nI_1]) (fun h2 hf2 e2 => hP h2 (hf.trans hf2) ?_)
      rw [e2]
      unfold sk
      rw [re_y haN (show bSp B a = true from decide_eq_true (hb.mp w))]
    · rw [hcl] at w
      unfold sk
      rw [re_n (fun _ => show bSp B a = false from decide_eq_false (fun e => w (hb.mpr e))), h4]
theorem c_skip {a : Nat} (ha : a ≤ N) (h : HP) (hX : zX B N h) (h4 : h.1 10 4 = nI a) : jC E mX3_skipBlanks n [.ref 10] h (fun v h2 => v = none ∧ zF10 [4] h h2 ∧ h2.1 10 4 = nI (sk B N a)) :=
  jC.of (lv := [some (.ref 10)]) (by decide) (Nat.le_of_ble_eq_true rfl) ⟨rfl, trivial⟩ (zc_skL (N - a) a h rfl ha hX h4 (fun h2 hf e => ⟨rfl, hf, e⟩))
theorem zc_ltL : ∀ (k a : Nat) (h : HP), N - a = k → a ≤ N → zX B N h → h.1 10 4 = nI a → (∀ h2, zF10 [4] h h2 → h2.1 10 4 = nI (lt B N a) → P none h2) → jG E mX3_takeWord (n + 1) X P 12 [some (.ref 10)] [] h := by
  intro k
  induction k with
  | zero =>
    intro a h hk ha hX h4 hP
    have h5 := hX.1
    have hle : h.1 1 1 ≤ h.1 10 4 := by rw [hX.2.1, h4]; exact (nI_leI (by omega) (by omega)).mpr (by omega)
    refine q_RdtakeWord_12 h (fun _ => hP h (zF10.refl _ h) ?_) (fun c => absurd hle c) (fun c => absurd hle c)
    unfold lt
    rw [re_n (fun w => absurd w (by omega)), h4]
  | succ k ih =>
    intro a h hk ha hX h4 hP
    have h5 := hX.1
    have haN : a < N := by omega
    have hlt : ¬ h.1 1 1 ≤ h.1 10 4 := by rw [hX.2.1, h4]; exact nI_ge haN (by omega)
    have hl : f_RdisLetter (f_TxbyteAt (h.1 1 1) (h.1 2) (h.1 10 4)) = if bLt B a = true then 1 else 0 := by
      rw [h4, z_bAt hX ha, if_pos haN, z_let _ (hX.2.2 a haN).1]
      rfl
    refine q_RdtakeWord_12 h (fun c => absurd c hlt) (fun _ w => hP h (zF10.refl _ h) ?_) (fun _ w => ?_)
    · have hb : bLt B a = false := by
        cases q : bLt B a
        · rfl
        · rw [hl, q, if_pos rfl] at w; exact absurd w one0
      unfold lt
      rw [re_n (fun _ => hb), h4]
    · have hb : bLt B a = true := by
        cases q : bLt B a
        · rw [hl, q] at w; exact absurd rfl w
        · rfl
      have hf : zF10 [4] h (jPI h 10 4 (h.1 10 4 + 1)) := zF10_I (by decide)
      refine ih (a + 1) _ (by omega) (by omega) (zX_fr hf.1 (by decide) hX) (by show h.1 10 4 + 1 = _; rw [h4, nI_1]) (fun h2 hf2 e2 => hP h2 (hf.trans hf2) ?_)
      rw [e2]
      unfold lt
      rw [re_y haN hb]
theorem c_takeWord {a : Nat} (ha : a ≤ N) (h : HP) (hX : zX B N h) (h4 : h.1 10 4 = nI a) : jC E mX3_takeWord (n + 1) [.ref 10] h (fun v h2 => v = none ∧ zF10 [4, 5] h h2 ∧ h2.1 10 5 = nI (sk B N a) ∧ h2.1 10 4 = nI (lt B N (sk B N a))) := by
  refine jC.of (lv := [some (.ref 10)]) (by decide) (Nat.le_of_ble_eq_true rfl) ⟨rfl, trivial⟩ (q_RdtakeWord_0 h ?_)
  refine ⟨_, c_skip ha h hX h4, fun v h1 hp => ?_⟩
  obtain ⟨ev, hf1, e1⟩ := hp
  rw [ev]
  refine q_RdtakeWord_4 h1 ?_
  have hX1 := zX_fr hf1.1 (by decide) hX
  have hf2 : zF10 [4, 5] h1 (jPI h1 10 5 (h1.1 10 4)) := zF10_I (by decide)
  refine zc_ltL (N - sk B N a) (sk B N a) _ rfl (sk_le ha).2 (zX_fr hf2.1 (by decide) hX1) e1 (fun h3 hf3 e3 => ⟨rfl, ((hf1.sub (by decide)).trans hf2).trans (hf3.sub (by decide)), ?_, e3⟩)
  rw [hf3.2 5 (by decide)]
  exact e1
theorem j_ch : ∀ i, i < 6 → ∀ j, j < jSl.getD i 0 → (jSb.getD i []).getD j 0 &&& 255 = (jSb.getD i []).getD j 0 := by decide +kernel
theorem zc_wd0 {s e : Nat} (hs : s ≤ e) (he : e ≤ N) {h : HP} (hX : zX B N h) (h4 : h.1 10 4 = nI e) (h5 : h.1 10 5 = nI s) : jC E mX3_wordIs (n + 4) [.ref 10, .ref 2000] h (fun v h2 => v = some (.int (if isW B 0 s e = true then 1 else 0)) ∧ h2 = h) := by
  have hN := hX.1
  refine jC.of (lv := [some (.ref 10), some (.ref 2000), none]) (by decide) (Nat.le_of_ble_eq_true rfl) ⟨rfl, rfl, trivial⟩ (q_RdwordIs0_0 (n := n + 2) h (fun w => ?_) (fun w => ⟨?_, rfl⟩))
  · rw [h4, h5, pk_sub hs] at w
    have hl : e - s = 4 := (nI_eq (by omega) (by omega)).mp w
    have loop : ∀ (q j : Nat), j + q = 4 → (∀ t, t < j → nI (B (s + t)) = (jSb.getD 0 []).getD t 0) → jG E mX3_wordIs (n + 4) (fun _ => True) (fun v h2 => v = some (.int (if isW B 0 s e = true then 1 else 0)) ∧ h2 = h) 20 [some (.ref 10), some (.ref 2000), some (.int (nI j))] [] h := by
      intro q
      induction q with
      | zero =>
        intro j hj hall
        obtain rfl : j = 4 := by omega
        refine q_RdwordIs0_20 (n := n + 2) _ h (fun _ => ⟨?_, rfl⟩) (fun c => absurd (Int32.le_refl _) c)
        have hw : isW B 0 s e = true := by
          unfold isW
          rw [Bool.and_eq_true, decide_eq_true_eq, List.all_eq_true]
          exact ⟨hl, fun t ht => decide_eq_true (hall t (List.mem_range.mp ht))⟩
        rw [if_pos hw]
      | succ q ih =>
        intro j hj hall
        refine q_RdwordIs0_20 (n := n + 2) _ h (fun c => absurd c (nI_ge (by omega) (by omega))) (fun _ => ?_)
        refine ⟨_, c_charAt (n := n) (i := 0) (k := j) (by decide) (show j < 4 by omega) h, fun v h2 hp => ?_⟩
        rw [hp.1, hp.2, h5, nI_add, z_bAt hX (show s + j ≤ N by omega), if_pos (show s + j < N by omega), j_ch 0 (by decide) j (show j < 4 by omega)]
        refine q_RdwordIs0_46 (n := n + 2) _ _ _ h (fun w2 => ?_) (fun w2 => ⟨?_, rfl⟩)
        · rw [nI_1]
          refine ih (j + 1) (by omega) (fun t ht => ?_)
          by_cases e2 : t = j
          · rw [e2]; exact w2
          · exact hall t (by omega)
        · have hw : ¬ isW B 0 s e = true := fun q2 => by
            unfold isW at q2
            rw [Bool.and_eq_true, List.all_eq_true] at q2
            exact w2 (of_decide_eq_true (q2.2 j (List.mem_range.mpr (show j < 4 by omega))))
          rw [if_neg hw]
    exact loop 4 0 (by omega) (fun t ht => absurd ht (by omega))
  · rw [h4, h5, pk_sub hs] at w
    have hw : ¬ isW B 0 s e = true := fun q => by
      unfold isW at q
      rw [Bool.and_eq_true] at q
      exact w (congrArg nI (of_decide_eq_true q.1))
    rw [if_neg hw]
theorem zc_wd1 {s e : Nat} (hs : s ≤ e) (he : e ≤ N) {h : HP} (hX : zX B N h) (h4 : h.1 10 4 = nI e) (h5 : h.1 10 5 = nI s) : jC E mX3_wordIs (n + 4) [.ref 10, .ref 2001] h (fun v h2 => v = some (.int (if isW B 1 s e = true then 1 else 0)) ∧ h2 = h) := by
  have hN := hX.1
  refine jC.of (lv := [some (.ref 10), some (.ref 2001), none]) (by decide) (Nat.le_of_ble_eq_true rfl) ⟨rfl, rfl, trivial⟩ (q_RdwordIs1_0 (n := n + 2) h (fun w => ?_) (fun w => ⟨?_, rfl⟩))
  · rw [h4, h5, pk_sub hs] at w
    have hl : e - s = 3 := (nI_eq (by omega) (by omega)).mp w
    have loop : ∀ (q j : Nat), j + q = 3 → (∀ t, t < j → nI (B (s + t)) = (jSb.getD 1 []).getD t 0) → jG E mX3_wordIs (n + 4) (fun _ => True) (fun v h2 => v = some (.int (if isW B 1 s e = true then 1 else 0)) ∧ h2 = h) 20 [some (.ref 10), some (.ref 2001), some (.int (nI j))] [] h := by
      intro q
      induction q with
      | zero =>
        intro j hj hall
        obtain rfl : j = 3 := by omega
        refine q_RdwordIs1_20 (n := n + 2) _ h (fun _ => ⟨?_, rfl⟩) (fun c => absurd (Int32.le_refl _) c)
        have hw : isW B 1 s e = true := by
          unfold isW
          rw [Bool.and_eq_true, decide_eq_true_eq, List.all_eq_true]
          exact ⟨hl, fun t ht => decide_eq_true (hall t (List.mem_range.mp ht))⟩
        rw [if_pos hw]
      | succ q ih =>
        intro j hj hall
        refine q_RdwordIs1_20 (n := n + 2) _ h (fun c => absurd c (nI_ge (by omega) (by omega))) (fun _ => ?_)
        refine ⟨_, c_charAt (n := n) (i := 1) (k := j) (by decide) (show j < 3 by omega) h, fun v h2 hp => ?_⟩
        rw [hp.1, hp.2, h5, nI_add, z_bAt hX (show s + j ≤ N by omega), if_pos (show s + j < N by omega), j_ch 1 (by decide) j (show j < 3 by omega)]
        refine q_RdwordIs1_46 (n := n + 2) _ _ _ h (fun w2 => ?_) (fun w2 => ⟨?_, rfl⟩)
        · rw [nI_1]
          refine ih (j + 1) (by omega) (fun t ht => ?_)
          by_cases e2 : t = j
          · rw [e2]; exact w2
          · exact hall t (by omega)
        · have hw : ¬ isW B 1 s e = true := fun q2 => by
            unfold isW at q2
            rw [Bool.and_eq_true, List.all_eq_true] at q2
            exact w2 (of_decide_eq_true (q2.2 j (List.mem_range.mpr (show j < 3 by omega))))
          rw [if_neg hw]
    exact loop 3 0 (by omega) (fun t ht => absurd ht (by omega))
  · rw [h4, h5, pk_sub hs] at w
    have hw : ¬ isW B 1 s e = true := fun q => by
      unfold isW at q
      rw [Bool.and_eq_true] at q
      exact w (congrArg nI (of_decide_eq_true q.1))
    rw [if_neg hw]
theorem zc_wd2 {s e : Nat} (hs : s ≤ e) (he : e ≤ N) {h : HP} (hX : zX B N h) (h4 : h.1 10 4 = nI e) (h5 : h.1 10 5 = nI s) : jC E mX3_wordIs (n + 4) [.ref 10, .ref 2002] h (fun v h2 => v = some (.int (if isW B 2 s e = true then 1 else 0)) ∧ h2 = h) := by
  have hN := hX.1
  refine jC.of (lv := [some (.ref 10), some (.ref 2002), none]) (by decide) (Nat.le_of_ble_eq_true rfl) ⟨rfl, rfl, trivial⟩ (q_RdwordIs2_0 (n := n + 2) h (fun w => ?_) (fun w => ⟨?_, rfl⟩))
  · rw [h4, h5, pk_sub hs] at w
    have hl : e - s = 4 := (nI_eq (by omega) (by omega)).mp w
    have loop : ∀ (q j : Nat), j + q = 4 → (∀ t, t < j → nI (B (s + t)) = (jSb.getD 2 []).getD t 0) → jG E mX3_wordIs (n + 4) (fun _ => True) (fun v h2 => v = some (.int (if isW B 2 s e = true then 1 else 0)) ∧ h2 = h) 20 [some (.ref 10), some (.ref 2002), some (.int (nI j))] [] h := by
      intro q
      induction q with
      | zero =>
        intro j hj hall
        obtain rfl : j = 4 := by omega
        refine q_RdwordIs2_20 (n := n + 2) _ h (fun _ => ⟨?_, rfl⟩) (fun c => absurd (Int32.le_refl _) c)
        have hw : isW B 2 s e = true := by
          unfold isW
          rw [Bool.and_eq_true, decide_eq_true_eq, List.all_eq_true]
          exact ⟨hl, fun t ht => decide_eq_true (hall t (List.mem_range.mp ht))⟩
        rw [if_pos hw]
      | succ q ih =>
        intro j hj hall
        refine q_RdwordIs2_20 (n := n + 2) _ h (fun c => absurd c (nI_ge (by omega) (by omega))) (fun _ => ?_)
        refine ⟨_, c_charAt (n := n) (i := 2) (k := j) (by decide) (show j < 4 by omega) h, fun v h2 hp => ?_⟩
        rw [hp.1, hp.2, h5, nI_add, z_bAt hX (show s + j ≤ N by omega), if_pos (show s + j < N by omega), j_ch 2 (by decide) j (show j < 4 by omega)]
        refine q_RdwordIs2_46 (n := n + 2) _ _ _ h (fun w2 => ?_) (fun w2 => ⟨?_, rfl⟩)
        · rw [nI_1]
          refine ih (j + 1) (by omega) (fun t ht => ?_)
          by_cases e2 : t = j
          · rw [e2]; exact w2
          · exact hall t (by omega)
        · have hw : ¬ isW B 2 s e = true := fun q2 => by
            unfold isW at q2
            rw [Bool.and_eq_true, List.all_eq_true] at q2
            exact w2 (of_decide_eq_true (q2.2 j (List.mem_range.mpr (show j < 4 by omega))))
          rw [if_neg hw]
    exact loop 4 0 (by omega) (fun t ht => absurd ht (by omega))
  · rw [h4, h5, pk_sub hs] at w
    have hw : ¬ isW B 2 s e = true := fun q => by
      unfold isW at q
      rw [Bool.and_eq_true] at q
      exact w (congrArg nI (of_decide_eq_true q.1))
    rw [if_neg hw]
theorem zc_wd3 {s e : Nat} (hs : s ≤ e) (he : e ≤ N) {h : HP} (hX : zX B N h) (h4 : h.1 10 4 = nI e) (h5 : h.1 10 5 = nI s) : jC E mX3_wordIs (n + 4) [.ref 10, .ref 2003] h (fun v h2 => v = some (.int (if isW B 3 s e = true then 1 else 0)) ∧ h2 = h) := by
  have hN := hX.1
  refine jC.of (lv := [some (.ref 10), some (.ref 2003), none]) (by decide) (Nat.le_of_ble_eq_true rfl) ⟨rfl, rfl, trivial⟩ (q_RdwordIs3_0 (n := n + 2) h (fun w => ?_) (fun w => ⟨?_, rfl⟩))
  · rw [h4, h5, pk_sub hs] at w
    have hl : e - s = 3 := (nI_eq (by omega) (by omega)).mp w
    have loop : ∀ (q j : Nat), j + q = 3 → (∀ t, t < j → nI (B (s + t)) = (jSb.getD 3 []).getD t 0) → jG E mX3_wordIs (n + 4) (fun _ => True) (fun v h2 => v = some (.int (if isW B 3 s e = true then 1 else 0)) ∧ h2 = h) 20 [some (.ref 10), some (.ref 2003), some (.int (nI j))] [] h := by
      intro q
      induction q with
      | zero =>
        intro j hj hall
        obtain rfl : j = 3 := by omega
        refine q_RdwordIs3_20 (n := n + 2) _ h (fun _ => ⟨?_, rfl⟩) (fun c => absurd (Int32.le_refl _) c)
        have hw : isW B 3 s e = true := by
          unfold isW
          rw [Bool.and_eq_true, decide_eq_true_eq, List.all_eq_true]
          exact ⟨hl, fun t ht => decide_eq_true (hall t (List.mem_range.mp ht))⟩
        rw [if_pos hw]
      | succ q ih =>
        intro j hj hall
        refine q_RdwordIs3_20 (n := n + 2) _ h (fun c => absurd c (nI_ge (by omega) (by omega))) (fun _ => ?_)
        refine ⟨_, c_charAt (n := n) (i := 3) (k := j) (by decide) (show j < 3 by omega) h, fun v h2 hp => ?_⟩
        rw [hp.1, hp.2, h5, nI_add, z_bAt hX (show s + j ≤ N by omega), if_pos (show s + j < N by omega), j_ch 3 (by decide) j (show j < 3 by omega)]
        refine q_RdwordIs3_46 (n := n + 2) _ _ _ h (fun w2 => ?_) (fun w2 => ⟨?_, rfl⟩)
        · rw [nI_1]
          refine ih (j + 1) (by omega) (fun t ht => ?_)
          by_cases e2 : t = j
          · rw [e2]; exact w2
          · exact hall t (by omega)
        · have hw : ¬ isW B 3 s e = true := fun q2 => by
            unfold isW at q2
            rw [Bool.and_eq_true, List.all_eq_true] at q2
            exact w2 (of_decide_eq_true (q2.2 j (List.mem_range.mpr (show j < 3 by omega))))
          rw [if_neg hw]
    exact loop 3 0 (by omega) (fun t ht => absurd ht (by omega))
  · rw [h4, h5, pk_sub hs] at w
    have hw : ¬ isW B 3 s e = true := fun q => by
      unfold isW at q
      rw [Bool.and_eq_true] at q
      exact w (congrArg nI (of_decide_eq_true q.1))
    rw [if_neg hw]
theorem zc_wd4 {s e : Nat} (hs : s ≤ e) (he : e ≤ N) {h : HP} (hX : zX B N h) (h4 : h.1 10 4 = nI e) (h5 : h.1 10 5 = nI s) : jC E mX3_wordIs (n + 4) [.ref 10, .ref 2004] h (fun v h2 => v = some (.int (if isW B 4 s e = true then 1 else 0)) ∧ h2 = h) := by
  have hN := hX.1
  refine jC.of (lv := [some (.ref 10), some (.ref 2004), none]) (by decide) (Nat.le_of_ble_eq_true rfl) ⟨rfl, rfl, trivial⟩ (q_RdwordIs4_0 (n := n + 2) h (fun w => ?_) (fun w => ⟨?_, rfl⟩))
  · rw [h4, h5, pk_sub hs] at w
    have hl : e - s = 4 := (nI_eq (by omega) (by omega)).mp w
    have loop : ∀ (q j : Nat), j + q = 4 → (∀ t, t < j → nI (B (s + t)) = (jSb.getD 4 []).getD t 0) → jG E mX3_wordIs (n + 4) (fun _ => True) (fun v h2 => v = some (.int (if isW B 4 s e = true then 1 else 0)) ∧ h2 = h) 20 [some (.ref 10), some (.ref 2004), some (.int (nI j))] [] h := by
      intro q
      induction q with
      | zero =>
        intro j hj hall
        obtain rfl : j = 4 := by omega
        refine q_RdwordIs4_20 (n := n + 2) _ h (fun _ => ⟨?_, rfl⟩) (fun c => absurd (Int32.le_refl _) c)
        have hw : isW B 4 s e = true := by
          unfold isW
          rw [Bool.and_eq_true, decide_eq_true_eq, List.all_eq_true]
          exact ⟨hl, fun t ht => decide_eq_true (hall t (List.mem_range.mp ht))⟩
        rw [if_pos hw]
      | succ q ih =>
        intro j hj hall
        refine q_RdwordIs4_20 (n := n + 2) _ h (fun c => absurd c (nI_ge (by omega) (by omega))) (fun _ => ?_)
        refine ⟨_, c_charAt (n := n) (i := 4) (k := j) (by decide) (show j < 4 by omega) h, fun v h2 hp => ?_⟩
        rw [hp.1, hp.2, h5, nI_add, z_bAt hX (show s + j ≤ N by omega), if_pos (show s + j < N by omega), j_ch 4 (by decide) j (show j < 4 by omega)]
        refine q_RdwordIs4_46 (n := n + 2) _ _ _ h (fun w2 => ?_) (fun w2 => ⟨?_, rfl⟩)
        · rw [nI_1]
          refine ih (j + 1) (by omega) (fun t ht => ?_)
          by_cases e2 : t = j
          · rw [e2]; exact w2
          · exact hall t (by omega)
        · have hw : ¬ isW B 4 s e = true := fun q2 => by
            unfold isW at q2
            rw [Bool.and_eq_true, List.all_eq_true] at q2
            exact w2 (of_decide_eq_true (q2.2 j (List.mem_range.mpr (show j < 4 by omega))))
          rw [if_neg hw]
    exact loop 4 0 (by omega) (fun t ht => absurd ht (by omega))
  · rw [h4, h5, pk_sub hs] at w
    have hw : ¬ isW B 4 s e = true := fun q => by
      unfold isW at q
      rw [Bool.and_eq_true] at q
      exact w (congrArg nI (of_decide_eq_true q.1))
    rw [if_neg hw]
theorem zc_wd5 {s e : Nat} (hs : s ≤ e) (he : e ≤ N) {h : HP} (hX : zX B N h) (h4 : h.1 10 4 = nI e) (h5 : h.1 10 5 = nI s) : jC E mX3_wordIs (n + 4) [.ref 10, .ref 2005] h (fun v h2 => v = some (.int (if isW B 5 s e = true then 1 else 0)) ∧ h2 = h) := by
  have hN := hX.1
  refine jC.of (lv := [some (.ref 10), some (.ref 2005), none]) (by decide) (Nat.le_of_ble_eq_true rfl) ⟨rfl, rfl, trivial⟩ (q_RdwordIs5_0 (n := n + 2) h (fun w => ?_) (fun w => ⟨?_, rfl⟩))
  · rw [h4, h5, pk_sub hs] at w
    have hl : e - s = 6 := (nI_eq (by omega) (by omega)).mp w
    have loop : ∀ (q j : Nat), j + q = 6 → (∀ t, t < j → nI (B (s + t)) = (jSb.getD 5 []).getD t 0) → jG E mX3_wordIs (n + 4) (fun _ => True) (fun v h2 => v = some (.int (if isW B 5 s e = true then 1 else 0)) ∧ h2 = h) 20 [some (.ref 10), some (.ref 2005), some (.int (nI j))] [] h := by
      intro q
      induction q with
      | zero =>
        intro j hj hall
        obtain rfl : j = 6 := by omega
        refine q_RdwordIs5_20 (n := n + 2) _ h (fun _ => ⟨?_, rfl⟩) (fun c => absurd (Int32.le_refl _) c)
        have hw : isW B 5 s e = true := by
          unfold isW
          rw [Bool.and_eq_true, decide_eq_true_eq, List.all_eq_true]
          exact ⟨hl, fun t ht => decide_eq_true (hall t (List.mem_range.mp ht))⟩
        rw [if_pos hw]
      | succ q ih =>
        intro j hj hall
        refine q_RdwordIs5_20 (n := n + 2) _ h (fun c => absurd c (nI_ge (by omega) (by omega))) (fun _ => ?_)
        refine ⟨_, c_charAt (n := n) (i := 5) (k := j) (by decide) (show j < 6 by omega) h, fun v h2 hp => ?_⟩
        rw [hp.1, hp.2, h5, nI_add, z_bAt hX (show s + j ≤ N by omega), if_pos (show s + j < N by omega), j_ch 5 (by decide) j (show j < 6 by omega)]
        refine q_RdwordIs5_46 (n := n + 2) _ _ _ h (fun w2 => ?_) (fun w2 => ⟨?_, rfl⟩)
        · rw [nI_1]
          refine ih (j + 1) (by omega) (fun t ht => ?_)
          by_cases e2 : t = j
          · rw [e2]; exact w2
          · exact hall t (by omega)
        · have hw : ¬ isW B 5 s e = true := fun q2 => by
            unfold isW at q2
            rw [Bool.and_eq_true, List.all_eq_true] at q2
            exact w2 (of_decide_eq_true (q2.2 j (List.mem_range.mpr (show j < 6 by omega))))
          rw [if_neg hw]
    exact loop 6 0 (by omega) (fun t ht => absurd ht (by omega))
  · rw [h4, h5, pk_sub hs] at w
    have hw : ¬ isW B 5 s e = true := fun q => by
      unfold isW at q
      rw [Bool.and_eq_true] at q
      exact w (congrArg nI (of_decide_eq_true q.1))
    rw [if_neg hw]
def ps : ZE ⊕ (Nat × Nat) → ZE ⊕ Nat
  | .inl f => .inl f
  | .inr x => .inr x.2
def tv (lo : Nat) : ZE ⊕ (Nat × Nat) → Nat
  | .inl _ => lo
  | .inr x => x.1
theorem c_takeSign {r : ZE ⊕ Nat} {c : Nat} (hc : c < 256) (h : HP) (hX : zX B N h) (hr : zRd N h r) : jC E mX3_takeSign (n + 1) [.ref 10, .int (nI c)] h (fun v h2 => v = none ∧ zF10 [2, 3, 4] h h2 ∧ zRd N h2 (bnd r (tSgn B N c))) := by
  have hN := hX.1
  obtain ⟨a, ha, h4, hra⟩ := zRd_at hr
  refine jC.of (lv := [some (.ref 10), some (.int (nI c))]) (by decide) (Nat.le_of_ble_eq_true rfl) ⟨rfl, rfl, trivial⟩ (q_RdtakeSign_0 _ h ?_)
  refine ⟨_, c_skip ha h hX h4, fun v h1 hp => ?_⟩
  obtain ⟨ev, hf1, e1⟩ := hp
  rw [ev]
  have hX1 := zX_fr hf1.1 (by decide) hX
  have hs := sk_le (B := B) ha
  have hr1 := zRd_4 hf1 hs.2 e1 hr
  have hby : f_TxbyteAt (h1.1 1 1) (h1.1 2) (h1.1 10 4) = if sk B N a < N then nI (B (sk B N a)) else -1 := by rw [e1]; exact z_bAt hX1 hs.2
  have heq : f_TxbyteAt (h1.1 1 1) (h1.1 2) (h1.1 10 4) = nI c ↔ sk B N a < N ∧ B (sk B N a) = c := by
    rw [hby]
    by_cases q : sk B N a < N
    · have := (hX.2.2 _ q).1
      rw [if_pos q, nI_eq (by omega) (by omega)]
      exact ⟨fun w => ⟨q, w⟩, fun w => w.2⟩
    · rw [if_neg q]
      exact ⟨fun w => absurd w.symm (nI_neg1 (by omega)), fun w => absurd w.1 q⟩
  refine q_RdtakeSign_4 _ h1 (fun w => ?_) (fun w => ?_)
  · have w' := heq.mp w
    have hf2 : zF10 [4] h1 (jPI h1 10 4 (h1.1 10 4 + 1)) := zF10_I (by decide)
    have e2 : (jPI h1 10 4 (h1.1 10 4 + 1)).1 10 4 = nI (sk B N a + 1) := by
      show h1.1 10 4 + 1 = _
      rw [e1, nI_1]
    refine ⟨rfl, (hf1.sub (by decide)).trans (hf2.sub (by decide)), ?_⟩
    have hr2 := zRd_4 (N := N) hf2 (show sk B N a + 1 ≤ N by omega) e2 hr1
    cases r with
    | inl f => exact hr2
    | inr b =>
      obtain rfl := hra b rfl
      show zRd N _ (tSgn B N c b)
      unfold tSgn
      rw [if_pos w']
      exact hr2
  · have w' : ¬ (sk B N a < N ∧ B (sk B N a) = c) := fun q => w (heq.mpr q)
    rw [e1]
    refine ⟨_, c_Rdfail (nI 1) (nI (sk B N a)) h1, fun v h3 hp => ?_⟩
    rw [hp.1, hp.2]
    obtain ⟨g1, g2⟩ := z_fail (k := 1) (w := sk B N a) (by decide) (by decide) hr1
    refine q_RdtakeSign_41 _ ⟨rfl, (hf1.sub (by decide)).trans (g2.sub (by decide)), ?_⟩
    cases r with
    | inl f => exact g1
    | inr b =>
      obtain rfl := hra b rfl
      show zRd N _ (tSgn B N c b)
      unfold tSgn
      rw [if_neg w']
      exact g1
theorem c_nextIs {a c : Nat} (hc : c < 256) (ha : a ≤ N) (h : HP) (hX : zX B N h) (h4 : h.1 10 4 = nI a) : jC E mX3_nextIs (n + 1) [.ref 10, .int (nI c)] h (fun v h2 => v = some (.int (if sk B N a < N ∧ B (sk B N a) = c then 1 else 0)) ∧ zF10 [4] h h2 ∧ h2.1 10 4 = nI (sk B N a)) := by
  have hN := hX.1
  refine jC.of (lv := [some (.ref 10), some (.int (nI c))]) (by decide) (Nat.le_of_ble_eq_true rfl) ⟨rfl, rfl, trivial⟩ (q_RdnextIs_0 _ h ?_)
  refine ⟨_, c_skip ha h hX h4, fun v h1 hp => ?_⟩
  obtain ⟨ev, hf1, e1⟩ := hp
  rw [ev]
  have hX1 := zX_fr hf1.1 (by decide) hX
  have hs := sk_le (B := B) ha
  have heq : f_TxbyteAt (h1.1 1 1) (h1.1 2) (h1.1 10 4) = nI c ↔ sk B N a < N ∧ B (sk B N a) = c := by
    rw [e1, z_bAt hX1 hs.2]
    by_cases q : sk B N a < N
    · have := (hX.2.2 _ q).1
      rw [if_pos q, nI_eq (by omega) (by omega)]
      exact ⟨fun w => ⟨q, w⟩, fun w => w.2⟩
    · rw [if_neg q]
      exact ⟨fun w => absurd w.symm (nI_neg1 (by omega)), fun w => absurd w.1 q⟩
  refine q_RdnextIs_4 _ h1 (fun w => ⟨?_, hf1, e1⟩) (fun w => ⟨?_, hf1, e1⟩)
  · rw [if_pos (heq.mp w)]
  · rw [if_neg (fun q => w (heq.mpr q))]
theorem vl_lt {s : Nat} : ∀ k, (∀ i, i < k → B (s + i) ≤ 57) → vl B s k < 1000
  | 0, _ => by show 0 < 1000; omega
  | k + 1, h => by
    by_cases q : k < 3
    · have h1 := vl_bnd B s (k + 1) h (by omega)
      have h2 : 10 ^ (k + 1) ≤ 10 ^ 3 := Nat.pow_le_pow_right (by omega) (by omega)
      omega
    · have ih := vl_lt k (fun i hi => h i (by omega))
      show (if k < 3 then 10 * vl B s k + (B (s + k) - 48) else vl B s k) < 1000
      rw [if_neg q]
      exact ih
def tnQ (B : Nat → Nat) (N lo hi : Nat) (r : ZE ⊕ Nat) (h : HP) (v : Option Value) (h2 : HP) : Prop := v = some (.int (nI (tv lo (bnd r (tNum B N lo hi))))) ∧ zF10 [2, 3, 4] h h2 ∧ zRd N h2 (ps (bnd r (tNum B N lo hi)))
theorem c_takeNumber {r : ZE ⊕ Nat} {lo hi : Nat} (hlo : lo < 1000) (hhi : hi < 1000) (h : HP) (hX : zX B N h) (hr : zRd N h r) : jC E mX3_takeNumber (n + 1) [.ref 10, .int (nI lo), .int (nI hi)] h (tnQ B N lo hi r h) := by
  have hN := hX.1
  obtain ⟨a, ha, h4, hra⟩ := zRd_at hr
  refine jC.of (lv := [some (.ref 10), some (.int (nI lo)), some (.int (nI hi)), none, none]) (by decide) (Nat.le_of_ble_eq_true rfl) ⟨rfl, rfl, rfl, trivial⟩ (q_RdtakeNumber_0 _ _ h ?_)
  refine ⟨_, c_skip ha h hX h4, fun v h1 hp => ?_⟩
  obtain ⟨ev, hf1, e1⟩ := hp
  rw [ev]
  have hs := sk_le (B := B) ha
  refine q_RdtakeNumber_4 _ _ h1 ?_
  rw [e1]
  have hlo0 : (if 0 < nI lo then nI lo else 0) = nI lo := by
    by_cases q : 0 < lo
    · rw [if_pos (show (0 : Int32) < nI lo from (nI_lt q (by omega) : nI 0 < nI lo))]
    · have : lo = 0 := by omega
      rw [this]; rfl
  -- the end of the figures
  have fin : ∀ (k : Nat) (h' : HP), sk B N a + k = fg B N (sk B N a) → zF10 [4] h h' → zRd N h' (bnd r (fun _ => .inr (sk B N a + k))) → h'.1 10 4 = nI (sk B N a + k) →
      (h'.1 10 4 = nI (sk B N a) → jCall E mX3_fail n [.ref 10, .int 1, .int (nI (sk B N a))] h' (fun v h2 => jG E mX3_takeNumber (n + 1) (fun _ => True) (tnQ B N lo hi r h) 107 [some (.ref 10), some (.int (nI lo)), none, none, some (.int (nI (vl B (sk B N a) k)))] (v.toList ++ []) h2)) ∧
      (¬ h'.1 10 4 = nI (sk B N a) → ((3 : Int32) < h'.1 10 4 - nI (sk B N a) ∨ nI (vl B (sk B N a) k) < nI lo ∨ ¬ nI (vl B (sk B N a) k) ≤ nI hi) → jCall E mX3_fail n [.ref 10, .int 2, .int (nI (sk B N a))] h' (fun v h2 => jG E mX3_takeNumber (n + 1) (fun _ => True) (tnQ B N lo hi r h) 138 [some (.ref 10), some (.int (nI lo)), none, none, some (.int (nI (vl B (sk B N a) k)))] (v.toList ++ []) h2)) ∧
      (¬ h'.1 10 4 = nI (sk B N a) → ¬ (3 : Int32) < h'.1 10 4 - nI (sk B N a) → ¬ nI (vl B (sk B N a) k) < nI lo → nI (vl B (sk B N a) k) ≤ nI hi → (f_Rdfailed (h'.1 10 2) = 0 → tnQ B N lo hi r h (some (.int (nI (vl B (sk B N a) k)))) h') ∧ (¬ f_Rdfailed (h'.1 10 2) = 0 → tnQ B N lo hi r h (some (.int (if 0 < nI lo then nI lo else 0))) h')) := by
    intro k h' hk hf hr' h4'
    have hfgN := fg_le (B := B) hs.2
    have hfig : ∀ i, i < k → B (sk B N a + i) ≤ 57 := fun i hi => by
      have := re_all (p := bFg B) (N := N) (a := sk B N a) hs.2 (sk B N a + i) (by omega) (by show sk B N a + i < fg B N (sk B N a); omega)
      unfold bFg at this
      rw [Bool.and_eq_true, decide_eq_true_eq, decide_eq_true_eq] at this
      exact this.2
    have hv := vl_lt (B := B) (s := sk B N a) k hfig
    have hk0 : h'.1 10 4 = nI (sk B N a) ↔ k = 0 := by
      rw [h4', nI_eq (by omega) (by omega)]; omega
    have hk3 : (3 : Int32) < h'.1 10 4 - nI (sk B N a) ↔ 3 < k := by
      rw [h4', pk_sub (by omega), show sk B N a + k - sk B N a = k by omega]
      exact nI_ltI (a := 3) (by omega) (by omega)
    have hvl : nI (vl B (sk B N a) k) < nI lo ↔ vl B (sk B N a) k < lo := nI_ltI (by omega) (by omega)
    have hvh : nI (vl B (sk B N a) k) ≤ nI hi ↔ vl B (sk B N a) k ≤ hi := nI_leI (by omega) (by omega)
    have esub : fg B N (sk B N a) - sk B N a = k := by omega
    have bad : ∀ (kd : Nat) (q : ∀ b, r = .inr b → tNum B N lo hi b = .inl (kd, sk B N a)) (h1 : 1 ≤ kd) (h4 : kd ≤ 4), zRd N (H_Rdfail h' (nI kd) (nI (sk B N a))) (ps (bnd r (tNum B N lo hi))) ∧ zF10 [2, 3, 4] h (H_Rdfail h' (nI kd) (nI (sk B N a))) ∧ (∃ f, bnd r (tNum B N lo hi) = .inl f) := fun kd q h1 h4 => by
      obtain ⟨g1, g2⟩ := z_fail (w := sk B N a) h1 h4 hr'
      refine ⟨?_, (hf.sub (by decide)).trans (g2.sub (by decide)), ?_⟩
      · cases r with
        | inl f => exact g1
        | inr b =>
          show zRd N _ (ps (tNum B N lo hi b))
          rw [q b rfl]
          exact g1
      · cases r with
        | inl f => exact ⟨f, rfl⟩
        | inr b => exact ⟨_, q b rfl⟩
    have call : ∀ (kd : Nat) (pc : Nat) (hpc : pc = 107 ∨ pc = 138) (q : ∀ b, r = .inr b → tNum B N lo hi b = .inl (kd, sk B N a)) (h1 : 1 ≤ kd) (h4 : kd ≤ 4), jCall E mX3_fail n [.ref 10, .int (nI kd), .int (nI (sk B N a))] h' (fun v h2 => jG E mX3_takeNumber (n + 1) (fun _ => True) (tnQ B N lo hi r h) pc [some (.ref 10), some (.int (nI lo)), none, none, some (.int (nI (vl B (sk B N a) k)))] (v.toList ++ []) h2) := fun kd pc hpc q h1 h4 => by
      obtain ⟨g1, g2, f, g3⟩ := bad kd q h1 h4
      refine ⟨_, c_Rdfail (nI kd) (nI (sk B N a)) h', fun v h3 hp => ?_⟩
      rw [hp.1, hp.2]
      have hfl := (z_failed g1).2.mpr ⟨f, by rw [g3]; rfl⟩
      have fin2 : some (Value.int (if 0 < nI lo then nI lo else 0)) = some (Value.int (nI (tv lo (bnd r (tNum B N lo hi))))) := by
        rw [hlo0, g3]; rfl
      rcases hpc with rfl | rfl
      · exact q_RdtakeNumber_107 _ _ _ (fun w => absurd w hfl) (fun _ => ⟨fin2, g2, g1⟩)
      · exact q_RdtakeNumber_138 _ _ _ (fun w => absurd w hfl) (fun _ => ⟨fin2, g2, g1⟩)
    refine ⟨fun w => ?_, fun w w2 => ?_, fun w w2 w3 w4 => ⟨fun w5 => ?_, fun w5 => ?_⟩⟩
    · refine call 1 107 (Or.inl rfl) (fun b hb => ?_) (by decide) (by decide)
      obtain rfl := hra b hb
      unfold tNum
      rw [if_pos (by have := hk0.mp w; omega)]
    · refine call 2 138 (Or.inr rfl) (fun b hb => ?_) (by decide) (by decide)
      obtain rfl := hra b hb
      unfold tNum
      rw [if_neg (by have := mt hk0.mpr w; omega), esub, if_pos]
      rcases w2 with w2 | w2 | w2
      · exact Or.inl (hk3.mp w2)
      · right; have := hvl.mp w2; omega
      · right; have := mt hvh.mpr w2; omega
    · obtain ⟨b', hb'⟩ := (z_failed hr').1.mp w5
      cases r with
      | inl f => cases hb'
      | inr b =>
        obtain rfl := hra b rfl
        have et : tNum B N lo hi b = .inr (vl B (sk B N b) k, sk B N b + k) := by
          unfold tNum
          rw [if_neg (by have := mt hk0.mpr w; omega), esub, if_neg, hk]
          rintro (q | q)
          · exact w2 (hk3.mpr q)
          · exact q ⟨by have := mt hvl.mpr w3; omega, hvh.mp w4⟩
        refine ⟨?_, hf.sub (by decide), ?_⟩
        · show _ = some (Value.int (nI (tv lo (tNum B N lo hi b))))
          rw [et]; rfl
        · show zRd N h' (ps (tNum B N lo hi b))
          rw [et]
          exact hr'
    · obtain ⟨f', hf'⟩ := (z_failed hr').2.mp w5
      cases r with
      | inr b => cases hf'
      | inl f =>
        refine ⟨?_, hf.sub (by decide), hr'⟩
        rw [hlo0]; rfl
  have loop : ∀ (q k : Nat) (h' : HP), N - (sk B N a + k) = q → sk B N a + k ≤ N → fg B N (sk B N a) = fg B N (sk B N a + k) → zF10 [4] h h' → h'.1 10 4 = nI (sk B N a + k) → (∀ i, i < k → B (sk B N a + i) ≤ 57) → jG E mX3_takeNumber (n + 1) (fun _ => True) (tnQ B N lo hi r h) 12 [some (.ref 10), some (.int (nI lo)), some (.int (nI hi)), some (.int (nI (sk B N a))), some (.int (nI (vl B (sk B N a) k)))] [] h' := by
    intro q
    induction q with
    | zero =>
      intro k h' hq hkN hfg hf h4' hfig
      have hX' := zX_fr hf.1 (by decide) hX
      have hle : h'.1 1 1 ≤ h'.1 10 4 := by rw [hX'.2.1, h4']; exact (nI_leI (by omega) (by omega)).mpr (by omega)
      have hend : sk B N a + k = fg B N (sk B N a) := by
        rw [hfg]; exact (re_n (fun w => absurd w (by omega))).symm
      obtain ⟨f1, f2, f3⟩ := fin k h' hend hf (zRd_4 hf hkN h4' hr) h4'
      exact q_RdtakeNumber_12 _ _ _ _ h' (fun _ w => f1 w) (fun _ w w2 => f2 w (Or.inl w2)) (fun _ w _ w3 => f2 w (Or.inr (Or.inl w3))) (fun _ w w2 w3 w4 w5 => (f3 w w2 w3 w4).1 w5) (fun _ w w2 w3 w4 w5 => (f3 w w2 w3 w4).2 w5) (fun _ w _ _ w4 => f2 w (Or.inr (Or.inr w4))) (fun c => absurd hle c) (fun c => absurd hle c) (fun c => absurd hle c) (fun c => absurd hle c) (fun c => absurd hle c) (fun c => absurd hle c) (fun c => absurd hle c) (fun c => absurd hle c)
    | succ q ih =>
      intro k h' hq hkN hfg hf h4' hfig
      have hX' := zX_fr hf.1 (by decide) hX
      have hlN : sk B N a + k < N := by omega
      have hlt : ¬ h'.1 1 1 ≤ h'.1 10 4 := by rw [hX'.2.1, h4']; exact nI_ge hlN (by omega)
      have hb256 := (hX.2.2 _ hlN).1
      have hby : f_TxbyteAt (h'.1 1 1) (h'.1 2) (h'.1 10 4) = nI (B (sk B N a + k)) := by rw [h4', z_bAt hX' hkN, if_pos hlN]
      have hfi : f_RdisFigure (f_TxbyteAt (h'.1 1 1) (h'.1 2) (h'.1 10 4)) = if bFg B (sk B N a + k) = true then 1 else 0 := by
        rw [hby, z_fig _ hb256]; rfl
      cases qb : bFg B (sk B N a + k)
      · have hno : f_RdisFigure (f_TxbyteAt (h'.1 1 1) (h'.1 2) (h'.1 10 4)) = 0 := by rw [hfi, qb]; rfl
        have hend : sk B N a + k = fg B N (sk B N a) := by
          rw [hfg]; exact (re_n (fun _ => qb)).symm
        obtain ⟨f1, f2, f3⟩ := fin k h' hend hf (zRd_4 hf hkN h4' hr) h4'
        exact q_RdtakeNumber_12 _ _ _ _ h' (fun c => absurd c hlt) (fun c => absurd c hlt) (fun c => absurd c hlt) (fun c => absurd c hlt) (fun c => absurd c hlt) (fun c => absurd c hlt) (fun _ _ w => f1 w) (fun _ _ w w2 => f2 w (Or.inl w2)) (fun _ _ w _ w3 => f2 w (Or.inr (Or.inl w3))) (fun _ _ w w2 w3 w4 w5 => (f3 w w2 w3 w4).1 w5) (fun _ _ w w2 w3 w4 w5 => (f3 w w2 w3 w4).2 w5) (fun _ _ w _ _ w4 => f2 w (Or.inr (Or.inr w4))) (fun _ c => absurd hno c) (fun _ c => absurd hno c)
      · have hyes : ¬ f_RdisFigure (f_TxbyteAt (h'.1 1 1) (h'.1 2) (h'.1 10 4)) = 0 := by rw [hfi, qb]; exact one0
        have hfb : 48 ≤ B (sk B N a + k) ∧ B (sk B N a + k) ≤ 57 := by
          have qb' := qb
          unfold bFg at qb'
          rw [Bool.and_eq_true, decide_eq_true_eq, decide_eq_true_eq] at qb'
          exact qb'
        have hv := vl_lt (B := B) (s := sk B N a) k hfig
        have hk3 : (3 : Int32) ≤ h'.1 10 4 - nI (sk B N a) ↔ 3 ≤ k := by
          rw [h4', pk_sub (by omega), show sk B N a + k - sk B N a = k by omega]
          exact nI_leI (a := 3) (by omega) (by omega)
        have hf2 : zF10 [4] h (jPI h' 10 4 (h'.1 10 4 + 1)) := hf.trans (zF10_I (by decide))
        have go := ih (k + 1) (jPI h' 10 4 (h'.1 10 4 + 1)) (by omega) (by omega) (by rw [hfg]; exact re_y hlN qb) hf2 (by show h'.1 10 4 + 1 = _; rw [h4', nI_1]; rfl) (fun i hi => by
          by_cases e2 : i = k
          · rw [e2]; exact hfb.2
          · exact hfig i (by omega))
        have ev2 : vl B (sk B N a) (k + 1) = if k < 3 then 10 * vl B (sk B N a) k + (B (sk B N a + k) - 48) else vl B (sk B N a) k := rfl
        refine q_RdtakeNumber_12 _ _ _ _ h' (fun c => absurd c hlt) (fun c => absurd c hlt) (fun c => absurd c hlt) (fun c => absurd c hlt) (fun c => absurd c hlt) (fun c => absurd c hlt) (fun _ c => absurd c hyes) (fun _ c => absurd c hyes) (fun _ c => absurd c hyes) (fun _ c => absurd c hyes) (fun _ c => absurd c hyes) (fun _ c => absurd c hyes) (fun _ _ w => ?_) (fun _ _ w => ?_)
        · rw [ev2, if_neg (by have := hk3.mp w; omega)] at go
          exact go
        · rw [ev2, if_pos (by have := mt hk3.mpr w; omega)] at go
          rw [hby, show nI (vl B (sk B N a) k) * 10 = nI (vl B (sk B N a) k * 10) from pk_mul _ 10, nI_add, show (48 : Int32) = nI 48 from rfl, pk_sub (by omega), show vl B (sk B N a) k * 10 + B (sk B N a + k) - 48 = 10 * vl B (sk B N a) k + (B (sk B N a + k) - 48) by omega]
          exact go
  exact loop (N - sk B N a) 0 h1 (by rw [Nat.add_zero]) (by rw [Nat.add_zero]; exact hs.2) (by rw [Nat.add_zero]) hf1 (by rw [Nat.add_zero]; exact e1) (fun i hi => absurd hi (by omega))
theorem c_takeCell {r : ZE ⊕ Nat} {w g : Nat} (hw : 0 < w ∧ w ≤ 9) (hg : 0 < g ∧ g ≤ 9) (h : HP) (hX : zX B N h) (hr : zRd N h r) (h0 : h.1 11 0 = nI w) (h1 : h.1 11 1 = nI g) : jC E mX3_takeCell (n + 2) [.ref 10] h (fun v h2 => (∃ z, v = some (.int z) ∧ ∀ c e, bnd r (tCel B N w g) = .inr (c, e) → z = nI c) ∧ zF10 [2, 3, 4] h h2 ∧ zRd N h2 (ps (bnd r (tCel B N w g)))) := by
  refine jC.of (lv := [some (.ref 10), none, none]) (by decide) (Nat.le_of_ble_eq_true rfl) ⟨rfl, trivial⟩ (q_RdtakeCell_0 h ?_)
  have ew : nI w - 1 = nI (w - 1) := pk_sub (b := 1) (by omega)
  have eg : nI g - 1 = nI (g - 1) := pk_sub (b := 1) (by omega)
  rw [h0, ew]
  refine ⟨_, c_takeNumber (r := r) (lo := 0) (hi := w - 1) (by omega) (by omega) h hX hr, fun v h2 hp => ?_⟩
  obtain ⟨ev, hf, hr2⟩ := hp
  rw [ev]
  refine q_RdtakeCell_14 _ h2 ?_
  have g1 : h2.1 11 1 = nI g := by rw [(hf.1 11 (by decide)).1]; exact h1
  have g0 : h2.1 11 0 = nI w := by rw [(hf.1 11 (by decide)).1]; exact h0
  rw [g1, eg]
  refine ⟨_, c_takeNumber (lo := 0) (hi := g - 1) (by omega) (by omega) h2 (zX_fr hf.1 (by decide) hX) hr2, fun v3 h3 hp => ?_⟩
  obtain ⟨ev3, hf3, hr3⟩ := hp
  rw [ev3]
  have k0 : h3.1 11 0 = nI w := by rw [(hf3.1 11 (by decide)).1]; exact g0
  refine q_RdtakeCell_29 _ _ h3 ⟨⟨_, rfl, fun c e hce => ?_⟩, hf.trans hf3, ?_⟩
  · cases r with
    | inl f => cases hce
    | inr a =>
      have hce' : tCel B N w g a = .inr (c, e) := hce
      unfold tCel at hce'
      obtain ⟨x, q1, q⟩ := bnd_inr hce'
      obtain ⟨y, q2, q⟩ := bnd_inr q
      cases q
      have e1 : tv 0 (bnd (.inr a) (tNum B N 0 (w - 1))) = x.1 := by
        show tv 0 (tNum B N 0 (w - 1) a) = x.1
        rw [q1]; rfl
      have e2 : tv 0 (bnd (ps (bnd (.inr a) (tNum B N 0 (w - 1)))) (tNum B N 0 (g - 1))) = y.1 := by
        show tv 0 (bnd (ps (tNum B N 0 (w - 1) a)) (tNum B N 0 (g - 1))) = y.1
        rw [q1]
        show tv 0 (tNum B N 0 (g - 1) x.2) = y.1
        rw [q2]; rfl
      unfold f_LdcellOf11
      rw [k0, e1, e2, pk_mul, nI_add, Nat.mul_comm]
  · cases r with
    | inl f => exact hr3
    | inr a =>
      show zRd N h3 (ps (tCel B N w g a))
      have hr3' : zRd N h3 (ps (bnd (ps (tNum B N 0 (w - 1) a)) (tNum B N 0 (g - 1)))) := hr3
      unfold tCel
      cases q1 : tNum B N 0 (w - 1) a with
      | inl f => rw [q1] at hr3'; exact hr3'
      | inr x =>
        rw [q1] at hr3'
        have hr4 : zRd N h3 (ps (tNum B N 0 (g - 1) x.2)) := hr3'
        show zRd N h3 (ps (bnd (tNum B N 0 (g - 1) x.2) (fun y => .inr (w * y.1 + x.1, y.2))))
        cases q2 : tNum B N 0 (g - 1) x.2 with
        | inl f => rw [q2] at hr4; exact hr4
        | inr y => rw [q2] at hr4; exact hr4
end RC
