/-! ===== the class's reader: land, a statement, the whole text ===== -/
section WD
variable {B : Nat → Nat} {N : Nat}
theorem j_wd : ∀ i, i < 6 → ∀ j, j < 6 → i ≠ j → jSl.getD i 0 = jSl.getD j 0 → 0 < jSl.getD i 0 ∧ (jSb.getD i []).getD 0 0 ≠ (jSb.getD j []).getD 0 0 := by decide +kernel
theorem isW_ne {i j s e : Nat} (hi : i < 6) (hj : j < 6) (hne : i ≠ j) (h : isW B i s e = true) : isW B j s e = false := by
  cases q : isW B j s e
  · rfl
  · exfalso
    unfold isW at h q
    rw [Bool.and_eq_true, decide_eq_true_eq, List.all_eq_true] at h q
    obtain ⟨h0, hc⟩ := j_wd i hi j hj hne (by omega)
    have h1 := of_decide_eq_true (h.2 0 (List.mem_range.mpr h0))
    have h2 := of_decide_eq_true (q.2 0 (List.mem_range.mpr (by omega)))
    exact hc (h1.symm.trans h2)
theorem cod_is {i s e : Nat} (hi : i < 6) (h : isW B i s e = true) : cod B s e = i := by
  have hn : ∀ j, j < 6 → j ≠ i → isW B j s e = false := fun j hj hne => isW_ne hi hj (Ne.symm hne) h
  have hc : i = 0 ∨ i = 1 ∨ i = 2 ∨ i = 3 ∨ i = 4 ∨ i = 5 := by omega
  unfold cod
  rcases hc with rfl | rfl | rfl | rfl | rfl | rfl
  · simp [h]
  · simp [h, hn 0 (by decide) (by decide)]
  · simp [h, hn 0 (by decide) (by decide), hn 1 (by decide) (by decide)]
  · simp [h, hn 0 (by decide) (by decide), hn 1 (by decide) (by decide), hn 2 (by decide) (by decide)]
  · simp [h, hn 0 (by decide) (by decide), hn 1 (by decide) (by decide), hn 2 (by decide) (by decide), hn 3 (by decide) (by decide)]
  · simp [h, hn 0 (by decide) (by decide), hn 1 (by decide) (by decide), hn 2 (by decide) (by decide), hn 3 (by decide) (by decide), hn 4 (by decide) (by decide)]
theorem cod_no {s e : Nat} (h : ∀ j, j < 6 → isW B j s e = false) : cod B s e = 6 := by
  unfold cod
  simp [h 0 (by decide), h 1 (by decide), h 2 (by decide), h 3 (by decide), h 4 (by decide), h 5 (by decide)]
theorem cod_0 {s e : Nat} : cod B s e = 0 ↔ isW B 0 s e = true := by
  constructor
  · intro h
    cases q : isW B 0 s e
    · exfalso
      unfold cod at h
      rw [q] at h
      simp only [Bool.false_eq_true, if_false] at h
      repeat' split at h
      all_goals omega
    · rfl
  · exact fun h => cod_is (by decide) h
theorem tLand_sk {D : ZD} {a : Nat} (h : a ≤ N) : tLand B N D (sk B N a) = tLand B N D a := by
  unfold tLand
  rw [sk_sk h]
theorem tStm_sk {D : ZD} {a : Nat} (h : a ≤ N) : tStm B N D (sk B N a) = tStm B N D a := by
  unfold tStm
  rw [sk_sk h]
def hiL (w : Nat) : Nat := if 36 / w < 9 then 36 / w else 9
theorem tLand_key (D : ZD) (a : Nat) (r0 : ZE ⊕ Nat) (h0 : r0 = if isW B 0 (sk B N a) (lt B N (sk B N a)) = true then .inr (lt B N (sk B N a)) else .inl (1, sk B N a)) : (∃ f, bnd (ps (bnd (ps (bnd r0 (tNum B N 1 9))) (tNum B N 1 (hiL (tv 1 (bnd r0 (tNum B N 1 9))))))) (tSgn B N 59) = .inl f ∧ tLand B N D a = .inl f) ∨ ∃ w a1 g a2 e, bnd r0 (tNum B N 1 9) = .inr (w, a1) ∧ bnd (ps (bnd r0 (tNum B N 1 9))) (tNum B N 1 (hiL (tv 1 (bnd r0 (tNum B N 1 9))))) = .inr (g, a2) ∧ bnd (ps (bnd (ps (bnd r0 (tNum B N 1 9))) (tNum B N 1 (hiL (tv 1 (bnd r0 (tNum B N 1 9))))))) (tSgn B N 59) = .inr e ∧ tLand B N D a = .inr (uL D w g, e) := by
  unfold tLand
  by_cases hM : isW B 0 (sk B N a) (lt B N (sk B N a)) = true
  · rw [h0, if_pos hM, if_pos (cod_0.mpr hM)]
    cases q1 : tNum B N 1 9 (lt B N (sk B N a)) with
    | inl f => exact Or.inl ⟨f, by simp only [bnd, q1, ps], rfl⟩
    | inr c =>
      have e1 : bnd (.inr (lt B N (sk B N a))) (tNum B N 1 9) = .inr c := q1
      rw [e1]
      cases q2 : tNum B N 1 (hiL c.1) c.2 with
      | inl f => exact Or.inl ⟨f, by simp only [bnd, ps, tv, q2], by simp only [bnd]; unfold hiL at q2; rw [q2]⟩
      | inr l =>
        have q2' : tNum B N 1 (if 36 / c.1 < 9 then 36 / c.1 else 9) c.2 = .inr l := q2
        cases q3 : tSgn B N 59 l.2 with
        | inl f => exact Or.inl ⟨f, by simp only [bnd, ps, tv, q2, q3], by simp only [bnd]; rw [q2']; simp only [q3]⟩
        | inr e => exact Or.inr ⟨c.1, c.2, l.1, l.2, e, rfl, by simp only [bnd, ps, tv, q2], by simp only [bnd, ps, tv, q2, q3], by simp only [bnd]; rw [q2']; simp only [q3]⟩
  · rw [h0, if_neg hM, if_neg (fun e => hM (cod_0.mp e))]
    exact Or.inl ⟨(1, sk B N a), rfl, rfl⟩
end WD
section LC
variable {E : jEnv} {n : Nat} {X : State → Prop} {P : Option Value → HP → Prop} {B : Nat → Nat} {N : Nat}
theorem c_readLand {D : ZD} {a : Nat} (h : HP) (hX : zX B N h) (hr : zRd N h (.inr a)) (hd : zDc D h) : jC E mX3_readLand (n + 5) [.ref 10] h (fun v h2 => v = none ∧ zFr zRc h h2 ∧ zOut N h2 (tLand B N D a)) := by
  have ha := hr.2.2.1
  have hs := sk_le (B := B) ha
  have hl := lt_le (B := B) hs.2
  refine jC.of (lv := [some (.ref 10), none, none, none]) (by decide) (Nat.le_of_ble_eq_true rfl) ⟨rfl, trivial⟩ (q_RdreadLand_0 (n := n + 4) h ?_)
  refine ⟨_, c_takeWord (n := n + 3) ha h hX hr.2.2.2, fun v h1 hp => ?_⟩
  obtain ⟨ev, hf1, e5, e4⟩ := hp
  rw [ev]
  refine q_RdreadLand_4 (n := n + 4) h1 ?_
  have hX1 := zX_fr hf1.1 (by decide) hX
  refine ⟨_, zc_wd0 (n := n) hl.1 hl.2 hX1 e4 e5, fun v h2 hp => ?_⟩
  rw [hp.1, hp.2]
  have hr1 : zRd N h1 (.inr (lt B N (sk B N a))) := ⟨by rw [hf1.2 2 (by decide)]; exact hr.1, by rw [hf1.2 3 (by decide)]; exact hr.2.1, hl.2, e4⟩
  have main : ∀ (r0 : ZE ⊕ Nat) (h3 : HP), r0 = (if isW B 0 (sk B N a) (lt B N (sk B N a)) = true then .inr (lt B N (sk B N a)) else .inl (1, sk B N a)) → zF10 [2, 3, 4, 5] h h3 → zRd N h3 r0 → jCall E mX3_takeNumber (n + 4) [.ref 10, .int 1, .int 9] h3 (fun v h2 => jG E mX3_readLand (n + 5) (fun _ => True) (fun v h2 => v = none ∧ zFr zRc h h2 ∧ zOut N h2 (tLand B N D a)) 29 [some (.ref 10), none, none, none] (v.toList ++ []) h2) := by
    intro r0 h3 e0 hf3 hr3
    refine ⟨_, c_takeNumber (n := n + 3) (r := r0) (lo := 1) (hi := 9) (by omega) (by omega) h3 (zX_fr hf3.1 (by decide) hX) hr3, fun v h4 hp => ?_⟩
    obtain ⟨ev4, hf4, hr4⟩ := hp
    rw [ev4]
    have hF4 := hf3.trans (hf4.sub (by decide))
    have hw : 1 ≤ tv 1 (bnd r0 (tNum B N 1 9)) ∧ tv 1 (bnd r0 (tNum B N 1 9)) ≤ 9 := by
      cases r0 with
      | inl f => exact ⟨Nat.le_refl _, by show 1 ≤ 9; omega⟩
      | inr b =>
        show 1 ≤ tv 1 (tNum B N 1 9 b) ∧ tv 1 (tNum B N 1 9 b) ≤ 9
        cases q : tNum B N 1 9 b with
        | inl f => exact ⟨Nat.le_refl _, by show 1 ≤ 9; omega⟩
        | inr x =>
          obtain ⟨x1, x2, _, _⟩ := tNum_ok hr3.2.2.1 (show tNum B N 1 9 b = .inr (x.1, x.2) from q)
          exact ⟨x1, x2⟩
    have ehi : (if (36 / nI (tv 1 (bnd r0 (tNum B N 1 9)))) < 9 then (36 / nI (tv 1 (bnd r0 (tNum B N 1 9)))) else 9) = nI (hiL (tv 1 (bnd r0 (tNum B N 1 9)))) := by
      rw [show (36 : Int32) = nI 36 from rfl, pk_div (by omega) (by omega) (by omega), show (9 : Int32) = nI 9 from rfl]
      unfold hiL
      have h36 : 36 / tv 1 (bnd r0 (tNum B N 1 9)) ≤ 36 := Nat.div_le_self _ _
      by_cases q : 36 / tv 1 (bnd r0 (tNum B N 1 9)) < 9
      · rw [if_pos q, if_pos (nI_lt q (by omega))]
      · rw [if_neg q, if_neg (nI_nlt (by omega) (by omega))]
    have hhi : hiL (tv 1 (bnd r0 (tNum B N 1 9))) < 1000 := by
      unfold hiL
      have h36 : 36 / tv 1 (bnd r0 (tNum B N 1 9)) ≤ 36 := Nat.div_le_self _ _
      split <;> omega
    refine q_RdreadLand_29 (n := n + 4) _ h4 (fun w => absurd w (nI_nle (by omega) (by omega))) (fun _ => ?_)
    rw [ehi]
    refine ⟨_, c_takeNumber (n := n + 3) (lo := 1) (by omega) hhi h4 (zX_fr hF4.1 (by decide) hX) hr4, fun v h6 hp => ?_⟩
    obtain ⟨ev6, hf6, hr6⟩ := hp
    rw [ev6]
    have hF6 := hF4.trans (hf6.sub (by decide))
    refine q_RdreadLand_55 (n := n + 4) _ _ h6 ?_
    refine ⟨_, c_takeSign (n := n + 3) (c := 59) (by omega) h6 (zX_fr hF6.1 (by decide) hX) hr6, fun v h7 hp => ?_⟩
    obtain ⟨ev7, hf7, hr7⟩ := hp
    rw [ev7]
    have hF7 := hF6.trans (hf7.sub (by decide))
    have hd7 := zDc_10 hF7 (by decide) hd
    have key := tLand_key (B := B) (N := N) D a r0 e0
    refine q_RdreadLand_62 (n := n + 4) _ _ h7 (fun w => ?_) (fun w => ?_)
    · obtain ⟨e, he⟩ := (z_failed hr7).1.mp w
      rcases key with ⟨f, k1, _⟩ | ⟨w', a1, g, a2, e', k1, k2, k3, k4⟩
      · rw [k1] at he; cases he
      · rw [k3] at hr7
        refine ⟨rfl, hF7.fr.trans ((zFr_I (by decide)).trans (zFr_I (by decide))), ?_⟩
        rw [k4]
        refine ⟨zRd_o (by decide) (zRd_o (by decide) hr7), ?_⟩
        obtain ⟨d1, d2, d3, d4, d5, d6, d7⟩ := hd7
        refine ⟨⟨?_, ?_, d1.2.2.1, d1.2.2.2.1, d1.2.2.2.2.1, d1.2.2.2.2.2⟩, d2, d3, d4, d5, d6, d7⟩
        · show nI (tv 1 (bnd r0 (tNum B N 1 9))) = nI w'
          rw [k1]; rfl
        · show nI (tv 1 (bnd (ps (bnd r0 (tNum B N 1 9))) (tNum B N 1 (hiL (tv 1 (bnd r0 (tNum B N 1 9))))))) = nI g
          rw [k2]; rfl
    · obtain ⟨f, he⟩ := (z_failed hr7).2.mp w
      rcases key with ⟨f', k1, k2⟩ | ⟨w', a1, g, a2, e', k1, k2, k3, k4⟩
      · rw [k1] at he hr7
        refine ⟨rfl, hF7.fr, ?_⟩
        rw [k2]
        exact hr7
      · rw [k3] at he; cases he
  by_cases hw : isW B 0 (sk B N a) (lt B N (sk B N a)) = true
  · rw [if_pos hw]
    exact q_RdreadLand_10 (n := n + 4) _ h1 (fun q => absurd q one0) (fun _ => main _ h1 (by rw [if_pos hw]) (hf1.sub (by decide)) hr1)
  · rw [if_neg hw]
    refine q_RdreadLand_10 (n := n + 4) _ h1 (fun _ => ?_) (fun q => absurd rfl q)
    rw [e5]
    refine ⟨_, c_Rdfail (nI 1) (nI (sk B N a)) h1, fun v h3 hp => ?_⟩
    rw [hp.1, hp.2]
    obtain ⟨g1, g2⟩ := z_fail (k := 1) (w := sk B N a) (by decide) (by decide) hr1
    exact q_RdreadLand_22 (n := n + 4) _ (main (.inl (1, sk B N a)) _ (by rw [if_neg hw]) ((hf1.sub (by decide)).trans (g2.sub (by decide))) g1)
theorem c_readStatement {D : ZD} {a : Nat} (hD : zDok D) (h : HP) (hX : zX B N h) (hr : zRd N h (.inr a)) (hd : zDc D h) : jC E mX3_readStatement (n + 5) [.ref 10] h (fun v h2 => v = none ∧ zFr zRc h h2 ∧ zOut N h2 (tStm B N D a)) := by
  have ha := hr.2.2.1
  have hs := sk_le (B := B) ha
  have hl := lt_le (B := B) hs.2
  refine jC.of (lv := [some (.ref 10)]) (by decide) (Nat.le_of_ble_eq_true rfl) ⟨rfl, trivial⟩ (q_RdreadStatement_0 (n := n + 4) h ?_)
  refine ⟨_, c_takeWord (n := n + 3) ha h hX hr.2.2.2, fun v h1 hp => ?_⟩
  obtain ⟨ev, hf1, e5, e4⟩ := hp
  rw [ev]
  have hX1 := zX_fr hf1.1 (by decide) hX
  have hd1 := zDc_10 hf1 (by decide) hd
  have hr1 : zRd N h1 (.inr (lt B N (sk B N a))) := ⟨by rw [hf1.2 2 (by decide)]; exact hr.1, by rw [hf1.2 3 (by decide)]; exact hr.2.1, hl.2, e4⟩
  have fin : ∀ (c : Nat) (res : ZE ⊕ (ZD × Nat)), cod B (sk B N a) (lt B N (sk B N a)) = c → (cod B (sk B N a) (lt B N (sk B N a)) = c → tStm B N D a = res) → ∀ h2, zFr zRc h1 h2 → zOut N h2 res → ((none : Option Value) = none ∧ zFr zRc h h2 ∧ zOut N h2 (tStm B N D a)) := fun c res hc ht h2 hf2 ho => ⟨rfl, hf1.fr.trans hf2, by rw [ht hc]; exact ho⟩
  have stm : ∀ c, cod B (sk B N a) (lt B N (sk B N a)) = c → tStm B N D a = if c = 0 then .inl (3, sk B N a) else if c = 1 then tRow B N D (lt B N (sk B N a)) else if c = 2 then tTide B N D (sk B N a) (lt B N (sk B N a)) else if c = 3 then tMan B N D (sk B N a) (lt B N (sk B N a)) else if c = 4 then tNews B N D (sk B N a) (lt B N (sk B N a)) else if c = 5 then tCas B N D (sk B N a) (lt B N (sk B N a)) else .inl (1, sk B N a) := fun c hc => by
    unfold tStm
    rw [hc]
  refine q_RdreadStatement_4 (n := n + 4) h1 ?_
  refine ⟨_, zc_wd1 (n := n) hl.1 hl.2 hX1 e4 e5, fun v h2 hp => ?_⟩
  rw [hp.1, hp.2]
  cases w1 : isW B 1 (sk B N a) (lt B N (sk B N a))
  · refine q_RdreadStatement_10 (n := n + 4) _ h1 (fun _ => ?_) (fun q => absurd rfl q)
    refine ⟨_, zc_wd2 (n := n) hl.1 hl.2 hX1 e4 e5, fun v h2 hp => ?_⟩
    rw [hp.1, hp.2]
    cases w2 : isW B 2 (sk B N a) (lt B N (sk B N a))
    · refine q_RdreadStatement_26 (n := n + 4) _ h1 (fun _ => ?_) (fun q => absurd rfl q)
      refine ⟨_, zc_wd3 (n := n) hl.1 hl.2 hX1 e4 e5, fun v h2 hp => ?_⟩
      rw [hp.1, hp.2]
      cases w3 : isW B 3 (sk B N a) (lt B N (sk B N a))
      · refine q_RdreadStatement_42 (n := n + 4) _ h1 (fun _ => ?_) (fun q => absurd rfl q)
        refine ⟨_, zc_wd4 (n := n) hl.1 hl.2 hX1 e4 e5, fun v h2 hp => ?_⟩
        rw [hp.1, hp.2]
        cases w4 : isW B 4 (sk B N a) (lt B N (sk B N a))
        · refine q_RdreadStatement_58 (n := n + 4) _ h1 (fun _ => ?_) (fun q => absurd rfl q)
          refine ⟨_, zc_wd5 (n := n) hl.1 hl.2 hX1 e4 e5, fun v h2 hp => ?_⟩
          rw [hp.1, hp.2]
          cases w5 : isW B 5 (sk B N a) (lt B N (sk B N a))
          · refine q_RdreadStatement_74 (n := n + 4) _ h1 (fun _ => ?_) (fun q => absurd rfl q)
            refine ⟨_, zc_wd0 (n := n) hl.1 hl.2 hX1 e4 e5, fun v h2 hp => ?_⟩
            rw [hp.1, hp.2]
            cases w0 : isW B 0 (sk B N a) (lt B N (sk B N a))
            · have hc : cod B (sk B N a) (lt B N (sk B N a)) = 6 := cod_no (fun j hj => by
                have : j = 0 ∨ j = 1 ∨ j = 2 ∨ j = 3 ∨ j = 4 ∨ j = 5 := by omega
                rcases this with rfl | rfl | rfl | rfl | rfl | rfl
                · exact w0
                · exact w1
                · exact w2
                · exact w3
                · exact w4
                · exact w5)
              refine q_RdreadStatement_91 (n := n + 4) _ h1 (fun _ => ?_) (fun q => absurd rfl q)
              rw [e5]
              refine ⟨_, c_Rdfail (nI 1) (nI (sk B N a)) h1, fun v h3 hp => ?_⟩
              rw [hp.1, hp.2]
              obtain ⟨g1, g2⟩ := z_fail (k := 1) (w := sk B N a) (by decide) (by decide) hr1
              exact q_RdreadStatement_106 (n := n + 4) _ (fin 6 (.inl (1, sk B N a)) hc (stm 6) _ g2.fr g1)
            · have hc : cod B (sk B N a) (lt B N (sk B N a)) = 0 := cod_is (by decide) w0
              refine q_RdreadStatement_91 (n := n + 4) _ h1 (fun q => absurd q one0) (fun _ => ?_)
              rw [e5]
              refine ⟨_, c_Rdfail (nI 3) (nI (sk B N a)) h1, fun v h3 hp => ?_⟩
              rw [hp.1, hp.2]
              obtain ⟨g1, g2⟩ := z_fail (k := 3) (w := sk B N a) (by decide) (by decide) hr1
              exact q_RdreadStatement_106 (n := n + 4) _ (fin 0 (.inl (3, sk B N a)) hc (stm 0) _ g2.fr g1)
          · refine q_RdreadStatement_74 (n := n + 4) _ h1 (fun q => absurd q one0) (fun _ => ?_)
            refine ⟨_, c_readCastle (n := n + 1) hD h1 hX1 hr1 e5 hd1, fun v h3 hp => ?_⟩
            obtain ⟨ev3, hf3, ho3⟩ := hp
            rw [ev3]
            exact q_RdreadStatement_81 (n := n + 4) h3 (fin 5 _ (cod_is (by decide) w5) (stm 5) h3 hf3 ho3)
        · refine q_RdreadStatement_58 (n := n + 4) _ h1 (fun q => absurd q one0) (fun _ => ?_)
          refine ⟨_, c_readNews (n := n + 1) hD h1 hX1 hr1 e5 hd1, fun v h3 hp => ?_⟩
          obtain ⟨ev3, hf3, ho3⟩ := hp
          rw [ev3]
          exact q_RdreadStatement_65 (n := n + 4) h3 (fin 4 _ (cod_is (by decide) w4) (stm 4) h3 hf3 ho3)
      · refine q_RdreadStatement_42 (n := n + 4) _ h1 (fun q => absurd q one0) (fun _ => ?_)
        refine ⟨_, c_readMan (n := n + 1) hD h1 hX1 hr1 e5 hd1, fun v h3 hp => ?_⟩
        obtain ⟨ev3, hf3, ho3⟩ := hp
        rw [ev3]
        exact q_RdreadStatement_49 (n := n + 4) h3 (fin 3 _ (cod_is (by decide) w3) (stm 3) h3 hf3 ho3)
    · refine q_RdreadStatement_26 (n := n + 4) _ h1 (fun q => absurd q one0) (fun _ => ?_)
      refine ⟨_, c_readTide (n := n + 2) hD h1 hX1 hr1 e5 hd1, fun v h3 hp => ?_⟩
      obtain ⟨ev3, hf3, ho3⟩ := hp
      rw [ev3]
      exact q_RdreadStatement_33 (n := n + 4) h3 (fin 2 _ (cod_is (by decide) w2) (stm 2) h3 hf3 ho3)
  · refine q_RdreadStatement_10 (n := n + 4) _ h1 (fun q => absurd q one0) (fun _ => ?_)
    refine ⟨_, c_readRow (n := n + 2) hD h1 hX1 hr1 hd1, fun v h3 hp => ?_⟩
    obtain ⟨ev3, hf3, ho3⟩ := hp
    rw [ev3]
    exact q_RdreadStatement_17 (n := n + 4) h3 (fin 1 _ (cod_is (by decide) w1) (stm 1) h3 hf3 ho3)
/-- how a reading ends -/
def zEnd (h : HP) : ZE ⊕ ZD → Prop
  | .inl f => h.1 10 2 = nI f.1 ∧ h.1 10 3 = nI f.2
  | .inr D => zDc D h ∧ h.1 10 3 = -1
def okI : ZE ⊕ ZD → Int32
  | .inl _ => 0
  | .inr _ => 1
theorem zc_allL {h0 : HP} (hX : zX B N h0) {res : ZE ⊕ ZD} (kx : ∀ h, zFr zRc h0 h → zEnd h res → P (some (.int (okI res))) h) : ∀ (q i : Nat) (D : ZD) (a : Nat) (h : HP), i + q = 500 → N - a ≤ q → a ≤ N → zDok D → zFr zRc h0 h → zRd N h (.inr (sk B N a)) → zDc D h → res = tAll B N q D a → jG E mX3_read (n + 6) X P 65 [some (.ref 10), some (.int (nI i))] [] h := by
  have hN := hX.1
  intro q
  induction q with
  | zero =>
    intro i D a h hi hq ha hD hf hr hd er
    have h500 : (500 : Int32) ≤ nI i := by rw [show i = 500 by omega]; decide
    have hnf := (z_failed hr).1.mpr ⟨_, rfl⟩
    have er' : res = .inr D := er
    exact q_Rdread_65 (n := n + 5) _ h (fun _ _ => by have := kx h hf (by rw [er']; exact ⟨hd, hr.2.1⟩); rw [er'] at this; exact this) (fun _ w => absurd hnf w) (fun c => absurd h500 c) (fun c => absurd h500 c) (fun c => absurd h500 c) (fun c => absurd h500 c) (fun c => absurd h500 c)
  | succ q ih =>
    intro i D a h hi hq ha hD hf hr hd er
    have h500 : ¬ (500 : Int32) ≤ nI i := by rw [show (500 : Int32) = nI 500 from rfl]; exact nI_ge (by omega) (by omega)
    have hnf := (z_failed hr).1.mpr ⟨_, rfl⟩
    have hs := sk_le (B := B) ha
    have hX' := zX_rc hf hX
    have hle : h.1 1 1 ≤ h.1 10 4 ↔ N ≤ sk B N a := by rw [hX'.2.1, hr.2.2.2]; exact nI_leI (by omega) (by omega)
    have er' : res = if sk B N a < N then bnd (tStm B N D a) (fun r => tAll B N q r.1 r.2) else .inr D := er
    refine q_Rdread_65 (n := n + 5) _ h (fun c => absurd c h500) (fun c => absurd c h500) (fun _ _ w _ => ?_) (fun _ _ _ w => absurd hnf w) (fun _ _ w => ?_) (fun _ w => absurd hnf w) (fun _ w => absurd hnf w)
    · rw [if_neg (by have := hle.mp w; omega)] at er'
      have := kx h hf (by rw [er']; exact ⟨hd, hr.2.1⟩)
      rw [er'] at this
      exact this
    · have hlt : sk B N a < N := by
        rcases Nat.lt_or_ge (sk B N a) N with e | e
        · exact e
        · exact absurd (hle.mpr e) w
      rw [if_pos hlt] at er'
      refine ⟨_, c_readStatement (n := n) hD h hX' hr hd, fun v h2 hp => ?_⟩
      obtain ⟨ev2, hf2, ho2⟩ := hp
      rw [ev2]
      rw [tStm_sk ha] at ho2
      refine q_Rdread_97 (n := n + 5) _ h2 ?_
      have hF2 := hf.trans hf2
      cases qs : tStm B N D a with
      | inl f =>
        rw [qs] at ho2 er'
        have hrf : zRd N h2 (.inl f) := ho2
        obtain ⟨b, hb, e4⟩ := hrf.2
        refine ⟨_, c_skip hb h2 (zX_rc hF2 hX) e4, fun v h3 hp => ?_⟩
        obtain ⟨ev3, hf3, e3⟩ := hp
        rw [ev3]
        refine q_Rdread_101 (n := n + 5) _ h3 ?_
        have hr3 := zRd_4 (r := .inl f) hf3 (sk_le (B := B) hb).2 e3 hrf
        have hfl := (z_failed hr3).2.mpr ⟨f, rfl⟩
        have fin : P (some (.int 0)) h3 := by
          have := kx h3 (hF2.trans hf3.fr) (by rw [er']; exact ⟨hr3.1.1, hr3.1.2.1⟩)
          rw [er'] at this
          exact this
        exact q_Rdread_65 (n := n + 5) _ h3 (fun _ w => absurd w hfl) (fun _ _ => fin) (fun _ w => absurd w hfl) (fun _ w => absurd w hfl) (fun _ w => absurd w hfl) (fun _ _ w => absurd w hfl) (fun _ _ _ => fin)
      | inr x =>
        rw [qs] at ho2 er'
        obtain ⟨hr2, hd2⟩ := ho2
        obtain ⟨x1, x2, x3⟩ := tStm_ok ha hD (show tStm B N D a = .inr (x.1, x.2) from qs)
        refine ⟨_, c_skip x3 h2 (zX_rc hF2 hX) hr2.2.2.2, fun v h3 hp => ?_⟩
        obtain ⟨ev3, hf3, e3⟩ := hp
        rw [ev3]
        refine q_Rdread_101 (n := n + 5) _ h3 ?_
        rw [nI_1]
        exact ih (i + 1) x.1 x.2 h3 (by omega) (by omega) x3 x1 (hF2.trans hf3.fr) (zRd_4 (r := .inr x.2) hf3 (sk_le (B := B) x3).2 e3 hr2) (zDc_10 hf3 (by decide) hd2) er'
theorem c_read (h : HP) (hX : zX B N h) : jC E mX3_read (n + 6) [.ref 10] h (fun v h2 => v = some (.int (okI (tRead B N))) ∧ zFr zRc h h2 ∧ zEnd h2 (tRead B N)) := by
  have hN := hX.1
  refine jC.of (lv := [some (.ref 10), none]) (by decide) (Nat.le_of_ble_eq_true rfl) ⟨rfl, trivial⟩ (q_Rdread_0 (n := n + 5) h ?_)
  refine ⟨fun v h2 => v = none ∧ zFr zRc h h2 ∧ (h2.1 11 0 = 0 ∧ h2.1 11 1 = 0 ∧ h2.1 11 2 = 1 ∧ h2.1 11 3 = 0 ∧ h2.1 11 4 = 0 ∧ h2.1 11 5 = 0) ∧ h2.1 13 0 = 5 ∧ ∀ i, i < 36 → h2.1 12 i = 0, ?_, fun v h1 hp => ?_⟩
  · refine jC.of (lv := [some (.ref 11)]) (by decide) (Nat.le_of_ble_eq_true rfl) ⟨rfl, trivial⟩ (q_Ldclear11_0 (n := n + 4) h ?_)
    refine ⟨_, c_fill12 0 _, fun v h1 hp => ?_⟩
    obtain ⟨ev, hf1, h12⟩ := hp
    rw [ev]
    refine q_Ldclear11_45 (n := n + 4) h1 ⟨rfl, ?_, ?_, ?_, h12⟩
    · exact (((((((zFr_I (by decide)).trans (zFr_I (by decide))).trans (zFr_I (by decide))).trans (zFr_I (by decide))).trans (zFr_I (by decide))).trans (zFr_I (by decide))).trans (zFr_I (by decide))).trans (hf1.sub (by decide))
    · rw [(hf1 11 (by decide)).1]
      exact ⟨rfl, rfl, rfl, rfl, rfl, rfl⟩
    · rw [(hf1 13 (by decide)).1]
      rfl
  obtain ⟨ev, hf1, h11, h13, h12⟩ := hp
  rw [ev]
  refine q_Rdread_7 (n := n + 5) h1 ?_
  have hf2 : zFr zRc h1 (jPI (jPI (jPI (jPI (jPI (jPI h1 10 2 0) 10 3 (-1)) 10 4 0) 10 6 0) 10 7 0) 10 8 0) := (((((zFr_I (by decide)).trans (zFr_I (by decide))).trans (zFr_I (by decide))).trans (zFr_I (by decide))).trans (zFr_I (by decide))).trans (zFr_I (by decide))
  have hF2 := hf1.trans hf2
  have hd2 : zDc D0 (jPI (jPI (jPI (jPI (jPI (jPI h1 10 2 0) 10 3 (-1)) 10 4 0) 10 6 0) 10 7 0) 10 8 0) :=
    ⟨h11, ⟨rfl, rfl, rfl⟩, h12, fun _ => h13, fun t ht => absurd ht (by show ¬ t < 0; omega), fun m hm => absurd hm (by show ¬ m < 0; omega), fun m hm => absurd hm (by show ¬ m < 0; omega)⟩
  have hr2 : zRd N (jPI (jPI (jPI (jPI (jPI (jPI h1 10 2 0) 10 3 (-1)) 10 4 0) 10 6 0) 10 7 0) 10 8 0) (.inr 0) := ⟨rfl, rfl, Nat.zero_le _, rfl⟩
  refine ⟨_, c_skip (a := 0) (Nat.zero_le _) _ (zX_rc hF2 hX) rfl, fun v h3 hp => ?_⟩
  obtain ⟨ev3, hf3, e3⟩ := hp
  rw [ev3]
  have hF3 := hF2.trans hf3.fr
  have hX3 := zX_rc hF3 hX
  have hs := sk_le (B := B) (Nat.zero_le N)
  have hr3 := zRd_4 (r := .inr 0) hf3 hs.2 e3 hr2
  have hr3' : zRd N h3 (.inr (sk B N 0)) := hr3
  have hd3 := zDc_10 hf3 (by decide) hd2
  have hnf := (z_failed hr3').1.mpr ⟨_, rfl⟩
  have hle : h3.1 1 1 ≤ h3.1 10 4 ↔ N ≤ sk B N 0 := by rw [hX3.2.1, e3]; exact nI_leI (by omega) (by omega)
  refine q_Rdread_41 (n := n + 5) h3 (fun w _ => ?_) (fun _ w => absurd hnf w) (fun w => ?_)
  · have et : tRead B N = .inr D0 := by unfold tRead; rw [if_neg (by have := hle.mp w; omega)]
    rw [et]
    exact ⟨rfl, hF3, hd3, hr3'.2.1⟩
  · have hlt : sk B N 0 < N := by
      rcases Nat.lt_or_ge (sk B N 0) N with e | e
      · exact e
      · exact absurd (hle.mpr e) w
    have et : tRead B N = bnd (tLand B N D0 0) (fun r => tAll B N 500 r.1 r.2) := by unfold tRead; rw [if_pos hlt]
    refine ⟨_, c_readLand (n := n) h3 hX3 hr3' hd3, fun v h4 hp => ?_⟩
    obtain ⟨ev4, hf4, ho4⟩ := hp
    rw [ev4]
    rw [tLand_sk (Nat.zero_le _)] at ho4
    refine q_Rdread_59 (n := n + 5) h4 ?_
    have hF4 := hF3.trans hf4
    cases ql : tLand B N D0 0 with
    | inl f =>
      rw [ql] at ho4 et
      have hrf : zRd N h4 (.inl f) := ho4
      obtain ⟨b, hb, e4⟩ := hrf.2
      refine ⟨_, c_skip hb h4 (zX_rc hF4 hX) e4, fun v h5 hp => ?_⟩
      obtain ⟨ev5, hf5, e5⟩ := hp
      rw [ev5]
      refine q_Rdread_63 (n := n + 5) h5 ?_
      have hr5 := zRd_4 (r := .inl f) hf5 (sk_le (B := B) hb).2 e5 hrf
      have hfl := (z_failed hr5).2.mpr ⟨f, rfl⟩
      have fin : (fun v h2 => v = some (Value.int (okI (tRead B N))) ∧ zFr zRc h h2 ∧ zEnd h2 (tRead B N)) (some (Value.int 0)) h5 := by
        show some (Value.int 0) = some (Value.int (okI (tRead B N))) ∧ zFr zRc h h5 ∧ zEnd h5 (tRead B N)
        rw [et]
        exact ⟨rfl, hF4.trans hf5.fr, hr5.1.1, hr5.1.2.1⟩
      exact q_Rdread_65 (n := n + 5) _ h5 (fun _ w => absurd w hfl) (fun _ _ => fin) (fun _ w => absurd w hfl) (fun _ w => absurd w hfl) (fun _ w => absurd w hfl) (fun _ _ w => absurd w hfl) (fun _ _ _ => fin)
    | inr x =>
      rw [ql] at ho4 et
      obtain ⟨hr4, hd4⟩ := ho4
      obtain ⟨x1, x2, x3⟩ := tLand_ok (Nat.zero_le _) (show tLand B N D0 0 = .inr (x.1, x.2) from ql)
      refine ⟨_, c_skip x3 h4 (zX_rc hF4 hX) hr4.2.2.2, fun v h5 hp => ?_⟩
      obtain ⟨ev5, hf5, e5⟩ := hp
      rw [ev5]
      refine q_Rdread_63 (n := n + 5) h5 ?_
      exact zc_allL (n := n) (h0 := h) hX (fun h6 hf6 he6 => ⟨rfl, hf6, he6⟩) 500 0 x.1 x.2 h5 rfl (by omega) x3 x1 (hF4.trans hf5.fr) (zRd_4 (r := .inr x.2) hf5 (sk_le (B := B) x3).2 e5 hr4) (zDc_10 hf5 (by decide) hd4) et
end LC
