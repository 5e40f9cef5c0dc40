/-! ===== the class's reader: tide, rows, land, a statement, the whole text ===== -/
theorem zDc_f {D : ZD} {h h2 : HP} (e11 : h2.1 11 = h.1 11) (e6 : h2.1 10 6 = h.1 10 6) (e7 : h2.1 10 7 = h.1 10 7) (e8 : h2.1 10 8 = h.1 10 8) (e12 : h2.1 12 = h.1 12) (e13 : h2.1 13 = h.1 13) (e14 : h2.1 14 = h.1 14) (e15 : h2.1 15 = h.1 15) (e16 : h2.1 16 = h.1 16) (q : zDc D h) : zDc D h2 := by
  unfold zDc
  rw [e11, e6, e7, e8, e12, e13, e14, e15, e16]
  exact q
section SR
variable {E : jEnv} {n : Nat} {X : State → Prop} {P : Option Value → HP → Prop} {B : Nat → Nat} {N : Nat}
/-- a tide behind a fault -/
theorem zc_tideF {f : ZE} {h0 : HP} (hX : zX B N h0) (kx : ∀ h, zFr zRc h0 h → zRd N h (.inl f) → P none h) (c : Int32) (h : HP) (hf : zFr zRc h0 h) (hr : zRd N h (.inl f)) : jG E mX3_readTide (n + 2) X P 39 [some (.ref 10), some (.int c)] [] h := by
  have hfl := (z_failed hr).2.mpr ⟨f, rfl⟩
  have call : jCall E mX3_takeSign (n + 1) [.ref 10, .int 59] h (fun v h2 => jG E mX3_readTide (n + 2) X P 95 [some (.ref 10), some (.int c)] (v.toList ++ []) h2) := by
    refine ⟨_, c_takeSign (r := .inl f) (c := 59) (by omega) h (zX_rc hf hX) hr, fun v h2 hp => ?_⟩
    obtain ⟨ev, hf2, hr2⟩ := hp
    rw [ev]
    exact q_RdreadTide_95 (n := n + 1) _ h2 (kx _ ((hf.trans hf2.fr).trans (zFr_I (by decide))) (zRd_o (by decide) hr2))
  exact q_RdreadTide_39 (n := n + 1) _ h (fun _ => call) (fun _ w => absurd w hfl) (fun _ _ => call)
theorem zc_tideR {h0 : HP} (hX : zX B N h0) {res : ZE ⊕ (ZD × Nat)} (kx : ∀ h, zFr zRc h0 h → zOut N h res → P none h) : ∀ (k : Nat) (D : ZD) (a : Nat) (h : HP), dH D + k = 6 → 0 < dH D → zDok D → zFr zRc h0 h → zRd N h (.inr a) → zDc D (jPI h 11 2 (nI (dH D))) → res = tTideL B N k D a → jG E mX3_readTide (n + 2) X P 39 [some (.ref 10), some (.int (nI (dH D)))] [] h := by
  intro k
  have semi : ∀ (D : ZD) (a : Nat) (h : HP), dH D ≤ 6 → 0 < dH D → zFr zRc h0 h → zRd N h (.inr a) → zDc D (jPI h 11 2 (nI (dH D))) → res = bnd (tSgn B N 59 a) (fun e => .inr (D, e)) → jCall E mX3_takeSign (n + 1) [.ref 10, .int 59] h (fun v h2 => jG E mX3_readTide (n + 2) X P 95 [some (.ref 10), some (.int (nI (dH D)))] (v.toList ++ []) h2) := fun D a h h6 hp0 hf hr hd er => by
    refine ⟨_, c_takeSign (r := .inr a) (c := 59) (by omega) h (zX_rc hf hX) hr, fun v h2 hp => ?_⟩
    obtain ⟨ev, hf2, hr2⟩ := hp
    rw [ev]
    refine q_RdreadTide_95 (n := n + 1) _ h2 (kx _ ((hf.trans hf2.fr).trans (zFr_I (by decide))) ?_)
    rw [er]
    have hr2' : zRd N h2 (tSgn B N 59 a) := hr2
    cases q : tSgn B N 59 a with
    | inl f => rw [q] at hr2'; exact zRd_o (by decide) hr2'
    | inr e =>
      rw [q] at hr2'
      refine ⟨zRd_o (by decide) hr2', ?_⟩
      refine zDc_f (h := jPI h 11 2 (nI (dH D))) ?_ (hf2.2 6 (by decide)) (hf2.2 7 (by decide)) (hf2.2 8 (by decide)) (hf2.1 12 (by decide)).1 (hf2.1 13 (by decide)).1 (hf2.1 14 (by decide)).1 (hf2.1 15 (by decide)).1 (hf2.1 16 (by decide)).1 hd
      show upd (h2.1 11) 2 _ = upd (h.1 11) 2 _
      rw [(hf2.1 11 (by decide)).1]
  induction k with
  | zero =>
    intro D a h hk h0' hD hf hr hd er
    have h6 : (6 : Int32) ≤ nI (dH D) := by rw [show dH D = 6 by omega]; decide
    exact q_RdreadTide_39 (n := n + 1) _ h (fun _ => semi D a h (by omega) h0' hf hr hd er) (fun c => absurd h6 c) (fun c => absurd h6 c)
  | succ k ih =>
    intro D a h hk h0' hD hf hr hd er
    have h6 : ¬ (6 : Int32) ≤ nI (dH D) := by rw [show (6 : Int32) = nI 6 from rfl]; exact nI_ge (by omega) (by omega)
    have hnf := (z_failed hr).1.mpr ⟨a, rfl⟩
    have ha := hr.2.2.1
    have er' : res = if sk B N a < N ∧ B (sk B N a) = 44 then bnd (tNum B N 0 9 (sk B N a + 1)) (fun v => tTideL B N k (uT D (dH D) v.1) v.2) else bnd (tSgn B N 59 a) (fun e => .inr (D, e)) := er
    refine q_RdreadTide_39 (n := n + 1) _ h (fun c => absurd c h6) (fun _ _ => ?_) (fun _ c => absurd hnf c)
    refine ⟨_, c_nextIs (c := 44) (by omega) ha h (zX_rc hf hX) hr.2.2.2, fun v h2 hp => ?_⟩
    obtain ⟨ev, hf2, e2⟩ := hp
    rw [ev]
    have hs := sk_le (B := B) ha
    have hr2 := zRd_4 (r := .inr a) hf2 hs.2 e2 hr
    have hF2 := hf.trans hf2.fr
    have hd2 : zDc D (jPI h2 11 2 (nI (dH D))) := by
      refine zDc_f (h := jPI h 11 2 (nI (dH D))) ?_ (hf2.2 6 (by decide)) (hf2.2 7 (by decide)) (hf2.2 8 (by decide)) (hf2.1 12 (by decide)).1 (hf2.1 13 (by decide)).1 (hf2.1 14 (by decide)).1 (hf2.1 15 (by decide)).1 (hf2.1 16 (by decide)).1 hd
      show upd (h2.1 11) 2 _ = upd (h.1 11) 2 _
      rw [(hf2.1 11 (by decide)).1]
    by_cases hc : sk B N a < N ∧ B (sk B N a) = 44
    · rw [if_pos hc] at er' ⊢
      refine q_RdreadTide_58 (n := n + 1) _ _ h2 (fun w => absurd w one0) (fun _ => ?_)
      refine ⟨_, c_takeSign (r := .inr (sk B N a)) (c := 44) (by omega) h2 (zX_rc hF2 hX) hr2, fun v h3 hp => ?_⟩
      obtain ⟨ev3, hf3, hr3⟩ := hp
      rw [ev3]
      have hr3' : zRd N h3 (.inr (sk B N a + 1)) := by
        have : zRd N h3 (tSgn B N 44 (sk B N a)) := hr3
        rw [tSgn_sk ha] at this
        unfold tSgn at this
        rw [if_pos hc] at this
        exact this
      refine q_RdreadTide_67 (n := n + 1) _ h3 ?_
      have hF3 := hF2.trans hf3.fr
      refine ⟨_, c_takeNumber (r := .inr (sk B N a + 1)) (lo := 0) (hi := 9) (by omega) (by omega) h3 (zX_rc hF3 hX) hr3', fun v h4 hp => ?_⟩
      obtain ⟨ev4, hf4, hr4⟩ := hp
      rw [ev4]
      have hF4 := hF3.trans hf4.fr
      refine q_RdreadTide_82 (n := n + 1) _ _ _ h4 (z_vp (by omega) (by omega)) ?_
      rw [nI_clamp (by omega), nI_1]
      have hr4' : zRd N h4 (ps (tNum B N 0 9 (sk B N a + 1))) := hr4
      have hF5 : zFr zRc h0 (jPI h4 13 (dH D) (nI (tv 0 (bnd (.inr (sk B N a + 1)) (tNum B N 0 9))))) := hF4.trans (zFr_I (by decide))
      cases q : tNum B N 0 9 (sk B N a + 1) with
      | inl f =>
        rw [q] at hr4' er'
        refine zc_tideF (f := f) hX (fun h5 hf5 hr5 => kx h5 hf5 (by rw [er']; exact hr5)) _ _ hF5 (zRd_o (by decide) hr4')
      | inr x =>
        rw [q] at hr4' er'
        obtain ⟨x1, x2, x3, x4⟩ := tNum_ok (show sk B N a + 1 ≤ N by omega) (show tNum B N 0 9 (sk B N a + 1) = .inr (x.1, x.2) from q)
        have etv : tv 0 (bnd (.inr (sk B N a + 1)) (tNum B N 0 9)) = x.1 := by
          show tv 0 (tNum B N 0 9 (sk B N a + 1)) = x.1
          rw [q]; rfl
        rw [etv]
        refine ih (uT D (dH D) x.1) x.2 _ (by show dH D + 1 + k = 6; omega) (by show 0 < dH D + 1; omega) (uT_ok hD (by omega) x2) (by rw [← etv]; exact hF5) (zRd_o (by decide) hr4') ?_ er'
        -- the draft
        have hf34 := hf3.trans hf4
        have hd4 : zDc D (jPI h4 11 2 (nI (dH D))) := by
          refine zDc_f (h := jPI h2 11 2 (nI (dH D))) ?_ (hf34.2 6 (by decide)) (hf34.2 7 (by decide)) (hf34.2 8 (by decide)) (hf34.1 12 (by decide)).1 (hf34.1 13 (by decide)).1 (hf34.1 14 (by decide)).1 (hf34.1 15 (by decide)).1 (hf34.1 16 (by decide)).1 hd2
          show upd (h4.1 11) 2 _ = upd (h2.1 11) 2 _
          rw [(hf34.1 11 (by decide)).1]
        obtain ⟨d1, d2, d3, d4, d5, d6, d7⟩ := hd4
        refine ⟨⟨d1.1, d1.2.1, ?_, d1.2.2.2.1, d1.2.2.2.2.1, d1.2.2.2.2.2⟩, ⟨d2.1, ?_, d2.2.2⟩, d3, fun w => absurd w (by show ¬ dH D + 1 = 0; omega), fun t ht => ?_, d6, d7⟩
        · show nI (dH D + 1) = nI (if dH D + 1 = 0 then 1 else dH D + 1)
          rw [if_neg (by omega)]
        · have : h4.1 10 7 = if dH D = 0 then 0 else 1 := d2.2.1
          show h4.1 10 7 = if dH D + 1 = 0 then 0 else 1
          rw [this, if_neg (by omega), if_neg (by omega)]
        · have ht' : t < dH D + 1 := ht
          show upd (h4.1 13) (dH D) (nI x.1) t = nI (up1 (dH D) x.1 (dT D) t)
          unfold up1
          by_cases et : t = dH D
          · rw [et, upd_eq, if_pos rfl]
          · rw [upd_ne et, if_neg et]; exact d5 t (by omega)
    · rw [if_neg hc] at er' ⊢
      refine q_RdreadTide_58 (n := n + 1) _ _ h2 (fun _ => ?_) (fun w => absurd rfl w)
      exact semi D (sk B N a) h2 (by omega) h0' hF2 hr2 hd2 (by rw [tSgn_sk ha]; exact er')
theorem c_readTide {D : ZD} {s a : Nat} (hD : zDok D) (h : HP) (hX : zX B N h) (hr : zRd N h (.inr a)) (h5 : h.1 10 5 = nI s) (hd : zDc D h) : jC E mX3_readTide (n + 2) [.ref 10] h (fun v h2 => v = none ∧ zFr zRc h h2 ∧ zOut N h2 (tTide B N D s a)) := by
  have ha := hr.2.2.1
  refine jC.of (lv := [some (.ref 10), none]) (by decide) (Nat.le_of_ble_eq_true rfl) ⟨rfl, trivial⟩ (q_RdreadTide_0 (n := n + 1) h (fun w => ?_) (fun w => ?_))
  · have h0 : dH D = 0 := by
      rcases Nat.eq_zero_or_pos (dH D) with q | q
      · exact q
      · rw [hd.2.1.2.1, if_neg (by omega)] at w; exact absurd w one0
    have hf1 : zFr zRc h (jPI h 10 7 1) := zFr_I (by decide)
    refine ⟨_, c_takeNumber (r := .inr a) (lo := 0) (hi := 9) (by omega) (by omega) (jPI h 10 7 1) (zX_rc hf1 hX) (zRd_j (by decide) hr), fun v h4 hp => ?_⟩
    obtain ⟨ev4, hf4, hr4⟩ := hp
    rw [ev4]
    have hF4 := hf1.trans hf4.fr
    refine q_RdreadTide_36 (n := n + 1) _ _ h4 (z_vp (m := 0) (by omega) (by omega)) ?_
    have hr4' : zRd N h4 (ps (tNum B N 0 9 a)) := hr4
    have hF5 : zFr zRc h (jPI h4 13 (0 : Int32).toNatClampNeg (nI (tv 0 (bnd (.inr a) (tNum B N 0 9))))) := hF4.trans (zFr_I (by decide))
    have et : tTide B N D s a = bnd (tNum B N 0 9 a) (fun v => tTideL B N 5 (uT D 0 v.1) v.2) := by
      unfold tTide; rw [if_pos h0]
    cases q : tNum B N 0 9 a with
    | inl f =>
      rw [q] at hr4' et
      exact zc_tideF (f := f) hX (fun h5 hf5 hr5 => ⟨rfl, hf5, by rw [et]; exact hr5⟩) _ _ hF5 (zRd_o (by decide) hr4')
    | inr x =>
      rw [q] at hr4' et
      obtain ⟨x1, x2, x3, x4⟩ := tNum_ok ha (show tNum B N 0 9 a = .inr (x.1, x.2) from q)
      have etv : tv 0 (bnd (.inr a) (tNum B N 0 9)) = x.1 := by
        show tv 0 (tNum B N 0 9 a) = x.1
        rw [q]; rfl
      rw [etv] at hF5 ⊢
      refine zc_tideR (h0 := h) hX (fun h5 hf5 ho => ⟨rfl, hf5, ho⟩) 5 (uT D 0 x.1) x.2 _ rfl (by show 0 < 0 + 1; omega) (uT_ok hD (by omega) x2) hF5 (zRd_o (by decide) hr4') ?_ et
      obtain ⟨d1, d2, d3, d4, d5, d6, d7⟩ := hd
      have eo : ∀ k, k ∉ [10] → h4.1 k = h.1 k := fun k hk => (hf4.1 k hk).1.trans (by
        show va_up h.1 10 _ k = _
        unfold va_up
        rw [if_neg (fun e => hk (by rw [e]; decide))])
      have e10 : ∀ i, i ∉ [2, 3, 4] → i ≠ 7 → h4.1 10 i = h.1 10 i := fun i hi h7 => (hf4.2 i hi).trans (upd_ne h7)
      refine ⟨⟨?_, ?_, rfl, ?_, ?_, ?_⟩, ⟨?_, ?_, ?_⟩, ?_, fun w => absurd w (by show ¬ 0 + 1 = 0; omega), fun t ht => ?_, ?_, ?_⟩
      · show h4.1 11 0 = _; rw [eo 11 (by decide)]; exact d1.1
      · show h4.1 11 1 = _; rw [eo 11 (by decide)]; exact d1.2.1
      · show h4.1 11 3 = _; rw [eo 11 (by decide)]; exact d1.2.2.2.1
      · show h4.1 11 4 = _; rw [eo 11 (by decide)]; exact d1.2.2.2.2.1
      · show h4.1 11 5 = _; rw [eo 11 (by decide)]; exact d1.2.2.2.2.2
      · show h4.1 10 6 = _; rw [e10 6 (by decide) (by decide)]; exact d2.1
      · show h4.1 10 7 = _
        rw [hf4.2 7 (by decide)]; rfl
      · show h4.1 10 8 = _; rw [e10 8 (by decide) (by decide)]; exact d2.2.2
      · show ∀ c, c < 36 → h4.1 12 c = _; rw [eo 12 (by decide)]; exact d3
      · have ht' : t < 0 + 1 := ht
        obtain rfl : t = 0 := by omega
        show nI x.1 = nI (up1 0 x.1 (dT D) 0)
        unfold up1
        rw [if_pos rfl]
      · show ∀ m, m < dM D → h4.1 14 m = _ ∧ h4.1 15 m = _; rw [eo 14 (by decide), eo 15 (by decide)]; exact d6
      · show ∀ k, k < dN D → h4.1 16 k = _; rw [eo 16 (by decide)]; exact d7
  · have h0 : ¬ dH D = 0 := fun e => w (by rw [hd.2.1.2.1, if_pos e])
    have et : tTide B N D s a = .inl (3, s) := by unfold tTide; rw [if_neg h0]
    rw [h5]
    refine ⟨_, c_Rdfail (nI 3) (nI s) h, fun v h1 hp => ?_⟩
    rw [hp.1, hp.2]
    obtain ⟨g1, g2⟩ := z_fail (k := 3) (w := s) (by decide) (by decide) hr
    have g1' : zRd N (H_Rdfail h (nI 3) (nI s)) (.inl (3, s)) := g1
    refine q_RdreadTide_16 (n := n + 1) _ ?_
    have hf1 : zFr zRc h (jPI (H_Rdfail h (nI 3) (nI s)) 10 7 1) := g2.fr.trans (zFr_I (by decide))
    refine ⟨_, c_takeNumber (r := .inl (3, s)) (lo := 0) (hi := 9) (by omega) (by omega) _ (zX_rc hf1 hX) (zRd_j (by decide) g1'), fun v h4 hp => ?_⟩
    obtain ⟨ev4, hf4, hr4⟩ := hp
    rw [ev4]
    refine q_RdreadTide_36 (n := n + 1) _ _ h4 (z_vp (m := 0) (by omega) (by omega)) ?_
    exact zc_tideF (f := (3, s)) hX (fun h5 hf5 hr5 => ⟨rfl, hf5, by rw [et]; exact hr5⟩) _ _ ((hf1.trans hf4.fr).trans (zFr_I (by decide))) (zRd_o (by decide) hr4)
/-- a row behind a fault -/
theorem zc_rowF {f : ZE} {h0 : HP} (hX : zX B N h0) (kx : ∀ h, zFr zRc h0 h → zRd N h (.inl f) → P none h) (y x : Int32) (h : HP) (hf : zFr zRc h0 h) (hr : zRd N h (.inl f)) : jG E mX3_readRow (n + 2) X P 56 [some (.ref 10), none, some (.int y), some (.int x)] [] h := by
  have hfl := (z_failed hr).2.mpr ⟨f, rfl⟩
  have call : jCall E mX3_takeSign (n + 1) [.ref 10, .int 59] h (fun v h2 => jG E mX3_readRow (n + 2) X P 120 [none, none, none, none] (v.toList ++ []) h2) := by
    refine ⟨_, c_takeSign (r := .inl f) (c := 59) (by omega) h (zX_rc hf hX) hr, fun v h2 hp => ?_⟩
    obtain ⟨ev, hf2, hr2⟩ := hp
    rw [ev]
    exact q_RdreadRow_120 (n := n + 1) h2 (kx _ (hf.trans hf2.fr) hr2)
  exact q_RdreadRow_56 (n := n + 1) _ _ h (fun _ => call) (fun _ w => absurd w hfl) (fun _ w => absurd w hfl) (fun _ _ => call)
theorem zc_rowR {h0 : HP} (hX : zX B N h0) {y : Nat} {res : ZE ⊕ (ZD × Nat)} (kx : ∀ h, zFr zRc h0 h → zOut N h res → P none h) : ∀ (k x : Nat) (D : ZD) (a : Nat) (h : HP), x + k = dW D → y < dG D → zDok D → zFr zRc h0 h → zRd N h (.inr a) → zDc D h → res = tRowL B N y k x D a → jG E mX3_readRow (n + 2) X P 56 [some (.ref 10), none, some (.int (nI y)), some (.int (nI x))] [] h := by
  intro k
  induction k with
  | zero =>
    intro x D a h hx hy hD hf hr hd er
    have hle : h.1 11 0 ≤ nI x := by rw [hd.1.1, show x = dW D by omega]; exact Int32.le_refl _
    have er' : res = bnd (tSgn B N 59 a) (fun e => .inr (D, e)) := er
    refine q_RdreadRow_56 (n := n + 1) _ _ h (fun _ => ?_) (fun c => absurd hle c) (fun c => absurd hle c) (fun c => absurd hle c)
    refine ⟨_, c_takeSign (r := .inr a) (c := 59) (by omega) h (zX_rc hf hX) hr, fun v h2 hp => ?_⟩
    obtain ⟨ev, hf2, hr2⟩ := hp
    rw [ev]
    refine q_RdreadRow_120 (n := n + 1) h2 (kx _ (hf.trans hf2.fr) ?_)
    rw [er']
    have hr2' : zRd N h2 (tSgn B N 59 a) := hr2
    cases q : tSgn B N 59 a with
    | inl f => rw [q] at hr2'; exact hr2'
    | inr e =>
      rw [q] at hr2'
      exact ⟨hr2', zDc_10 hf2 (by decide) hd⟩
  | succ k ih =>
    intro x D a h hx hy hD hf hr hd er
    have hw9 := hD.1.2
    have hlt : ¬ h.1 11 0 ≤ nI x := by rw [hd.1.1]; exact nI_ge (by omega) (by omega)
    have hnf := (z_failed hr).1.mpr ⟨a, rfl⟩
    have hcell : dW D * y + x < dW D * dG D := z_lin (by omega) hy
    have h36 := hD.2.2.1
    have er' : res = bnd (if x = 0 then .inr a else tSgn B N 44 a) (fun b => bnd (tNum B N 0 9 b) (fun v => tRowL B N y k (x + 1) (uO D (dW D * y + x) v.1) v.2)) := er
    -- a number, wherever the sign ahead of it has led
    have num : ∀ (rb : ZE ⊕ Nat) (h1 : HP), rb = (if x = 0 then .inr a else tSgn B N 44 a) → zF10 [2, 3, 4] h h1 → zRd N h1 rb → jCall E mX3_takeNumber (n + 1) [.ref 10, .int 0, .int 9] h1 (fun v h2 => jG E mX3_readRow (n + 2) X P 107 [some (.ref 10), none, some (.int (nI y)), some (.int (nI x))] (v.toList ++ [.int (f_LdcellOf11 (h1.1 11 0) (nI x) (nI y)), .ref 12]) h2) := fun rb h1 eb hf1 hr1 => by
      have hF1 := hf.trans hf1.fr
      refine ⟨_, c_takeNumber (r := rb) (lo := 0) (hi := 9) (by omega) (by omega) h1 (zX_rc hF1 hX) hr1, fun v h4 hp => ?_⟩
      obtain ⟨ev4, hf4, hr4⟩ := hp
      rw [ev4]
      have e110 : h1.1 11 0 = nI (dW D) := by rw [(hf1.1 11 (by decide)).1]; exact hd.1.1
      have ecell : f_LdcellOf11 (h1.1 11 0) (nI x) (nI y) = nI (dW D * y + x) := by
        unfold f_LdcellOf11
        rw [e110, pk_mul, nI_add, Nat.mul_comm]
      rw [ecell]
      refine q_RdreadRow_107 (n := n + 1) _ _ _ _ h4 (z_vp (by omega) (by omega)) ?_
      rw [nI_clamp (by omega), nI_1]
      have hF4 := hF1.trans hf4.fr
      rw [← eb] at er'
      have hF5 : zFr zRc h0 (jPI h4 12 (dW D * y + x) (nI (tv 0 (bnd rb (tNum B N 0 9))))) := hF4.trans (zFr_I (by decide))
      cases rb with
      | inl f =>
        exact zc_rowF (f := f) hX (fun h5 hf5 hr5 => kx h5 hf5 (by rw [er']; exact hr5)) _ _ _ hF5 (zRd_o (by decide) hr4)
      | inr b =>
        have hb : b ≤ N := hr1.2.2.1
        have hr4' : zRd N h4 (ps (tNum B N 0 9 b)) := hr4
        have er2 : res = bnd (tNum B N 0 9 b) (fun v => tRowL B N y k (x + 1) (uO D (dW D * y + x) v.1) v.2) := er'
        cases q : tNum B N 0 9 b with
        | inl f =>
          rw [q] at hr4' er2
          exact zc_rowF (f := f) hX (fun h5 hf5 hr5 => kx h5 hf5 (by rw [er2]; exact hr5)) _ _ _ hF5 (zRd_o (by decide) hr4')
        | inr v =>
          rw [q] at hr4' er2
          obtain ⟨x1, x2, x3, x4⟩ := tNum_ok hb (show tNum B N 0 9 b = .inr (v.1, v.2) from q)
          have etv : tv 0 (bnd (.inr b) (tNum B N 0 9)) = v.1 := by
            show tv 0 (tNum B N 0 9 b) = v.1
            rw [q]; rfl
          rw [etv] at hF5 ⊢
          have hD2 : zDok (uO D (dW D * y + x) v.1) := by
            obtain ⟨g1, g2, g3, g4, g5, g6, g7, g8, g9, g10, g11, g12, g13⟩ := hD
            exact ⟨g1, g2, g3, g4, g5, g6, g7, g8, g9, up1_bnd x2 g10, g11, g12, g13⟩
          refine ih (x + 1) (uO D (dW D * y + x) v.1) v.2 _ (by show x + 1 + k = dW D; omega) hy hD2 hF5 (zRd_o (by decide) hr4') ?_ er2
          obtain ⟨d1, d2, d3, d4, d5, d6, d7⟩ := zDc_10 (hf1.trans hf4) (by decide) hd
          refine ⟨d1, d2, fun c hc => ?_, d4, d5, d6, d7⟩
          exact updn (d3 c hc)
    refine q_RdreadRow_56 (n := n + 1) _ _ h (fun c => absurd c hlt) (fun _ _ w => ?_) (fun _ _ w => ?_) (fun _ c => absurd hnf c)
    · have hx0 : x = 0 := by
        rcases Nat.eq_zero_or_pos x with q | q
        · exact q
        · exact absurd w (nI_nle q (by omega))
      exact num (.inr a) h (by rw [if_pos hx0]) (zF10.refl _ h) hr
    · have hx0 : ¬ x = 0 := fun e => w (by rw [e]; decide)
      refine ⟨_, c_takeSign (r := .inr a) (c := 44) (by omega) h (zX_rc hf hX) hr, fun v h2 hp => ?_⟩
      obtain ⟨ev, hf2, hr2⟩ := hp
      rw [ev]
      exact q_RdreadRow_84 (n := n + 1) _ _ h2 (num (tSgn B N 44 a) h2 (by rw [if_neg hx0]) hf2 hr2)
theorem c_readRow {D : ZD} {a : Nat} (hD : zDok D) (h : HP) (hX : zX B N h) (hr : zRd N h (.inr a)) (hd : zDc D h) : jC E mX3_readRow (n + 2) [.ref 10] h (fun v h2 => v = none ∧ zFr zRc h h2 ∧ zOut N h2 (tRow B N D a)) := by
  have ha := hr.2.2.1
  have hg9 := hD.2.1
  have hR : dR D < 512 := hD.2.2.2.2.2.2.2.1
  refine jC.of (lv := [some (.ref 10), none, none, none]) (by decide) (Nat.le_of_ble_eq_true rfl) ⟨rfl, trivial⟩ (q_RdreadRow_0 (n := n + 1) h ?_)
  refine ⟨_, c_skip ha h hX hr.2.2.2, fun v h1 hp => ?_⟩
  obtain ⟨ev, hf1, e1⟩ := hp
  rw [ev]
  have hs := sk_le (B := B) ha
  have hr1 := zRd_4 (r := .inr a) hf1 hs.2 e1 hr
  have hd1 := zDc_10 hf1 (by decide) hd
  refine q_RdreadRow_4 (n := n + 1) h1 ?_
  rw [hd1.1.2.1, show nI (dG D) - 1 = nI (dG D - 1) from pk_sub (b := 1) (by omega), e1]
  refine ⟨_, c_takeNumber (r := .inr (sk B N a)) (lo := 0) (hi := dG D - 1) (by omega) (by omega) h1 (zX_fr hf1.1 (by decide) hX) hr1, fun v h2 hp => ?_⟩
  obtain ⟨ev2, hf2, hr2⟩ := hp
  rw [ev2]
  have hF2 := (hf1.sub (l' := [2, 3, 4]) (by decide)).trans hf2
  have hr2' : zRd N h2 (ps (tNum B N 0 (dG D - 1) (sk B N a))) := hr2
  have etv : tv 0 (bnd (.inr (sk B N a)) (tNum B N 0 (dG D - 1))) = tv 0 (tNum B N 0 (dG D - 1) a) := by
    show tv 0 (tNum B N 0 (dG D - 1) (sk B N a)) = _
    rw [tNum_sk ha]
  rw [tNum_sk ha] at hr2'
  rw [etv]
  have hd2 := zDc_10 hF2 (by decide) hd
  cases q : tNum B N 0 (dG D - 1) a with
  | inl f =>
    have et : tRow B N D a = .inl f := by unfold tRow; rw [q]; rfl
    rw [q] at hr2'
    have hr2f : zRd N h2 (.inl f) := hr2'
    have go : ∀ h3 : HP, zFr zRc h h3 → zRd N h3 (.inl f) → jG E mX3_readRow (n + 2) (fun _ => True) (fun v h2 => v = none ∧ zFr zRc h h2 ∧ zOut N h2 (tRow B N D a)) 56 [some (.ref 10), none, some (.int (nI (tv 0 (.inl f)))), some (.int 0)] [] h3 := fun h3 hf3 hr3 => zc_rowF (f := f) hX (fun h5 hf5 hr5 => ⟨rfl, hf5, by rw [et]; exact hr5⟩) _ _ h3 hf3 hr3
    refine q_RdreadRow_23 (n := n + 1) _ _ h2 (fun _ => go _ (hF2.fr.trans (zFr_I (by decide))) (zRd_j (by decide) hr2f)) (fun _ => ?_)
    refine ⟨_, c_Rdfail (nI 4) (nI (sk B N a)) h2, fun v h3 hp => ?_⟩
    rw [hp.1, hp.2]
    obtain ⟨g1, g2⟩ := z_fail (r := .inl f) (k := 4) (w := sk B N a) (by decide) (by decide) hr2f
    exact q_RdreadRow_42 (n := n + 1) _ _ (go _ ((hF2.fr.trans g2.fr).trans (zFr_I (by decide))) (zRd_j (by decide) g1))
  | inr x =>
    obtain ⟨x1, x2, x3, x4⟩ := tNum_ok ha (show tNum B N 0 (dG D - 1) a = .inr (x.1, x.2) from q)
    rw [q] at hr2'
    have hr2x : zRd N h2 (.inr x.2) := hr2'
    have hhas : f_Shhas ((h2.1 10 6).toInt64) (nI (tv 0 (.inr x))) = if (dR D).testBit x.1 = true then 1 else 0 := by
      rw [hd2.2.1.1]; exact z_hasR _ hR x.1 (by omega)
    have et : tRow B N D a = if (dR D).testBit x.1 = true then .inl (4, sk B N a) else tRowL B N x.1 (dW D) 0 (uR D (dR D ||| 2 ^ x.1)) x.2 := by unfold tRow; rw [q]; rfl
    refine q_RdreadRow_23 (n := n + 1) _ _ h2 (fun w => ?_) (fun w => ?_)
    · have hb : ¬ (dR D).testBit x.1 = true := fun e => by rw [hhas, if_pos e] at w; exact one0 w
      rw [if_neg hb] at et
      have eR : h2.1 10 6 ||| (1 <<< (nI (tv 0 (.inr x)) &&& 31)) = nI (dR D ||| 2 ^ x.1) := by
        rw [hd2.2.1.1]
        show nI (dR D) ||| (1 <<< (nI x.1 &&& 31)) = _
        rw [z_1shl9 x.1 (by omega), fa_or]
      rw [eR]
      have hD2 : zDok (uR D (dR D ||| 2 ^ x.1)) := by
        obtain ⟨g1, g2, g3, g4, g5, g6, g7, g8, g9, g10, g11, g12, g13⟩ := hD
        refine ⟨g1, g2, g3, g4, g5, g6, g7, ?_, g9, g10, g11, g12, g13⟩
        exact Nat.or_lt_two_pow (n := 9) g8 (Nat.pow_lt_pow_right (by omega) (by omega))
      refine zc_rowR (h0 := h) hX (y := x.1) (fun h5 hf5 ho => ⟨rfl, hf5, ho⟩) (dW D) 0 (uR D (dR D ||| 2 ^ x.1)) x.2 _ (by show 0 + dW D = dW D; omega) (by show x.1 < dG D; omega) hD2 (hF2.fr.trans (zFr_I (by decide))) (zRd_j (by decide) hr2x) ?_ et
      obtain ⟨d1, d2, d3, d4, d5, d6, d7⟩ := hd2
      exact ⟨d1, ⟨rfl, d2.2.1, d2.2.2⟩, d3, d4, d5, d6, d7⟩
    · have hb : (dR D).testBit x.1 = true := by
        cases e : (dR D).testBit x.1
        · rw [hhas, e] at w; exact absurd rfl w
        · rfl
      rw [if_pos hb] at et
      refine ⟨_, c_Rdfail (nI 4) (nI (sk B N a)) h2, fun v h3 hp => ?_⟩
      rw [hp.1, hp.2]
      obtain ⟨g1, g2⟩ := z_fail (r := .inr x.2) (k := 4) (w := sk B N a) (by decide) (by decide) hr2x
      refine q_RdreadRow_42 (n := n + 1) _ _ ?_
      exact zc_rowF (f := (4, sk B N a)) hX (fun h5 hf5 hr5 => ⟨rfl, hf5, by rw [et]; exact hr5⟩) _ _ _ ((hF2.fr.trans g2.fr).trans (zFr_I (by decide))) (zRd_j (by decide) g1)
end SR
