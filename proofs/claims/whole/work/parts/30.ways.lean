/-! ===== ways, hearing, sharing ===== -/
/-- where a way leads; 99: nowhere -/
def zLd (W A c w : Nat) : Nat := if w = 1 then (if W ≤ c then c - W else 99) else if w = 2 then (if c % W + 1 < W then c + 1 else 99) else if w = 3 then (if c + W < A then c + W else 99) else if w = 4 then (if 0 < c % W then c - 1 else 99) else c
def zI (d : Nat) : Int32 := if d = 99 then -1 else nI d
def zLck (W G c w : Nat) : Bool := !(decide (W * G ≤ 36) && decide (c < W * G)) || (decide (f_Moled (nI W) (nI G) (nI c) (nI w) = zI (zLd W (W * G) c w)) && decide (f_Ldbeside (nI W) (nI G) (nI c) (nI w) = zI (zLd W (W * G) c w)) && (decide (zLd W (W * G) c w = 99) || decide (zLd W (W * G) c w < W * G)))
theorem z_led_all : ((List.range 10).all fun W => (List.range 10).all fun G => (List.range 36).all fun c => (List.range 5).all fun w => zLck W G c w) = true := by decide +kernel
theorem z_led {L : ZL} (hL : zLok L) {c w : Nat} (hc : c < zA L) (hw : w ≤ 4) : f_Moled (nI (zW L)) (nI (zG L)) (nI c) (nI w) = zI (zLd (zW L) (zA L) c w) ∧ f_Ldbeside (nI (zW L)) (nI (zG L)) (nI c) (nI w) = zI (zLd (zW L) (zA L) c w) ∧ (zLd (zW L) (zA L) c w = 99 ∨ zLd (zW L) (zA L) c w < zA L) := by
  have h1 := hL.1
  have h2 := hL.2.1
  have h3 := hL.2.2.1
  have q := z_led_all
  rw [List.all_eq_true] at q
  have q := q (zW L) (List.mem_range.mpr (by omega))
  rw [List.all_eq_true] at q
  have q := q (zG L) (List.mem_range.mpr (by omega))
  rw [List.all_eq_true] at q
  have q := q c (List.mem_range.mpr (by omega))
  rw [List.all_eq_true] at q
  have q := q w (List.mem_range.mpr (by omega))
  unfold zLck at q
  simp only [Bool.or_eq_true, Bool.and_eq_true, decide_eq_true_eq, Bool.not_eq_true', Bool.and_eq_false_iff, decide_eq_false_iff_not] at q
  rcases q with q | ⟨⟨q1, q2⟩, q3⟩
  · exfalso
    rcases q with q | q
    · exact q h3
    · exact q hc
  · exact ⟨q1, q2, q3⟩
theorem zI_no : zI 99 = -1 := rfl
theorem zI_in {d : Nat} (h : d < 36) : zI d = nI d ∧ ¬ zI d = -1 := by
  have e : zI d = nI d := by unfold zI; rw [if_neg (by omega)]
  exact ⟨e, by rw [e]; exact nI_neg1 (by omega)⟩
/-- where a way leads that may be gone; 99: it may not -/
def zWl (L : ZL) (K : Nat → Bool) (c w l t : Nat) : Nat := if w = 0 then c else if zLd (zW L) (zA L) c w = 99 then 99 else if zDe L K (zLd (zW L) (zA L) c w) t ≤ l then zLd (zW L) (zA L) c w else 99
theorem zWl_lt {L : ZL} (hL : zLok L) {K : Nat → Bool} {c w l t : Nat} (hc : c < zA L) (hw : w ≤ 4) : zWl L K c w l t = 99 ∨ zWl L K c w l t < zA L := by
  have h := (z_led hL hc hw).2.2
  unfold zWl
  split
  · exact Or.inr hc
  · split
    · exact Or.inl rfl
    · split
      · exact h
      · exact Or.inl rfl
theorem z_wayC {L : ZL} (hL : zLok L) {r4 r5 : Nat → Int32} (h4 : ∀ c, c < 36 → r4 c = nI (zO L c)) (h5 : ∀ t, t < zT L → r5 t = nI (zD L t)) {g : Int64} {K : Nat → Bool} (hg : zB g K) {c w l t : Nat} (hc : c < zA L) (hw : w ≤ 4) (hl : l ≤ 7) (ht : t < 2 ^ 31) : f_StwayLeads (nI (zW L)) (nI (zG L)) (nI (zT L)) g r4 r5 (nI c) (nI w) (nI l) (nI t) = zI (zWl L K c w l t) := by
  have hA := hL.2.2.1
  obtain ⟨_, e2, e3⟩ := z_led hL hc hw
  unfold f_StwayLeads zWl
  rw [e2]
  by_cases h0 : w = 0
  · rw [if_pos h0, h0, if_pos nI_0, (zI_in (by omega)).1]
  · rw [if_neg h0, if_neg (nI_ne0 (by omega) (by omega))]
    rcases e3 with e3 | e3
    · rw [e3, if_pos rfl, if_pos zI_no, zI_no]
    · obtain ⟨f1, f2⟩ := zI_in (show zLd (zW L) (zA L) c w < 36 by omega)
      rw [if_neg (show ¬ zLd (zW L) (zA L) c w = 99 by omega), if_neg f2, f1, z_depthC hL h4 h5 hg (by omega) ht]
      have hle := zDe_le hL K (c := zLd (zW L) (zA L) c w) (t := t) (by omega)
      by_cases q : zDe L K (zLd (zW L) (zA L) c w) t ≤ l
      · rw [if_pos q, if_neg (nI_nlt q (by omega)), f1]
      · rw [if_neg q, if_pos (nI_lt (by omega) (by omega)), zI_no]
theorem z_wayM {L : ZL} (hL : zLok L) {r53 r54 r56 : Nat → Int32} (h4 : ∀ c, c < 36 → r53 c = nI (zO L c)) (h5 : ∀ t, t < zT L → r54 t = nI (zD L t)) {K : Nat → Bool} (hg : ∀ c, c < 36 → r56 (26 + c) = if K c = true then 1 else 0) {c w l t : Nat} (hc : c < zA L) (hw : w ≤ 4) (hl : l ≤ 7) (ht : t < 2 ^ 31) : (zWl L K c w l t = 99 ∧ f_MomayGo (nI (zW L)) (nI (zG L)) (nI (zT L)) r53 r54 r56 (nI c) (nI w) (nI l) (nI t) = 0) ∨ (zWl L K c w l t < zA L ∧ f_MomayGo (nI (zW L)) (nI (zG L)) (nI (zT L)) r53 r54 r56 (nI c) (nI w) (nI l) (nI t) = 1 ∧ f_Moled (nI (zW L)) (nI (zG L)) (nI c) (nI w) = nI (zWl L K c w l t)) := by
  have hA := hL.2.2.1
  obtain ⟨e1, _, e3⟩ := z_led hL hc hw
  unfold f_MomayGo zWl
  rw [e1]
  by_cases h0 : w = 0
  · right
    rw [if_pos h0, h0, if_pos nI_0]
    exact ⟨hc, rfl, by show zI c = nI c; exact (zI_in (by omega)).1⟩
  · rw [if_neg h0, if_neg (nI_ne0 (by omega) (by omega))]
    rcases e3 with e3 | e3
    · left
      rw [e3, if_pos rfl, if_pos zI_no]
      exact ⟨rfl, rfl⟩
    · obtain ⟨f1, f2⟩ := zI_in (show zLd (zW L) (zA L) c w < 36 by omega)
      rw [if_neg (show ¬ zLd (zW L) (zA L) c w = 99 by omega), if_neg f2, f1, z_depthM hL h4 h5 hg (by omega) ht]
      have hle := zDe_le hL K (c := zLd (zW L) (zA L) c w) (t := t) (by omega)
      by_cases q : zDe L K (zLd (zW L) (zA L) c w) t ≤ l
      · right
        rw [if_pos q, if_neg (nI_nlt q (by omega))]
        exact ⟨e3, rfl, rfl⟩
      · left
        rw [if_neg q, if_pos (nI_lt (by omega) (by omega))]
        exact ⟨rfl, rfl⟩
/-- rows that change from the front -/
def mx (m : Nat) (f g : Nat → Nat) : Nat → Nat := fun i => if i < m then f i else g i
def mz (m v : Nat) (f g : Nat → Nat) : Nat → Nat := fun i => if i < m then f i else if i = m then v else g i
def up1 (m v : Nat) (g : Nat → Nat) : Nat → Nat := fun i => if i = m then v else g i
theorem mx_0 (f g : Nat → Nat) : mx 0 f g = g := by funext i; unfold mx; rw [if_neg (by omega)]
theorem mz_b (m : Nat) (f g : Nat → Nat) : mz m (g m) f g = mx m f g := by
  funext i; unfold mz mx
  by_cases h : i < m
  · rw [if_pos h, if_pos h]
  · rw [if_neg h, if_neg h]
    by_cases q : i = m
    · rw [if_pos q, q]
    · rw [if_neg q]
theorem mz_e (m : Nat) (f g : Nat → Nat) : mz m (f m) f g = mx (m + 1) f g := by
  funext i; unfold mz mx
  by_cases h : i < m
  · rw [if_pos h, if_pos (by omega)]
  · rw [if_neg h]
    by_cases q : i = m
    · rw [if_pos q, if_pos (by omega), q]
    · rw [if_neg q, if_neg (by omega)]
theorem mz_u (m v v' : Nat) (f g : Nat → Nat) : up1 m v' (mz m v f g) = mz m v' f g := by
  funext i; unfold mz up1
  by_cases h : i < m
  · rw [if_neg (show ¬ i = m by omega), if_pos h]; exact if_pos h
  · by_cases q : i = m
    · rw [if_pos q, if_neg h, if_pos q]
    · rw [if_neg q, if_neg h, if_neg q]; dsimp only; rw [if_neg h, if_neg q]
theorem mx_u (m : Nat) (f g : Nat → Nat) : up1 m (f m) (mx m f g) = mx (m + 1) f g := by
  rw [← mz_b, mz_u, mz_e]
theorem mx_at {m : Nat} {f g : Nat → Nat} : mx m f g m = g m := by unfold mx; rw [if_neg (by omega)]
def sHo (S : ZS) (t : Nat) : ZS := ((t, S.1.2), S.2)
def sCe (S : ZS) (f : Nat → Nat) : ZS := (S.1, S.2.1, f, S.2.2.2)
def sKn (S : ZS) (f : Nat → Nat) : ZS := (S.1, S.2.1, S.2.2.1, S.2.2.2.1, f, S.2.2.2.2.2)
def sWe (S : ZS) (f : Nat → Nat) : ZS := (S.1, S.2.1, S.2.2.1, S.2.2.2.1, S.2.2.2.2.1, f, S.2.2.2.2.2.2)
def sOf (S : ZS) (f : Nat → Nat) : ZS := (S.1, S.2.1, S.2.2.1, S.2.2.2.1, S.2.2.2.2.1, S.2.2.2.2.2.1, f)
theorem updn {r : Nat → Int32} {F : Nat → Nat} {m v i : Nat} (hr : r i = nI (F i)) : upd r m (nI v) i = nI (up1 m v F i) := by
  unfold up1
  by_cases q : i = m
  · rw [if_pos q, q, upd_eq]
  · rw [if_neg q, upd_ne q, hr]
theorem zCs_ce {L : ZL} {S : ZS} {h : HP} (q : zCs L S 18 h) (m v : Nat) : zCs L (sCe S (up1 m v (zCe S))) 18 (jPI h 19 m (nI v)) :=
  ⟨q.1, q.2.1, q.2.2.1, fun i hi => by
    obtain ⟨a, b, c, d, e⟩ := q.2.2.2 i hi
    exact ⟨updn a, b, c, d, e⟩⟩
theorem zCs_kn {L : ZL} {S : ZS} {h : HP} (q : zCs L S 18 h) (m v : Nat) : zCs L (sKn S (up1 m v (zKn S))) 18 (jPI h 21 m (nI v)) :=
  ⟨q.1, q.2.1, q.2.2.1, fun i hi => by
    obtain ⟨a, b, c, d, e⟩ := q.2.2.2 i hi
    exact ⟨a, b, updn c, d, e⟩⟩
theorem zCs_we {L : ZL} {S : ZS} {h : HP} (q : zCs L S 18 h) (m v : Nat) : zCs L (sWe S (up1 m v (zWe S))) 18 (jPI h 22 m (nI v)) :=
  ⟨q.1, q.2.1, q.2.2.1, fun i hi => by
    obtain ⟨a, b, c, d, e⟩ := q.2.2.2 i hi
    exact ⟨a, b, c, updn d, e⟩⟩
theorem zCs_or {L : ZL} {S : ZS} {h : HP} (q : zCs L S 18 h) (m v : Nat) : zCs L (sOf S (up1 m v (zOr S))) 18 (jPI h 23 m (nI v)) :=
  ⟨q.1, q.2.1, q.2.2.1, fun i hi => by
    obtain ⟨a, b, c, d, e⟩ := q.2.2.2 i hi
    exact ⟨a, b, c, d, updn e⟩⟩
theorem updw {r : Nat → Int32} {F : Nat → Nat} {m v i o : Nat} (hr : r (o + 6 * i) = nI (F i)) : upd r (o + 6 * m) (nI v) (o + 6 * i) = nI (up1 m v F i) := by
  unfold up1
  by_cases q : i = m
  · rw [if_pos q, q, upd_eq]
  · rw [if_neg q, upd_ne (by omega), hr]
theorem zMs_kn {L : ZL} {S : ZS} {r : Nat → Int32} (hr : zMs L S r) {m : Nat} (hm : m < 4) (v : Nat) : zMs L (sKn S (up1 m v (zKn S))) (upd r (5 + 6 * m) (nI v)) := by
  obtain ⟨h1, h2, h3, h4⟩ := hr
  refine ⟨by rw [upd_ne (by omega)]; exact h1, by rw [upd_ne (by omega)]; exact h2, fun c hc => by rw [upd_ne (by omega)]; exact h3 c hc, fun i hi => ?_⟩
  obtain ⟨a, b, c, d, e, f⟩ := h4 i hi
  exact ⟨by rw [upd_ne (by omega)]; exact a, by rw [upd_ne (by omega)]; exact b, by rw [upd_ne (by omega)]; exact c, updw d, by rw [upd_ne (by omega)]; exact e, by rw [upd_ne (by omega)]; exact f⟩
theorem zMs_we {L : ZL} {S : ZS} {r : Nat → Int32} (hr : zMs L S r) {m : Nat} (hm : m < 4) (v : Nat) : zMs L (sWe S (up1 m v (zWe S))) (upd r (6 + 6 * m) (nI v)) := by
  obtain ⟨h1, h2, h3, h4⟩ := hr
  refine ⟨by rw [upd_ne (by omega)]; exact h1, by rw [upd_ne (by omega)]; exact h2, fun c hc => by rw [upd_ne (by omega)]; exact h3 c hc, fun i hi => ?_⟩
  obtain ⟨a, b, c, d, e, f⟩ := h4 i hi
  exact ⟨by rw [upd_ne (by omega)]; exact a, by rw [upd_ne (by omega)]; exact b, by rw [upd_ne (by omega)]; exact c, by rw [upd_ne (by omega)]; exact d, updw e, by rw [upd_ne (by omega)]; exact f⟩
theorem zMs_of {L : ZL} {S : ZS} {r : Nat → Int32} (hr : zMs L S r) {m : Nat} (hm : m < 4) (v : Nat) : zMs L (sOf S (up1 m v (zOr S))) (upd r (7 + 6 * m) (nI v)) := by
  obtain ⟨h1, h2, h3, h4⟩ := hr
  refine ⟨by rw [upd_ne (by omega)]; exact h1, by rw [upd_ne (by omega)]; exact h2, fun c hc => by rw [upd_ne (by omega)]; exact h3 c hc, fun i hi => ?_⟩
  obtain ⟨a, b, c, d, e, f⟩ := h4 i hi
  exact ⟨by rw [upd_ne (by omega)]; exact a, by rw [upd_ne (by omega)]; exact b, by rw [upd_ne (by omega)]; exact c, by rw [upd_ne (by omega)]; exact d, by rw [upd_ne (by omega)]; exact e, updw f⟩
theorem zMs_ce {L : ZL} {S : ZS} {r : Nat → Int32} (hr : zMs L S r) {m : Nat} (hm : m < 4) (v : Nat) : zMs L (sCe S (up1 m v (zCe S))) (upd (upd r (2 + 6 * m) (nI (v % zW L))) (3 + 6 * m) (nI (v / zW L))) := by
  obtain ⟨h1, h2, h3, h4⟩ := hr
  refine ⟨by rw [upd_ne (by omega), upd_ne (by omega)]; exact h1, by rw [upd_ne (by omega), upd_ne (by omega)]; exact h2, fun c hc => by rw [upd_ne (by omega), upd_ne (by omega)]; exact h3 c hc, fun i hi => ?_⟩
  obtain ⟨a, b, c, d, e, f⟩ := h4 i hi
  refine ⟨?_, ?_, by rw [upd_ne (by omega), upd_ne (by omega)]; exact c, by rw [upd_ne (by omega), upd_ne (by omega)]; exact d, by rw [upd_ne (by omega), upd_ne (by omega)]; exact e, by rw [upd_ne (by omega), upd_ne (by omega)]; exact f⟩
  · rw [upd_ne (by omega)]
    show _ = nI (up1 m v (zCe S) i % zW L)
    unfold up1
    by_cases q : i = m
    · rw [if_pos q, q, upd_eq]
    · rw [if_neg q, upd_ne (by omega), a]
  · show _ = nI (up1 m v (zCe S) i / zW L)
    unfold up1
    by_cases q : i = m
    · rw [if_pos q, q, upd_eq]
    · rw [if_neg q, upd_ne (by omega), upd_ne (by omega), b]
theorem zMs_ho {L : ZL} {S : ZS} {r : Nat → Int32} (hr : zMs L S r) (v : Nat) : zMs L (sHo S v) (upd r 0 (nI v)) := by
  obtain ⟨h1, h2, h3, h4⟩ := hr
  refine ⟨upd_eq, by rw [upd_ne (by omega)]; exact h2, fun c hc => by rw [upd_ne (by omega)]; exact h3 c hc, fun i hi => ?_⟩
  obtain ⟨a, b, c, d, e, f⟩ := h4 i hi
  exact ⟨by rw [upd_ne (by omega)]; exact a, by rw [upd_ne (by omega)]; exact b, by rw [upd_ne (by omega)]; exact c, by rw [upd_ne (by omega)]; exact d, by rw [upd_ne (by omega)]; exact e, by rw [upd_ne (by omega)]; exact f⟩
theorem zMs_knc {L : ZL} {S : ZS} {F G : Nat → Nat} {r : Nat → Int32} (hr : zMs L (sKn S F) r) (h : ∀ i, i < zM L → F i = G i) : zMs L (sKn S G) r := by
  obtain ⟨h1, h2, h3, h4⟩ := hr
  refine ⟨h1, h2, h3, fun i hi => ?_⟩
  obtain ⟨a, b, c, d, e, f⟩ := h4 i hi
  exact ⟨a, b, c, by rw [d]; exact congrArg nI (h i hi), e, f⟩
/-- frames -/
theorem zCl_fr {L : ZL} {b : List Nat} {h h2 : HP} (hf : zFr b h h2) (hb : 3 ∉ b ∧ 4 ∉ b ∧ 5 ∉ b ∧ 8 ∉ b ∧ 9 ∉ b) (q : zCl L h) : zCl L h2 :=
  zCl_c (hf 3 hb.1).1 (hf 3 hb.1).2 (hf 4 hb.2.1).1 (hf 5 hb.2.2.1).1 (hf 8 hb.2.2.2.1).1 (hf 9 hb.2.2.2.2).2 q
theorem zMl_fr {L : ZL} {b : List Nat} {h h2 : HP} (hf : zFr b h h2) (hb : 52 ∉ b ∧ 53 ∉ b ∧ 54 ∉ b ∧ 55 ∉ b) (q : zMl L h) : zMl L h2 :=
  zMl_c (fun i _ => by rw [(hf 52 hb.1).1]) (hf 53 hb.2.1).1 (hf 54 hb.2.2.1).1 (hf 55 hb.2.2.2).1 q
/-- what a man hears at a cell -/
def zHe (L : ZL) (c a : Nat) : Nat → Nat
  | 0 => a
  | k + 1 => if c = zP L k then zHe L c a k ||| 2 ^ k else zHe L c a k
def zHear (L : ZL) (S : ZS) : ZS := sKn S (mx (zM L) (fun m => zHe L (zCe S m) (zKn S m) (zN L)) (zKn S))
def zShare (L : ZL) (S : ZS) : ZS := sKn S (mx (zM L) (fun m => zKa (zCe S) (zKn S) (zCe S m) (zM L)) (zKn S))
theorem z_1shl : ∀ k, k < 4 → (1 : Int32) <<< (nI k &&& 31) = nI (2 ^ k) := by decide +kernel
theorem zKa_bit {ce kn : Nat → Nat} {c t : Nat} : ∀ M, (zKa ce kn c M).testBit t = true ↔ ∃ i, i < M ∧ ce i = c ∧ (kn i).testBit t = true
  | 0 => by
    unfold zKa
    rw [Nat.zero_testBit]
    exact ⟨fun h => (by cases h), fun ⟨i, h, _⟩ => absurd h (by omega)⟩
  | M + 1 => by
    have ih := zKa_bit (ce := ce) (kn := kn) (c := c) (t := t) M
    unfold zKa
    by_cases h : ce M = c
    · rw [if_pos h, Nat.testBit_or, Bool.or_eq_true, ih]
      constructor
      · rintro (⟨i, h1, h2⟩ | h1)
        · exact ⟨i, by omega, h2⟩
        · exact ⟨M, by omega, h, h1⟩
      · rintro ⟨i, h1, h2, h3⟩
        by_cases q : i = M
        · right; rw [← q]; exact h3
        · left; exact ⟨i, by omega, h2, h3⟩
    · rw [if_neg h, ih]
      constructor
      · rintro ⟨i, h1, h2⟩
        exact ⟨i, by omega, h2⟩
      · rintro ⟨i, h1, h2, h3⟩
        have q : i ≠ M := fun q => h (q ▸ h2)
        exact ⟨i, by omega, h2, h3⟩
theorem nat_bits {a b : Nat} (h1 : ∀ t, a.testBit t = true → b.testBit t = true) (h2 : ∀ t, b.testBit t = true → a.testBit t = true) : a = b := by
  apply Nat.eq_of_testBit_eq
  intro t
  rw [Bool.eq_iff_iff]
  exact ⟨h1 t, h2 t⟩
theorem z_shmix {ce kn : Nat → Nat} {M : Nat} (m c : Nat) : zKa ce (mx m (fun i => zKa ce kn (ce i) M) kn) c M = zKa ce kn c M := by
  apply nat_bits
  · intro t h
    obtain ⟨i, h1, h2, h3⟩ := (zKa_bit M).mp h
    unfold mx at h3
    by_cases q : i < m
    · rw [if_pos q] at h3; dsimp only at h3; rw [h2] at h3; exact h3
    · rw [if_neg q] at h3
      exact (zKa_bit M).mpr ⟨i, h1, h2, h3⟩
  · intro t h
    obtain ⟨i, h1, h2, h3⟩ := (zKa_bit M).mp h
    refine (zKa_bit M).mpr ⟨i, h1, h2, ?_⟩
    unfold mx
    by_cases q : i < m
    · rw [if_pos q]; exact (zKa_bit M).mpr ⟨i, h1, rfl, h3⟩
    · rw [if_neg q]; exact h3
section HS
variable {E : jEnv} {n : Nat} {X : State → Prop} {P : Option Value → HP → Prop} {L : ZL} {S : ZS}
theorem zc_share (hL : zLok L) (hCe : ∀ m, m < zM L → zCe S m < 36) {h0 : HP} (hCl : zCl L h0) (kx : ∀ h, zFr [21] h0 h → zCs L (zShare L S) 18 h → P none h) : ∀ (k m : Nat) (h : HP), m + k = zM L → zFr [21] h0 h → zCs L (sKn S (mx m (fun m => zKa (zCe S) (zKn S) (zCe S m) (zM L)) (zKn S))) 18 h → jG E mX5_hearAndShare (n + 1) X P 70 [some (.ref 18), some (.int (nI m)), none] [] h := by
  have hM : zM L ≤ 4 := hL.2.2.2.2.2.1
  intro k
  induction k with
  | zero =>
    intro m h hm hf hs
    obtain rfl : m = zM L := by omega
    have e3 : h.1 3 3 = nI (zM L) := (zCl_fr hf (by decide) hCl).1.2.2.2.1
    have hle : h.1 3 3 ≤ nI (zM L) := by rw [e3]; exact Int32.le_refl _
    exact q_SthearAndShare_70 _ h (fun _ => kx h hf hs) (fun c => absurd hle c) (fun c => absurd hle c)
  | succ k ih =>
    intro m h hm hf hs
    have e3 : h.1 3 3 = nI (zM L) := (zCl_fr hf (by decide) hCl).1.2.2.2.1
    have hlt : ¬ h.1 3 3 ≤ nI m := by rw [e3]; exact nI_ge (by omega) (by omega)
    have hcl : (nI m).toNatClampNeg = m := nI_clamp (by omega)
    refine q_SthearAndShare_70 _ h (fun c => absurd c hlt) (fun _ => z_vp (by omega) (by omega)) (fun _ => ?_)
    have e19 : h.1 19 m = nI (zCe S m) := (hs.2.2.2 m (by omega)).1
    have hc36 := hCe m (by omega)
    rw [hcl, e19]
    refine ⟨_, c_StknownAt hM (c := zCe S m) (by omega) h e3 (fun i hi => ⟨(hs.2.2.2 i hi).1, by have := hCe i hi; show zCe S i < 2 ^ 31; omega⟩) (fun i hi => (hs.2.2.2 i hi).2.2.1), fun v h2 hp => ?_⟩
    rw [hp.1, hp.2]
    refine q_SthearAndShare_96 _ _ _ h (z_vp (by omega) (by omega)) ?_
    rw [hcl, nI_1]
    refine ih (m + 1) _ (by omega) (hf.trans (zFr_I (by decide))) ?_
    have hw := zCs_kn hs m (zKa (zCe S) (zKn S) (zCe S m) (zM L))
    have e : zKa (zCe S) (mx m (fun m => zKa (zCe S) (zKn S) (zCe S m) (zM L)) (zKn S)) (zCe S m) (zM L) = zKa (zCe S) (zKn S) (zCe S m) (zM L) := z_shmix m _
    rw [← mx_u]
    show zCs L (sKn S (up1 m (zKa (zCe S) (zKn S) (zCe S m) (zM L)) (mx m (fun m => zKa (zCe S) (zKn S) (zCe S m) (zM L)) (zKn S)))) 18 (jPI h 21 m (nI (zKa (zCe S) (mx m (fun m => zKa (zCe S) (zKn S) (zCe S m) (zM L)) (zKn S)) (zCe S m) (zM L))))
    rw [e]
    exact hw
theorem zc_hear1 (hL : zLok L) (hCe : ∀ m, m < zM L → zCe S m < 36) {h0 : HP} (hCl : zCl L h0) {m : Nat} (hm : m < zM L) (kx : ∀ h, zFr [21] h0 h → zCs L (sKn S (mx (m + 1) (fun m => zHe L (zCe S m) (zKn S m) (zN L)) (zKn S))) 18 h → jG E mX5_hearAndShare (n + 1) X P 2 [some (.ref 18), some (.int (nI (m + 1))), none] [] h) : ∀ (k q : Nat) (h : HP), q + k = zN L → zFr [21] h0 h → zCs L (sKn S (mz m (zHe L (zCe S m) (zKn S m) q) (fun m => zHe L (zCe S m) (zKn S m) (zN L)) (zKn S))) 18 h → jG E mX5_hearAndShare (n + 1) X P 15 [some (.ref 18), some (.int (nI m)), some (.int (nI q))] [] h := by
  have hM : zM L ≤ 4 := hL.2.2.2.2.2.1
  have hN : zN L ≤ 4 := hL.2.2.2.2.2.2.1
  have hA := hL.2.2.1
  have hcl : (nI m).toNatClampNeg = m := nI_clamp (by omega)
  intro k
  induction k with
  | zero =>
    intro q h hq hf hs
    obtain rfl : q = zN L := by omega
    have e4 : h.1 3 4 = nI (zN L) := (zCl_fr hf (by decide) hCl).1.2.2.2.2.1
    have hle : h.1 3 4 ≤ nI (zN L) := by rw [e4]; exact Int32.le_refl _
    refine q_SthearAndShare_15 _ _ h (fun _ => ?_) (fun c => absurd hle c) (fun c => absurd hle c) (fun c => absurd hle c) (fun c => absurd hle c) (fun c => absurd hle c) (fun c => absurd hle c)
    rw [nI_1]
    refine kx h hf ?_
    rw [← mz_e]
    exact hs
  | succ k ih =>
    intro q h hq hf hs
    have hCl' := zCl_fr hf (by decide) hCl
    have e4 : h.1 3 4 = nI (zN L) := hCl'.1.2.2.2.2.1
    have hlt : ¬ h.1 3 4 ≤ nI q := by rw [e4]; exact nI_ge (by omega) (by omega)
    have hcq : (nI q).toNatClampNeg = q := nI_clamp (by omega)
    have e19 : h.1 19 m = nI (zCe S m) := (hs.2.2.2 m hm).1
    have e21 : h.1 21 m = nI (zHe L (zCe S m) (zKn S m) q) := by
      have := (hs.2.2.2 m hm).2.2.1
      show h.1 (18 + 3) m = _
      rw [this]
      show nI (mz m (zHe L (zCe S m) (zKn S m) q) (fun m => zHe L (zCe S m) (zKn S m) (zN L)) (zKn S) m) = _
      unfold mz
      rw [if_neg (by omega), if_pos rfl]
    have e8 : h.1 8 q = nI (zP L q) := hCl'.2.2.2.1 q (by omega)
    have hp36 := hL.2.2.2.2.2.2.2.2.2.2.2 q (by omega)
    have hc36 := hCe m hm
    have hv : vp_in (nI m) 4 := z_vp (by omega) (by omega)
    refine q_SthearAndShare_15 _ _ h (fun c => absurd c hlt) (fun _ => hv) (fun _ => z_vp (by omega) (by omega)) (fun _ _ => hv) (fun _ _ => hv) (fun _ w => ?_) (fun _ w => ?_)
    · rw [hcl, hcq, e19, e8] at w
      have w' := (nI_eq (by omega) (by omega)).mp w
      rw [hcl, e21, z_1shl q (by omega), fa_or, nI_1]
      refine ih (q + 1) _ (by omega) (hf.trans (zFr_I (by decide))) ?_
      have hw := zCs_kn hs m (zHe L (zCe S m) (zKn S m) (q + 1))
      rw [show zKn (sKn S (mz m (zHe L (zCe S m) (zKn S m) q) (fun m => zHe L (zCe S m) (zKn S m) (zN L)) (zKn S))) = mz m (zHe L (zCe S m) (zKn S m) q) (fun m => zHe L (zCe S m) (zKn S m) (zN L)) (zKn S) from rfl, mz_u] at hw
      have e : zHe L (zCe S m) (zKn S m) (q + 1) = zHe L (zCe S m) (zKn S m) q ||| 2 ^ q := by
        show (if _ then _ else _) = _
        rw [if_pos w']
      rw [← e]
      exact hw
    · rw [hcl, hcq, e19, e8] at w
      have w' : ¬ zCe S m = zP L q := fun r => w (by rw [r])
      rw [nI_1]
      refine ih (q + 1) _ (by omega) hf ?_
      have e : zHe L (zCe S m) (zKn S m) (q + 1) = zHe L (zCe S m) (zKn S m) q := by
        show (if _ then _ else _) = _
        rw [if_neg w']
      rw [e]
      exact hs
theorem zc_hear (hL : zLok L) (hCe : ∀ m, m < zM L → zCe S m < 36) {h0 : HP} (hCl : zCl L h0) (kx : ∀ h, zFr [21] h0 h → zCs L (zHear L S) 18 h → jG E mX5_hearAndShare (n + 1) X P 70 [some (.ref 18), some (.int 0), none] [] h) : ∀ (k m : Nat) (h : HP), m + k = zM L → zFr [21] h0 h → zCs L (sKn S (mx m (fun m => zHe L (zCe S m) (zKn S m) (zN L)) (zKn S))) 18 h → jG E mX5_hearAndShare (n + 1) X P 2 [some (.ref 18), some (.int (nI m)), none] [] h := by
  have hM : zM L ≤ 4 := hL.2.2.2.2.2.1
  intro k
  induction k with
  | zero =>
    intro m h hm hf hs
    obtain rfl : m = zM L := by omega
    have e3 : h.1 3 3 = nI (zM L) := (zCl_fr hf (by decide) hCl).1.2.2.2.1
    have hle : h.1 3 3 ≤ nI (zM L) := by rw [e3]; exact Int32.le_refl _
    exact q_SthearAndShare_2 _ h (fun _ => kx h hf hs) (fun c => absurd hle c)
  | succ k ih =>
    intro m h hm hf hs
    have e3 : h.1 3 3 = nI (zM L) := (zCl_fr hf (by decide) hCl).1.2.2.2.1
    have hlt : ¬ h.1 3 3 ≤ nI m := by rw [e3]; exact nI_ge (by omega) (by omega)
    refine q_SthearAndShare_2 _ h (fun c => absurd c hlt) (fun _ => ?_)
    refine zc_hear1 hL hCe hCl (by omega) (fun h' hf' hs' => ih (m + 1) h' (by omega) hf' hs') (zN L) 0 h (by omega) hf ?_
    show zCs L (sKn S (mz m (zKn S m) _ (zKn S))) 18 h
    rw [mz_b]
    exact hs
theorem c_SthearAndShare (hL : zLok L) (hCe : ∀ m, m < zM L → zCe S m < 36) (h : HP) (hCl : zCl L h) (hs : zCs L S 18 h) : jC E mX5_hearAndShare (n + 1) [.ref 18] h (fun v h2 => v = none ∧ zFr [21] h h2 ∧ zCs L (zShare L (zHear L S)) 18 h2) := by
  refine jC.of (lv := [some (.ref 18), none, none]) (by decide) (Nat.le_of_ble_eq_true rfl) ⟨rfl, trivial⟩ (q_SthearAndShare_0 h ?_)
  refine zc_hear hL hCe hCl (fun h1 hf1 hs1 => ?_) (zM L) 0 h (by omega) (zFr.refl _ h) (by rw [mx_0]; exact hs)
  refine zc_share (S := zHear L S) hL hCe hCl (fun h2 hf2 hs2 => ⟨rfl, hf2, hs2⟩) (zM L) 0 h1 (by omega) hf1 (by rw [mx_0]; exact hs1)
end HS
