/-! ===== the model's reader: tokens ===== -/
def zY (B : Nat → Nat) (N : Nat) (h : HP) : Prop := N ≤ 500 ∧ h.1 52 18 = nI N ∧ ∀ i, i < N → B i < 256 ∧ h.1 61 i = nI (B i)
def zF52 (l : List Nat) (h h2 : HP) : Prop := zFr [52] h h2 ∧ ∀ i, i ∉ l → h2.1 52 i = h.1 52 i
theorem zF52.refl (l : List Nat) (h : HP) : zF52 l h h := ⟨zFr.refl _ h, fun _ _ => rfl⟩
theorem zF52.trans {l : List Nat} {h h2 h3 : HP} (p : zF52 l h h2) (q : zF52 l h2 h3) : zF52 l h h3 := ⟨p.1.trans q.1, fun i hi => (q.2 i hi).trans (p.2 i hi)⟩
theorem zF52.sub {l l' : List Nat} {h h2 : HP} (p : zF52 l h h2) (hs : ∀ i, i ∈ l → i ∈ l') : zF52 l' h h2 := ⟨p.1, fun i hi => p.2 i (fun q => hi (hs i q))⟩
theorem zF52_I {l : List Nat} {h : HP} {j : Nat} {x : Int32} (hj : j ∈ l) : zF52 l h (jPI h 52 j x) := ⟨zFr_I (by decide), fun i hi => upd_ne (fun e => hi (e ▸ hj))⟩
theorem zY_52 {B : Nat → Nat} {N : Nat} {l : List Nat} {h h2 : HP} (hf : zF52 l h h2) (hl : 18 ∉ l) (q : zY B N h) : zY B N h2 := by
  unfold zY
  rw [hf.2 18 hl, (hf.1 61 (by decide)).1]
  exact q
section TOK
variable (B : Nat → Nat) (N : Nat)
def tk (s : Nat) : Nat := if s < N then (if cod B s (lt B N s) < 6 then 5 + cod B s (lt B N s) else if bFg B s = true then 2 else if B s = 59 then 3 else if B s = 44 then 4 else 1) else 0
def nx (s : Nat) : Nat := if s < N then (if bLt B s = true then lt B N s else if bFg B s = true then fg B N s else s + 1) else s
def mv (s : Nat) : Nat := if 3 < fg B N s - s then 9999 else vl B s (fg B N s - s)
def zTk (s : Nat) (h : HP) : Prop := h.1 52 20 = nI s ∧ h.1 52 21 = nI (tk B N s) ∧ h.1 52 19 = nI (nx B N s) ∧ (tk B N s = 2 → h.1 52 22 = nI (mv B N s))
/-- a word as a number -/
def wn (s : Nat) : Nat → Nat
  | 0 => 0
  | k + 1 => 32 * wn s k + (B (s + k) - 96)
end TOK
theorem z_isAt {B : Nat → Nat} {N : Nat} {h : HP} (q : zY B N h) {a lo hi : Nat} (ha : a ≤ N) (hlo : lo < 1000) (hhi : hi < 1000) (h19 : h.1 52 19 = nI a) : f_MoisAt (h.1 52 18) (h.1 52 19) (h.1 61) (nI lo) (nI hi) = if a < N ∧ lo ≤ B a ∧ B a ≤ hi then 1 else 0 := by
  have hN := q.1
  unfold f_MoisAt
  rw [q.2.1, h19]
  by_cases e : a < N
  · obtain ⟨b1, b2⟩ := q.2.2 a e
    rw [if_neg (nI_ge e (by omega)), nI_clamp (by omega), b2, z_Moin, z_l, z_l, z_l, nI_toInt (by omega), nI_toInt (by omega), nI_toInt (by omega)]
    by_cases w : lo ≤ B a ∧ B a ≤ hi
    · rw [if_pos (show ((lo : Nat) : Int) ≤ ((B a : Nat) : Int) ∧ ((B a : Nat) : Int) ≤ ((hi : Nat) : Int) by omega), if_neg one0, if_pos ⟨e, w⟩]
    · rw [if_neg (show ¬ (((lo : Nat) : Int) ≤ ((B a : Nat) : Int) ∧ ((B a : Nat) : Int) ≤ ((hi : Nat) : Int)) by omega), if_pos rfl, if_neg (fun q => w q.2)]
  · rw [if_pos ((nI_leI (by omega) (by omega)).mpr (by omega)), if_neg (fun q => e q.1)]
theorem z_vin {B : Nat → Nat} {N : Nat} {h : HP} (q : zY B N h) {a : Nat} (ha : a ≤ N) (h19 : h.1 52 19 = nI a) : (¬ (h.1 52 18) ≤ (h.1 52 19)) → vp_in (h.1 52 19) 500 := fun w => by
  have hN := q.1
  rw [q.2.1, h19] at w
  rw [h19]
  have : a < N := by
    rcases Nat.lt_or_ge a N with e | e
    · exact e
    · exact absurd ((nI_leI (by omega) (by omega)).mpr e) w
  exact z_vp (by omega) (by omega)
theorem wn_bnd {B : Nat → Nat} {s : Nat} : ∀ k, (∀ i, i < k → B (s + i) ≤ 122) → wn B s k < 32 ^ k
  | 0, _ => Nat.one_pos
  | k + 1, h => by
    have ih := wn_bnd k (fun i hi => h i (by omega))
    have := h k (by omega)
    show 32 * wn B s k + (B (s + k) - 96) < 32 ^ (k + 1)
    rw [Nat.pow_succ]
    omega
theorem z_verb {w : Nat} (hw : w < 2 ^ 31) : f_MoverbOf (lN w) = if w = 394692 then 0 else if w = 18935 then 1 else if w = 664709 then 2 else if w = 13358 then 3 else if w = 464627 then 4 else if w = 102355333 then 5 else -1 := by
  have e : ∀ c : Nat, c < 2 ^ 31 → (lg_cmp (lN w) (lN c) = 0 ↔ w = c) := fun c hc => by rw [lg_cmp0]; exact lN_eq hw hc
  unfold f_MoverbOf
  rw [show (394692 : Int64) = lN 394692 from rfl, show (18935 : Int64) = lN 18935 from rfl, show (664709 : Int64) = lN 664709 from rfl, show (13358 : Int64) = lN 13358 from rfl, show (464627 : Int64) = lN 464627 from rfl, show (102355333 : Int64) = lN 102355333 from rfl]
  simp only [e 394692 (by omega), e 18935 (by omega), e 664709 (by omega), e 13358 (by omega), e 464627 (by omega), e 102355333 (by omega)]
  repeat' split
  all_goals first | rfl | (exfalso; omega)
theorem wn_open {B : Nat → Nat} {s : Nat} : wn B s 1 = B s - 96 ∧ wn B s 2 = 32 * (B s - 96) + (B (s + 1) - 96) ∧ wn B s 3 = 32 * (32 * (B s - 96) + (B (s + 1) - 96)) + (B (s + 2) - 96) ∧ wn B s 4 = 32 * (32 * (32 * (B s - 96) + (B (s + 1) - 96)) + (B (s + 2) - 96)) + (B (s + 3) - 96) ∧ wn B s 5 = 32 * (32 * (32 * (32 * (B s - 96) + (B (s + 1) - 96)) + (B (s + 2) - 96)) + (B (s + 3) - 96)) + (B (s + 4) - 96) ∧ wn B s 6 = 32 * (32 * (32 * (32 * (32 * (B s - 96) + (B (s + 1) - 96)) + (B (s + 2) - 96)) + (B (s + 3) - 96)) + (B (s + 4) - 96)) + (B (s + 5) - 96) := by
  have e1 : wn B s 1 = B s - 96 := by
    show 32 * 0 + (B (s + 0) - 96) = _
    rw [Nat.add_zero, Nat.mul_zero, Nat.zero_add]
  have e2 : wn B s 2 = 32 * wn B s 1 + (B (s + 1) - 96) := rfl
  have e3 : wn B s 3 = 32 * wn B s 2 + (B (s + 2) - 96) := rfl
  have e4 : wn B s 4 = 32 * wn B s 3 + (B (s + 3) - 96) := rfl
  have e5 : wn B s 5 = 32 * wn B s 4 + (B (s + 4) - 96) := rfl
  have e6 : wn B s 6 = 32 * wn B s 5 + (B (s + 5) - 96) := rfl
  rw [e6, e5, e4, e3, e2, e1]
  exact ⟨rfl, rfl, rfl, rfl, rfl, rfl⟩
theorem wd_iff0 {B : Nat → Nat} {s k : Nat} (h1 : 1 ≤ k) (h6 : k ≤ 6) (hb : ∀ i, i < k → 97 ≤ B (s + i) ∧ B (s + i) ≤ 122) : wn B s k = 394692 ↔ isW B 0 s (s + k) = true := by
  obtain ⟨o1, o2, o3, o4, o5, o6⟩ := wn_open (B := B) (s := s)
  have mid : wn B s k = 394692 ↔ k = 4 ∧ (B s = 108 ∧ B (s + 1) = 97 ∧ B (s + 2) = 110 ∧ B (s + 3) = 100) := by
    have hk : k = 1 ∨ k = 2 ∨ k = 3 ∨ k = 4 ∨ k = 5 ∨ k = 6 := by omega
    have b0 := hb 0 (by omega)
    rw [Nat.add_zero] at b0
    rcases hk with rfl | rfl | rfl | rfl | rfl | rfl
    · rw [o1]; omega
    · have b1 := hb 1 (by omega)
      rw [o2]; omega
    · have b1 := hb 1 (by omega)
      have b2 := hb 2 (by omega)
      rw [o3]; omega
    · have b1 := hb 1 (by omega)
      have b2 := hb 2 (by omega)
      have b3 := hb 3 (by omega)
      rw [o4]; omega
    · have b1 := hb 1 (by omega)
      have b2 := hb 2 (by omega)
      have b3 := hb 3 (by omega)
      have b4 := hb 4 (by omega)
      rw [o5]; omega
    · have b1 := hb 1 (by omega)
      have b2 := hb 2 (by omega)
      have b3 := hb 3 (by omega)
      have b4 := hb 4 (by omega)
      have b5 := hb 5 (by omega)
      rw [o6]; omega
  rw [mid]
  unfold isW
  rw [Bool.and_eq_true, decide_eq_true_eq, List.all_eq_true]
  constructor
  · rintro ⟨q1, c0, c1, c2, c3⟩
    refine ⟨by show s + k - s = 4; omega, fun j hj => decide_eq_true ?_⟩
    have hj' : j < 4 := List.mem_range.mp hj
    have : j = 0 ∨ j = 1 ∨ j = 2 ∨ j = 3 := by omega
    rcases this with rfl | rfl | rfl | rfl
    · rw [Nat.add_zero, c0]; rfl
    · rw [c1]; rfl
    · rw [c2]; rfl
    · rw [c3]; rfl
  · rintro ⟨q1, q2⟩
    have q1' : s + k - s = 4 := q1
    have hkL : k = 4 := by omega
    have hbb : ∀ j, j < 4 → B (s + j) < 2 ^ 31 := fun j hj => by have := hb j (by omega); omega
    have c : ∀ j, j < 4 → nI (B (s + j)) = (jSb.getD 0 []).getD j 0 := fun j hj => of_decide_eq_true (q2 j (List.mem_range.mpr hj))
    refine ⟨hkL, ?_, ?_, ?_, ?_⟩
    · have := (nI_eq (b := 108) (hbb 0 (by omega)) (by omega)).mp (c 0 (by omega))
      rwa [Nat.add_zero] at this
    · exact (nI_eq (b := 97) (hbb 1 (by omega)) (by omega)).mp (c 1 (by omega))
    · exact (nI_eq (b := 110) (hbb 2 (by omega)) (by omega)).mp (c 2 (by omega))
    · exact (nI_eq (b := 100) (hbb 3 (by omega)) (by omega)).mp (c 3 (by omega))
theorem wd_iff1 {B : Nat → Nat} {s k : Nat} (h1 : 1 ≤ k) (h6 : k ≤ 6) (hb : ∀ i, i < k → 97 ≤ B (s + i) ∧ B (s + i) ≤ 122) : wn B s k = 18935 ↔ isW B 1 s (s + k) = true := by
  obtain ⟨o1, o2, o3, o4, o5, o6⟩ := wn_open (B := B) (s := s)
  have mid : wn B s k = 18935 ↔ k = 3 ∧ (B s = 114 ∧ B (s + 1) = 111 ∧ B (s + 2) = 119) := by
    have hk : k = 1 ∨ k = 2 ∨ k = 3 ∨ k = 4 ∨ k = 5 ∨ k = 6 := by omega
    have b0 := hb 0 (by omega)
    rw [Nat.add_zero] at b0
    rcases hk with rfl | rfl | rfl | rfl | rfl | rfl
    · rw [o1]; omega
    · have b1 := hb 1 (by omega)
      rw [o2]; omega
    · have b1 := hb 1 (by omega)
      have b2 := hb 2 (by omega)
      rw [o3]; omega
    · have b1 := hb 1 (by omega)
      have b2 := hb 2 (by omega)
      have b3 := hb 3 (by omega)
      rw [o4]; omega
    · have b1 := hb 1 (by omega)
      have b2 := hb 2 (by omega)
      have b3 := hb 3 (by omega)
      have b4 := hb 4 (by omega)
      rw [o5]; omega
    · have b1 := hb 1 (by omega)
      have b2 := hb 2 (by omega)
      have b3 := hb 3 (by omega)
      have b4 := hb 4 (by omega)
      have b5 := hb 5 (by omega)
      rw [o6]; omega
  rw [mid]
  unfold isW
  rw [Bool.and_eq_true, decide_eq_true_eq, List.all_eq_true]
  constructor
  · rintro ⟨q1, c0, c1, c2⟩
    refine ⟨by show s + k - s = 3; omega, fun j hj => decide_eq_true ?_⟩
    have hj' : j < 3 := List.mem_range.mp hj
    have : j = 0 ∨ j = 1 ∨ j = 2 := by omega
    rcases this with rfl | rfl | rfl
    · rw [Nat.add_zero, c0]; rfl
    · rw [c1]; rfl
    · rw [c2]; rfl
  · rintro ⟨q1, q2⟩
    have q1' : s + k - s = 3 := q1
    have hkL : k = 3 := by omega
    have hbb : ∀ j, j < 3 → B (s + j) < 2 ^ 31 := fun j hj => by have := hb j (by omega); omega
    have c : ∀ j, j < 3 → nI (B (s + j)) = (jSb.getD 1 []).getD j 0 := fun j hj => of_decide_eq_true (q2 j (List.mem_range.mpr hj))
    refine ⟨hkL, ?_, ?_, ?_⟩
    · have := (nI_eq (b := 114) (hbb 0 (by omega)) (by omega)).mp (c 0 (by omega))
      rwa [Nat.add_zero] at this
    · exact (nI_eq (b := 111) (hbb 1 (by omega)) (by omega)).mp (c 1 (by omega))
    · exact (nI_eq (b := 119) (hbb 2 (by omega)) (by omega)).mp (c 2 (by omega))
theorem wd_iff2 {B : Nat → Nat} {s k : Nat} (h1 : 1 ≤ k) (h6 : k ≤ 6) (hb : ∀ i, i < k → 97 ≤ B (s + i) ∧ B (s + i) ≤ 122) : wn B s k = 664709 ↔ isW B 2 s (s + k) = true := by
  obtain ⟨o1, o2, o3, o4, o5, o6⟩ := wn_open (B := B) (s := s)
  have mid : wn B s k = 664709 ↔ k = 4 ∧ (B s = 116 ∧ B (s + 1) = 105 ∧ B (s + 2) = 100 ∧ B (s + 3) = 101) := by
    have hk : k = 1 ∨ k = 2 ∨ k = 3 ∨ k = 4 ∨ k = 5 ∨ k = 6 := by omega
    have b0 := hb 0 (by omega)
    rw [Nat.add_zero] at b0
    rcases hk with rfl | rfl | rfl | rfl | rfl | rfl
    · rw [o1]; omega
    · have b1 := hb 1 (by omega)
      rw [o2]; omega
    · have b1 := hb 1 (by omega)
      have b2 := hb 2 (by omega)
      rw [o3]; omega
    · have b1 := hb 1 (by omega)
      have b2 := hb 2 (by omega)
      have b3 := hb 3 (by omega)
      rw [o4]; omega
    · have b1 := hb 1 (by omega)
      have b2 := hb 2 (by omega)
      have b3 := hb 3 (by omega)
      have b4 := hb 4 (by omega)
      rw [o5]; omega
    · have b1 := hb 1 (by omega)
      have b2 := hb 2 (by omega)
      have b3 := hb 3 (by omega)
      have b4 := hb 4 (by omega)
      have b5 := hb 5 (by omega)
      rw [o6]; omega
  rw [mid]
  unfold isW
  rw [Bool.and_eq_true, decide_eq_true_eq, List.all_eq_true]
  constructor
  · rintro ⟨q1, c0, c1, c2, c3⟩
    refine ⟨by show s + k - s = 4; omega, fun j hj => decide_eq_true ?_⟩
    have hj' : j < 4 := List.mem_range.mp hj
    have : j = 0 ∨ j = 1 ∨ j = 2 ∨ j = 3 := by omega
    rcases this with rfl | rfl | rfl | rfl
    · rw [Nat.add_zero, c0]; rfl
    · rw [c1]; rfl
    · rw [c2]; rfl
    · rw [c3]; rfl
  · rintro ⟨q1, q2⟩
    have q1' : s + k - s = 4 := q1
    have hkL : k = 4 := by omega
    have hbb : ∀ j, j < 4 → B (s + j) < 2 ^ 31 := fun j hj => by have := hb j (by omega); omega
    have c : ∀ j, j < 4 → nI (B (s + j)) = (jSb.getD 2 []).getD j 0 := fun j hj => of_decide_eq_true (q2 j (List.mem_range.mpr hj))
    refine ⟨hkL, ?_, ?_, ?_, ?_⟩
    · have := (nI_eq (b := 116) (hbb 0 (by omega)) (by omega)).mp (c 0 (by omega))
      rwa [Nat.add_zero] at this
    · exact (nI_eq (b := 105) (hbb 1 (by omega)) (by omega)).mp (c 1 (by omega))
    · exact (nI_eq (b := 100) (hbb 2 (by omega)) (by omega)).mp (c 2 (by omega))
    · exact (nI_eq (b := 101) (hbb 3 (by omega)) (by omega)).mp (c 3 (by omega))
theorem wd_iff3 {B : Nat → Nat} {s k : Nat} (h1 : 1 ≤ k) (h6 : k ≤ 6) (hb : ∀ i, i < k → 97 ≤ B (s + i) ∧ B (s + i) ≤ 122) : wn B s k = 13358 ↔ isW B 3 s (s + k) = true := by
  obtain ⟨o1, o2, o3, o4, o5, o6⟩ := wn_open (B := B) (s := s)
  have mid : wn B s k = 13358 ↔ k = 3 ∧ (B s = 109 ∧ B (s + 1) = 97 ∧ B (s + 2) = 110) := by
    have hk : k = 1 ∨ k = 2 ∨ k = 3 ∨ k = 4 ∨ k = 5 ∨ k = 6 := by omega
    have b0 := hb 0 (by omega)
    rw [Nat.add_zero] at b0
    rcases hk with rfl | rfl | rfl | rfl | rfl | rfl
    · rw [o1]; omega
    · have b1 := hb 1 (by omega)
      rw [o2]; omega
    · have b1 := hb 1 (by omega)
      have b2 := hb 2 (by omega)
      rw [o3]; omega
    · have b1 := hb 1 (by omega)
      have b2 := hb 2 (by omega)
      have b3 := hb 3 (by omega)
      rw [o4]; omega
    · have b1 := hb 1 (by omega)
      have b2 := hb 2 (by omega)
      have b3 := hb 3 (by omega)
      have b4 := hb 4 (by omega)
      rw [o5]; omega
    · have b1 := hb 1 (by omega)
      have b2 := hb 2 (by omega)
      have b3 := hb 3 (by omega)
      have b4 := hb 4 (by omega)
      have b5 := hb 5 (by omega)
      rw [o6]; omega
  rw [mid]
  unfold isW
  rw [Bool.and_eq_true, decide_eq_true_eq, List.all_eq_true]
  constructor
  · rintro ⟨q1, c0, c1, c2⟩
    refine ⟨by show s + k - s = 3; omega, fun j hj => decide_eq_true ?_⟩
    have hj' : j < 3 := List.mem_range.mp hj
    have : j = 0 ∨ j = 1 ∨ j = 2 := by omega
    rcases this with rfl | rfl | rfl
    · rw [Nat.add_zero, c0]; rfl
    · rw [c1]; rfl
    · rw [c2]; rfl
  · rintro ⟨q1, q2⟩
    have q1' : s + k - s = 3 := q1
    have hkL : k = 3 := by omega
    have hbb : ∀ j, j < 3 → B (s + j) < 2 ^ 31 := fun j hj => by have := hb j (by omega); omega
    have c : ∀ j, j < 3 → nI (B (s + j)) = (jSb.getD 3 []).getD j 0 := fun j hj => of_decide_eq_true (q2 j (List.mem_range.mpr hj))
    refine ⟨hkL, ?_, ?_, ?_⟩
    · have := (nI_eq (b := 109) (hbb 0 (by omega)) (by omega)).mp (c 0 (by omega))
      rwa [Nat.add_zero] at this
    · exact (nI_eq (b := 97) (hbb 1 (by omega)) (by omega)).mp (c 1 (by omega))
    · exact (nI_eq (b := 110) (hbb 2 (by omega)) (by omega)).mp (c 2 (by omega))
theorem wd_iff4 {B : Nat → Nat} {s k : Nat} (h1 : 1 ≤ k) (h6 : k ≤ 6) (hb : ∀ i, i < k → 97 ≤ B (s + i) ∧ B (s + i) ≤ 122) : wn B s k = 464627 ↔ isW B 4 s (s + k) = true := by
  obtain ⟨o1, o2, o3, o4, o5, o6⟩ := wn_open (B := B) (s := s)
  have mid : wn B s k = 464627 ↔ k = 4 ∧ (B s = 110 ∧ B (s + 1) = 101 ∧ B (s + 2) = 119 ∧ B (s + 3) = 115) := by
    have hk : k = 1 ∨ k = 2 ∨ k = 3 ∨ k = 4 ∨ k = 5 ∨ k = 6 := by omega
    have b0 := hb 0 (by omega)
    rw [Nat.add_zero] at b0
    rcases hk with rfl | rfl | rfl | rfl | rfl | rfl
    · rw [o1]; omega
    · have b1 := hb 1 (by omega)
      rw [o2]; omega
    · have b1 := hb 1 (by omega)
      have b2 := hb 2 (by omega)
      rw [o3]; omega
    · have b1 := hb 1 (by omega)
      have b2 := hb 2 (by omega)
      have b3 := hb 3 (by omega)
      rw [o4]; omega
    · have b1 := hb 1 (by omega)
      have b2 := hb 2 (by omega)
      have b3 := hb 3 (by omega)
      have b4 := hb 4 (by omega)
      rw [o5]; omega
    · have b1 := hb 1 (by omega)
      have b2 := hb 2 (by omega)
      have b3 := hb 3 (by omega)
      have b4 := hb 4 (by omega)
      have b5 := hb 5 (by omega)
      rw [o6]; omega
  rw [mid]
  unfold isW
  rw [Bool.and_eq_true, decide_eq_true_eq, List.all_eq_true]
  constructor
  · rintro ⟨q1, c0, c1, c2, c3⟩
    refine ⟨by show s + k - s = 4; omega, fun j hj => decide_eq_true ?_⟩
    have hj' : j < 4 := List.mem_range.mp hj
    have : j = 0 ∨ j = 1 ∨ j = 2 ∨ j = 3 := by omega
    rcases this with rfl | rfl | rfl | rfl
    · rw [Nat.add_zero, c0]; rfl
    · rw [c1]; rfl
    · rw [c2]; rfl
    · rw [c3]; rfl
  · rintro ⟨q1, q2⟩
    have q1' : s + k - s = 4 := q1
    have hkL : k = 4 := by omega
    have hbb : ∀ j, j < 4 → B (s + j) < 2 ^ 31 := fun j hj => by have := hb j (by omega); omega
    have c : ∀ j, j < 4 → nI (B (s + j)) = (jSb.getD 4 []).getD j 0 := fun j hj => of_decide_eq_true (q2 j (List.mem_range.mpr hj))
    refine ⟨hkL, ?_, ?_, ?_, ?_⟩
    · have := (nI_eq (b := 110) (hbb 0 (by omega)) (by omega)).mp (c 0 (by omega))
      rwa [Nat.add_zero] at this
    · exact (nI_eq (b := 101) (hbb 1 (by omega)) (by omega)).mp (c 1 (by omega))
    · exact (nI_eq (b := 119) (hbb 2 (by omega)) (by omega)).mp (c 2 (by omega))
    · exact (nI_eq (b := 115) (hbb 3 (by omega)) (by omega)).mp (c 3 (by omega))
theorem wd_iff5 {B : Nat → Nat} {s k : Nat} (h1 : 1 ≤ k) (h6 : k ≤ 6) (hb : ∀ i, i < k → 97 ≤ B (s + i) ∧ B (s + i) ≤ 122) : wn B s k = 102355333 ↔ isW B 5 s (s + k) = true := by
  obtain ⟨o1, o2, o3, o4, o5, o6⟩ := wn_open (B := B) (s := s)
  have mid : wn B s k = 102355333 ↔ k = 6 ∧ (B s = 99 ∧ B (s + 1) = 97 ∧ B (s + 2) = 115 ∧ B (s + 3) = 116 ∧ B (s + 4) = 108 ∧ B (s + 5) = 101) := by
    have hk : k = 1 ∨ k = 2 ∨ k = 3 ∨ k = 4 ∨ k = 5 ∨ k = 6 := by omega
    have b0 := hb 0 (by omega)
    rw [Nat.add_zero] at b0
    rcases hk with rfl | rfl | rfl | rfl | rfl | rfl
    · rw [o1]; omega
    · have b1 := hb 1 (by omega)
      rw [o2]; omega
    · have b1 := hb 1 (by omega)
      have b2 := hb 2 (by omega)
      rw [o3]; omega
    · have b1 := hb 1 (by omega)
      have b2 := hb 2 (by omega)
      have b3 := hb 3 (by omega)
      rw [o4]; omega
    · have b1 := hb 1 (by omega)
      have b2 := hb 2 (by omega)
      have b3 := hb 3 (by omega)
      have b4 := hb 4 (by omega)
      rw [o5]; omega
    · have b1 := hb 1 (by omega)
      have b2 := hb 2 (by omega)
      have b3 := hb 3 (by omega)
      have b4 := hb 4 (by omega)
      have b5 := hb 5 (by omega)
      rw [o6]; omega
  rw [mid]
  unfold isW
  rw [Bool.and_eq_true, decide_eq_true_eq, List.all_eq_true]
  constructor
  · rintro ⟨q1, c0, c1, c2, c3, c4, c5⟩
    refine ⟨by show s + k - s = 6; omega, fun j hj => decide_eq_true ?_⟩
    have hj' : j < 6 := List.mem_range.mp hj
    have : j = 0 ∨ j = 1 ∨ j = 2 ∨ j = 3 ∨ j = 4 ∨ j = 5 := by omega
    rcases this with rfl | rfl | rfl | rfl | rfl | rfl
    · rw [Nat.add_zero, c0]; rfl
    · rw [c1]; rfl
    · rw [c2]; rfl
    · rw [c3]; rfl
    · rw [c4]; rfl
    · rw [c5]; rfl
  · rintro ⟨q1, q2⟩
    have q1' : s + k - s = 6 := q1
    have hkL : k = 6 := by omega
    have hbb : ∀ j, j < 6 → B (s + j) < 2 ^ 31 := fun j hj => by have := hb j (by omega); omega
    have c : ∀ j, j < 6 → nI (B (s + j)) = (jSb.getD 5 []).getD j 0 := fun j hj => of_decide_eq_true (q2 j (List.mem_range.mpr hj))
    refine ⟨hkL, ?_, ?_, ?_, ?_, ?_, ?_⟩
    · have := (nI_eq (b := 99) (hbb 0 (by omega)) (by omega)).mp (c 0 (by omega))
      rwa [Nat.add_zero] at this
    · exact (nI_eq (b := 97) (hbb 1 (by omega)) (by omega)).mp (c 1 (by omega))
    · exact (nI_eq (b := 115) (hbb 2 (by omega)) (by omega)).mp (c 2 (by omega))
    · exact (nI_eq (b := 116) (hbb 3 (by omega)) (by omega)).mp (c 3 (by omega))
    · exact (nI_eq (b := 108) (hbb 4 (by omega)) (by omega)).mp (c 4 (by omega))
    · exact (nI_eq (b := 101) (hbb 5 (by omega)) (by omega)).mp (c 5 (by omega))
theorem cod_le {B : Nat → Nat} {s e : Nat} : cod B s e ≤ 6 := by
  unfold cod
  repeat' split
  all_goals omega
theorem cod_7 {B : Nat → Nat} {s e : Nat} (h : e - s = 0 ∨ 6 < e - s) : cod B s e = 6 := by
  refine cod_no (fun j hj => ?_)
  cases q : isW B j s e
  · rfl
  · exfalso
    unfold isW at q
    rw [Bool.and_eq_true, decide_eq_true_eq] at q
    have hl : ∀ j, j < 6 → 0 < jSl.getD j 0 ∧ jSl.getD j 0 ≤ 6 := by decide
    have := hl j hj
    omega
theorem z_vcod {B : Nat → Nat} {s k : Nat} (h1 : 1 ≤ k) (h6 : k ≤ 6) (hb : ∀ i, i < k → 97 ≤ B (s + i) ∧ B (s + i) ≤ 122) : f_MoverbOf (lN (wn B s k)) = if cod B s (s + k) < 6 then nI (cod B s (s + k)) else -1 := by
  have hw := wn_bnd (B := B) (s := s) k (fun i hi => (hb i hi).2)
  have hp : 32 ^ k ≤ 32 ^ 6 := Nat.pow_le_pow_right (by omega) h6
  rw [z_verb (by omega)]
  have f0 := wd_iff0 h1 h6 hb
  have f1 := wd_iff1 h1 h6 hb
  have f2 := wd_iff2 h1 h6 hb
  have f3 := wd_iff3 h1 h6 hb
  have f4 := wd_iff4 h1 h6 hb
  have f5 := wd_iff5 h1 h6 hb
  by_cases q0 : wn B s k = 394692
  · rw [if_pos q0, cod_is (i := 0) (by decide) (f0.mp q0)]; rfl
  rw [if_neg q0]
  by_cases q1 : wn B s k = 18935
  · rw [if_pos q1, cod_is (i := 1) (by decide) (f1.mp q1)]; rfl
  rw [if_neg q1]
  by_cases q2 : wn B s k = 664709
  · rw [if_pos q2, cod_is (i := 2) (by decide) (f2.mp q2)]; rfl
  rw [if_neg q2]
  by_cases q3 : wn B s k = 13358
  · rw [if_pos q3, cod_is (i := 3) (by decide) (f3.mp q3)]; rfl
  rw [if_neg q3]
  by_cases q4 : wn B s k = 464627
  · rw [if_pos q4, cod_is (i := 4) (by decide) (f4.mp q4)]; rfl
  rw [if_neg q4]
  by_cases q5 : wn B s k = 102355333
  · rw [if_pos q5, cod_is (i := 5) (by decide) (f5.mp q5)]; rfl
  rw [if_neg q5, cod_no (fun j hj => ?_), if_neg (by omega)]
  have no : ∀ {j : Nat} {c : Nat}, (wn B s k = c ↔ isW B j s (s + k) = true) → ¬ wn B s k = c → isW B j s (s + k) = false := fun {j c} f q => by
    cases e : isW B j s (s + k)
    · rfl
    · exact absurd (f.mpr e) q
  have : j = 0 ∨ j = 1 ∨ j = 2 ∨ j = 3 ∨ j = 4 ∨ j = 5 := by omega
  rcases this with rfl | rfl | rfl | rfl | rfl | rfl
  · exact no f0 q0
  · exact no f1 q1
  · exact no f2 q2
  · exact no f3 q3
  · exact no f4 q4
  · exact no f5 q5
def zSc : List Nat := [19, 20, 21, 22]
section SM
variable {E : jEnv} {n : Nat} {X : State → Prop} {P : Option Value → HP → Prop} {B : Nat → Nat} {N : Nat}
/-- letters -/
theorem zm_wordL {s : Nat} (hsN : s < N) (hs : bLt B s = true) {h0 : HP} (hY : zY B N h0) (kx : ∀ h2, zF52 zSc h0 h2 → zTk B N s h2 → P none h2) : ∀ (q k : Nat) (h : HP), N - (s + k) = q → s + k ≤ N → lt B N s = lt B N (s + k) → (∀ i, i < k → 97 ≤ B (s + i) ∧ B (s + i) ≤ 122) → zF52 zSc h0 h → h.1 52 20 = nI s → h.1 52 19 = nI (s + k) → jG E mX8_scans (n + 2) X P 62 [some (.ref 52), some (.long (if k ≤ 6 then lN (wn B s k) else -1)), none] [] h := by
  have hN := hY.1
  have hgt : s < lt B N s := re_gt hsN hs
  have hnf : bFg B s = false := by
    unfold bLt at hs
    unfold bFg
    rw [Bool.and_eq_true, decide_eq_true_eq, decide_eq_true_eq] at hs
    cases e : (decide (48 ≤ B s) && decide (B s ≤ 57))
    · rfl
    · rw [Bool.and_eq_true, decide_eq_true_eq, decide_eq_true_eq] at e; omega
  have hbs : 97 ≤ B s := by
    unfold bLt at hs
    rw [Bool.and_eq_true, decide_eq_true_eq, decide_eq_true_eq] at hs
    exact hs.1
  have enx : nx B N s = lt B N s := by unfold nx; rw [if_pos hsN, if_pos hs]
  have etk : tk B N s = if cod B s (lt B N s) < 6 then 5 + cod B s (lt B N s) else 1 := by
    unfold tk
    rw [if_pos hsN, if_neg (show ¬ bFg B s = true by rw [hnf]; decide), if_neg (show ¬ B s = 59 by omega), if_neg (show ¬ B s = 44 by omega)]
  have ne2 : ¬ tk B N s = 2 := by rw [etk]; split <;> omega
  -- the end
  have fin : ∀ (k : Nat) (h : HP), s + k = lt B N s → (∀ i, i < k → 97 ≤ B (s + i) ∧ B (s + i) ≤ 122) → zF52 zSc h0 h → h.1 52 20 = nI s → h.1 52 19 = nI (s + k) → ((6 : Int32) < h.1 52 19 - h.1 52 20 → P none (jPI h 52 21 1)) ∧ (¬ (6 : Int32) < h.1 52 19 - h.1 52 20 → (f_MoverbOf (if k ≤ 6 then lN (wn B s k) else -1) = -1 → P none (jPI h 52 21 1)) ∧ (¬ f_MoverbOf (if k ≤ 6 then lN (wn B s k) else -1) = -1 → P none (jPI h 52 21 (5 + f_MoverbOf (if k ≤ 6 then lN (wn B s k) else -1))))) := fun k h hk hb hf h20 h19 => by
    have hl := lt_le (B := B) (show s ≤ N by omega)
    have hk6 : (6 : Int32) < h.1 52 19 - h.1 52 20 ↔ 6 < k := by
      rw [h19, h20, pk_sub (by omega), show s + k - s = k by omega]
      exact nI_ltI (a := 6) (by omega) (by omega)
    have put : ∀ x : Int32, x = nI (tk B N s) → P none (jPI h 52 21 x) := fun x hx => kx _ (hf.trans (zF52_I (by decide))) ⟨h20, by show x = _; exact hx, by show h.1 52 19 = _; rw [h19, enx, hk], fun q => absurd q ne2⟩
    refine ⟨fun w => put 1 ?_, fun w => ?_⟩
    · rw [etk, cod_7 (by have := hk6.mp w; omega), if_neg (by omega)]; rfl
    · have hk6' : k ≤ 6 := by have := mt hk6.mpr w; omega
      rw [if_pos hk6', z_vcod (by omega) hk6' hb, hk]
      by_cases e : cod B s (lt B N s) < 6
      · rw [if_pos e]
        refine ⟨fun w2 => absurd w2 (nI_neg1 (by omega)), fun _ => put _ ?_⟩
        rw [etk, if_pos e, show (5 : Int32) = nI 5 from rfl, nI_add]
      · rw [if_neg e]
        refine ⟨fun _ => put 1 ?_, fun w2 => absurd rfl w2⟩
        rw [etk, if_neg e]; rfl
  intro q
  induction q with
  | zero =>
    intro k h hq hkN hlt hb hf h20 h19
    have hY' := zY_52 hf (by decide) hY
    have hat := z_isAt hY' (lo := 97) (hi := 122) hkN (by omega) (by omega) h19
    rw [if_neg (by omega)] at hat
    have hend : s + k = lt B N s := by rw [hlt]; exact (re_n (fun w => absurd w (by omega))).symm
    obtain ⟨f1, f2⟩ := fin k h hend hb hf h20 h19
    exact q_Moscans_62 _ h (z_vin hY' hkN h19) (fun _ w => f1 w) (fun _ w w2 => (f2 w).1 w2) (fun _ w w2 => (f2 w).2 w2) (fun c => absurd hat c) (fun c => absurd hat c) (fun c => absurd hat c)
  | succ q ih =>
    intro k h hq hkN hlt hb hf h20 h19
    have hY' := zY_52 hf (by decide) hY
    have hat := z_isAt hY' (lo := 97) (hi := 122) hkN (by omega) (by omega) h19
    have hskN : s + k < N := by omega
    have hcl : (h.1 52 19).toNatClampNeg = s + k := by rw [h19]; exact nI_clamp (by omega)
    by_cases w : 97 ≤ B (s + k) ∧ B (s + k) ≤ 122
    · rw [if_pos ⟨hskN, w⟩] at hat
      have hbl : bLt B (s + k) = true := by unfold bLt; rw [decide_eq_true w.1, decide_eq_true w.2]; rfl
      have hk5 : h.1 52 19 - h.1 52 20 ≤ 5 ↔ k ≤ 5 := by
        rw [h19, h20, pk_sub (by omega), show s + k - s = k by omega]
        exact nI_leI (b := 5) (by omega) (by omega)
      have hne : ¬ f_MoisAt (h.1 52 18) (h.1 52 19) (h.1 61) 97 122 = 0 := by
        show ¬ f_MoisAt (h.1 52 18) (h.1 52 19) (h.1 61) (nI 97) (nI 122) = 0
        rw [hat]; exact one0
      have hf2 : zF52 zSc h0 (jPI h 52 19 (h.1 52 19 + 1)) := hf.trans (zF52_I (by decide))
      have go := ih (k + 1) (jPI h 52 19 (h.1 52 19 + 1)) (by omega) (by omega) (by rw [hlt]; exact re_y hskN hbl) (fun i hi => by
        by_cases e : i = k
        · rw [e]; exact w
        · exact hb i (by omega)) hf2 h20 (by show h.1 52 19 + 1 = _; rw [h19, nI_1]; rfl)
      refine q_Moscans_62 _ h (z_vin hY' hkN h19) (fun c => absurd c hne) (fun c => absurd c hne) (fun c => absurd c hne) (fun _ _ => by rw [h19]; exact z_vp (by omega) (by omega)) (fun _ w2 => ?_) (fun _ w2 => ?_)
      · have hk5' := hk5.mp w2
        have hwb := wn_bnd (B := B) (s := s) k (fun i hi => (hb i hi).2)
        have hpw : 32 ^ k ≤ 32 ^ 5 := Nat.pow_le_pow_right (by omega) hk5'
        rw [if_pos (show k + 1 ≤ 6 by omega)] at go
        rw [if_pos (show k ≤ 6 by omega), hcl, (hY'.2.2 _ hskN).2, nI_l (by omega), show (32 : Int64) = lN 32 from rfl, lN_mul, lN_add, show (97 : Int64) = lN 97 from rfl, lN_sub (by omega), lN_1]
        have ew : 32 * wn B s k + B (s + k) - 97 + 1 = wn B s (k + 1) := by
          show _ = 32 * wn B s k + (B (s + k) - 96)
          omega
        rw [ew]
        exact go
      · rw [if_neg (show ¬ k + 1 ≤ 6 by have := mt hk5.mpr w2; omega)] at go
        exact go
    · rw [if_neg (fun q => w q.2)] at hat
      have hbl : bLt B (s + k) = false := by
        unfold bLt
        cases e : (decide (97 ≤ B (s + k)) && decide (B (s + k) ≤ 122))
        · rfl
        · rw [Bool.and_eq_true, decide_eq_true_eq, decide_eq_true_eq] at e; exact absurd e w
      have hend : s + k = lt B N s := by rw [hlt]; exact (re_n (fun _ => hbl)).symm
      obtain ⟨f1, f2⟩ := fin k h hend hb hf h20 h19
      exact q_Moscans_62 _ h (z_vin hY' hkN h19) (fun _ w => f1 w) (fun _ w w2 => (f2 w).1 w2) (fun _ w w2 => (f2 w).2 w2) (fun c => absurd hat c) (fun c => absurd hat c) (fun c => absurd hat c)
/-- figures -/
theorem zm_figL {s : Nat} (hsN : s < N) (hs : bFg B s = true) {h0 : HP} (hY : zY B N h0) (kx : ∀ h2, zF52 zSc h0 h2 → zTk B N s h2 → P none h2) : ∀ (q k : Nat) (h : HP), N - (s + k) = q → s + k ≤ N → fg B N s = fg B N (s + k) → (∀ i, i < k → B (s + i) ≤ 57) → zF52 zSc h0 h → h.1 52 20 = nI s → h.1 52 19 = nI (s + k) → h.1 52 22 = nI (if k ≤ 3 then vl B s k else 9999) → jG E mX8_scans (n + 2) X P 181 [some (.ref 52), none, none] [] h := by
  have hN := hY.1
  have hnl : bLt B s = false := by
    unfold bFg at hs
    unfold bLt
    rw [Bool.and_eq_true, decide_eq_true_eq, decide_eq_true_eq] at hs
    cases e : (decide (97 ≤ B s) && decide (B s ≤ 122))
    · rfl
    · rw [Bool.and_eq_true, decide_eq_true_eq, decide_eq_true_eq] at e; omega
  have elt : lt B N s = s := re_n (fun _ => hnl)
  have enx : nx B N s = fg B N s := by unfold nx; rw [if_pos hsN, if_neg (by rw [hnl]; decide), if_pos hs]
  have etk : tk B N s = 2 := by
    unfold tk
    rw [if_pos hsN, elt, cod_7 (by omega), if_neg (by omega), if_pos hs]
  have fin : ∀ (k : Nat) (h : HP), s + k = fg B N s → zF52 zSc h0 h → h.1 52 20 = nI s → h.1 52 19 = nI (s + k) → h.1 52 22 = nI (if k ≤ 3 then vl B s k else 9999) → P none (jPI h 52 21 2) := fun k h hk hf h20 h19 h22 => by
    refine kx _ (hf.trans (zF52_I (by decide))) ⟨h20, by show (2 : Int32) = _; rw [etk]; rfl, by show h.1 52 19 = _; rw [h19, enx, hk], fun _ => ?_⟩
    show h.1 52 22 = _
    rw [h22]
    unfold mv
    rw [show fg B N s - s = k by omega]
    by_cases e : k ≤ 3
    · rw [if_pos e, if_neg (by omega)]
    · rw [if_neg e, if_pos (by omega)]
  intro q
  induction q with
  | zero =>
    intro k h hq hkN hfg hb hf h20 h19 h22
    have hY' := zY_52 hf (by decide) hY
    have hat := z_isAt hY' (lo := 48) (hi := 57) hkN (by omega) (by omega) h19
    rw [if_neg (by omega)] at hat
    have hend : s + k = fg B N s := by rw [hfg]; exact (re_n (fun w => absurd w (by omega))).symm
    exact q_Moscans_181 h (z_vin hY' hkN h19) (fun _ => fin k h hend hf h20 h19 h22) (fun c => absurd hat c) (fun c => absurd hat c) (fun c => absurd hat c)
  | succ q ih =>
    intro k h hq hkN hfg hb hf h20 h19 h22
    have hY' := zY_52 hf (by decide) hY
    have hat := z_isAt hY' (lo := 48) (hi := 57) hkN (by omega) (by omega) h19
    have hskN : s + k < N := by omega
    have hcl : (h.1 52 19).toNatClampNeg = s + k := by rw [h19]; exact nI_clamp (by omega)
    by_cases w : 48 ≤ B (s + k) ∧ B (s + k) ≤ 57
    · rw [if_pos ⟨hskN, w⟩] at hat
      have hbl : bFg B (s + k) = true := by unfold bFg; rw [decide_eq_true w.1, decide_eq_true w.2]; rfl
      have hk3 : (3 : Int32) ≤ h.1 52 19 - h.1 52 20 ↔ 3 ≤ k := by
        rw [h19, h20, pk_sub (by omega), show s + k - s = k by omega]
        exact nI_leI (a := 3) (by omega) (by omega)
      have hne : ¬ f_MoisAt (h.1 52 18) (h.1 52 19) (h.1 61) 48 57 = 0 := by
        show ¬ f_MoisAt (h.1 52 18) (h.1 52 19) (h.1 61) (nI 48) (nI 57) = 0
        rw [hat]; exact one0
      have go := fun (v : Int32) (hv : v = nI (if k + 1 ≤ 3 then vl B s (k + 1) else 9999)) => ih (k + 1) (jPI (jPI h 52 22 v) 52 19 (h.1 52 19 + 1)) (by omega) (by omega) (by rw [hfg]; exact re_y hskN hbl) (fun i hi => by
        by_cases e : i = k
        · rw [e]; exact w.2
        · exact hb i (by omega)) (hf.trans ((zF52_I (by decide)).trans (zF52_I (by decide)))) h20 (by show h.1 52 19 + 1 = _; rw [h19, nI_1]; rfl) hv
      have ev : vl B s (k + 1) = if k < 3 then 10 * vl B s k + (B (s + k) - 48) else vl B s k := rfl
      refine q_Moscans_181 h (z_vin hY' hkN h19) (fun c => absurd c hne) (fun _ w2 => go 9999 ?_) (fun _ _ => by rw [h19]; exact z_vp (by omega) (by omega)) (fun _ w2 => go _ ?_)
      · rw [if_neg (by have := hk3.mp w2; omega)]; rfl
      · have hk3' : k < 3 := by have := mt hk3.mpr w2; omega
        rw [if_pos (by omega), ev, if_pos hk3', h22, if_pos (by omega), hcl, (hY'.2.2 _ hskN).2, show 10 * nI (vl B s k) = nI (10 * vl B s k) from pk_mul 10 _, nI_add, show (48 : Int32) = nI 48 from rfl, pk_sub (by omega)]
        congr 1
        omega
    · rw [if_neg (fun q => w q.2)] at hat
      have hbl : bFg B (s + k) = false := by
        unfold bFg
        cases e : (decide (48 ≤ B (s + k)) && decide (B (s + k) ≤ 57))
        · rfl
        · rw [Bool.and_eq_true, decide_eq_true_eq, decide_eq_true_eq] at e; exact absurd e w
      have hend : s + k = fg B N s := by rw [hfg]; exact (re_n (fun _ => hbl)).symm
      exact q_Moscans_181 h (z_vin hY' hkN h19) (fun _ => fin k h hend hf h20 h19 h22) (fun c => absurd hat c) (fun c => absurd hat c) (fun c => absurd hat c)
theorem zm_scanL {h0 : HP} (hY : zY B N h0) : ∀ (k a : Nat) (h : HP), N - a = k → a ≤ N → zF52 zSc h0 h → h.1 52 19 = nI a → (∀ h2, zF52 zSc h0 h2 → zTk B N (sk B N a) h2 → P none h2) → jG E mX8_scans (n + 2) X P 0 [some (.ref 52), none, none] [] h := by
  have hN := hY.1
  -- at the first byte that is no blank
  have tok : ∀ (s : Nat) (h : HP), s ≤ N → (s < N → ¬ B s = 32) → zF52 zSc h0 h → h.1 52 19 = nI s → (∀ h2, zF52 zSc h0 h2 → zTk B N s h2 → P none h2) → jG E mX8_scans (n + 2) X P 0 [some (.ref 52), none, none] [] h := fun s h hsN hns hf h19 kx => by
    have hY' := zY_52 hf (by decide) hY
    have hv := z_vin hY' hsN h19
    have a32 := z_isAt hY' (lo := 32) (hi := 32) hsN (by omega) (by omega) h19
    have aLt := z_isAt hY' (lo := 97) (hi := 122) hsN (by omega) (by omega) h19
    have aFg := z_isAt hY' (lo := 48) (hi := 57) hsN (by omega) (by omega) h19
    have a59 := z_isAt hY' (lo := 59) (hi := 59) hsN (by omega) (by omega) h19
    have a44 := z_isAt hY' (lo := 44) (hi := 44) hsN (by omega) (by omega) h19
    rw [if_neg (fun w => hns w.1 (by omega))] at a32
    have heq : h.1 52 19 = h.1 52 18 ↔ s = N := by rw [h19, hY'.2.1]; exact nI_eq (by omega) (by omega)
    have bl : bLt B s = true ↔ 97 ≤ B s ∧ B s ≤ 122 := by unfold bLt; rw [Bool.and_eq_true, decide_eq_true_eq, decide_eq_true_eq]
    have bf : bFg B s = true ↔ 48 ≤ B s ∧ B s ≤ 57 := by unfold bFg; rw [Bool.and_eq_true, decide_eq_true_eq, decide_eq_true_eq]
    refine q_Moscans_0 h hv (fun _ w => ?_) (fun _ _ => hv) (fun _ _ _ => hv) (fun _ _ _ _ => hv) (fun _ _ _ _ _ => hv) (fun _ w l f c d => ?_) (fun _ w l f c d => ?_) (fun _ w l f c => ?_) (fun _ w l f => ?_) (fun _ w l => ?_) (fun c => absurd a32 c)
    · have e := heq.mp w
      refine kx _ (hf.trans ((zF52_I (by decide)).trans (zF52_I (by decide)))) ⟨h19, ?_, ?_, fun q => ?_⟩
      · show (0 : Int32) = _
        unfold tk; rw [if_neg (by omega)]; rfl
      · show h.1 52 19 = _
        rw [h19]; unfold nx; rw [if_neg (by omega)]
      · unfold tk at q; rw [if_neg (by omega)] at q; omega
    all_goals
      have hne : ¬ s = N := fun e => w (heq.mpr e)
      have hlt : s < N := by omega
    · have l' : ¬ (97 ≤ B s ∧ B s ≤ 122) := fun q => by rw [if_pos ⟨hlt, q⟩] at aLt; exact one0 (aLt.symm.trans l)
      have f' : ¬ (48 ≤ B s ∧ B s ≤ 57) := fun q => by rw [if_pos ⟨hlt, q⟩] at aFg; exact one0 (aFg.symm.trans f)
      have c' : ¬ B s = 59 := fun q => by rw [if_pos ⟨hlt, by omega, by omega⟩] at a59; exact one0 (a59.symm.trans c)
      have d' : ¬ B s = 44 := fun q => by rw [if_pos ⟨hlt, by omega, by omega⟩] at a44; exact one0 (a44.symm.trans d)
      have elt : lt B N s = s := re_n (fun _ => by cases e : bLt B s; rfl; exact absurd (bl.mp e) l')
      have etk : tk B N s = 1 := by
        unfold tk
        rw [if_pos hlt, elt, cod_7 (by omega), if_neg (by omega), if_neg (fun q => f' (bf.mp q)), if_neg c', if_neg d']
      refine kx _ (hf.trans (((zF52_I (by decide)).trans (zF52_I (by decide))).trans (zF52_I (by decide)))) ⟨h19, by show (1 : Int32) = _; rw [etk]; rfl, ?_, fun q => by rw [etk] at q; omega⟩
      show h.1 52 19 + 1 = _
      unfold nx
      rw [h19, nI_1, if_pos hlt, if_neg (fun q => l' (bl.mp q)), if_neg (fun q => f' (bf.mp q))]
    · have l' : ¬ (97 ≤ B s ∧ B s ≤ 122) := fun q => by rw [if_pos ⟨hlt, q⟩] at aLt; exact one0 (aLt.symm.trans l)
      have f' : ¬ (48 ≤ B s ∧ B s ≤ 57) := fun q => by rw [if_pos ⟨hlt, q⟩] at aFg; exact one0 (aFg.symm.trans f)
      have d' : B s = 44 := by
        by_cases q : 44 ≤ B s ∧ B s ≤ 44
        · omega
        · rw [if_neg (fun r => q r.2)] at a44; exact absurd a44 d
      have elt : lt B N s = s := re_n (fun _ => by cases e : bLt B s; rfl; exact absurd (bl.mp e) l')
      have etk : tk B N s = 4 := by
        unfold tk
        rw [if_pos hlt, elt, cod_7 (by omega), if_neg (by omega), if_neg (fun q => f' (bf.mp q)), if_neg (by omega), if_pos d']
      refine kx _ (hf.trans (((zF52_I (by decide)).trans (zF52_I (by decide))).trans (zF52_I (by decide)))) ⟨h19, by show (4 : Int32) = _; rw [etk]; rfl, ?_, fun q => by rw [etk] at q; omega⟩
      show h.1 52 19 + 1 = _
      unfold nx
      rw [h19, nI_1, if_pos hlt, if_neg (fun q => l' (bl.mp q)), if_neg (fun q => f' (bf.mp q))]
    · have l' : ¬ (97 ≤ B s ∧ B s ≤ 122) := fun q => by rw [if_pos ⟨hlt, q⟩] at aLt; exact one0 (aLt.symm.trans l)
      have f' : ¬ (48 ≤ B s ∧ B s ≤ 57) := fun q => by rw [if_pos ⟨hlt, q⟩] at aFg; exact one0 (aFg.symm.trans f)
      have c' : B s = 59 := by
        by_cases q : 59 ≤ B s ∧ B s ≤ 59
        · omega
        · rw [if_neg (fun r => q r.2)] at a59; exact absurd a59 c
      have elt : lt B N s = s := re_n (fun _ => by cases e : bLt B s; rfl; exact absurd (bl.mp e) l')
      have etk : tk B N s = 3 := by
        unfold tk
        rw [if_pos hlt, elt, cod_7 (by omega), if_neg (by omega), if_neg (fun q => f' (bf.mp q)), if_pos c']
      refine kx _ (hf.trans (((zF52_I (by decide)).trans (zF52_I (by decide))).trans (zF52_I (by decide)))) ⟨h19, by show (3 : Int32) = _; rw [etk]; rfl, ?_, fun q => by rw [etk] at q; omega⟩
      show h.1 52 19 + 1 = _
      unfold nx
      rw [h19, nI_1, if_pos hlt, if_neg (fun q => l' (bl.mp q)), if_neg (fun q => f' (bf.mp q))]
    · have f' : bFg B s = true := by
        by_cases q : 48 ≤ B s ∧ B s ≤ 57
        · exact bf.mpr q
        · rw [if_neg (fun r => q r.2)] at aFg; exact absurd aFg f
      exact zm_figL hlt f' hY kx (N - s) 0 _ (by rw [Nat.add_zero]) (by omega) (by rw [Nat.add_zero]) (fun i hi => absurd hi (by omega)) (hf.trans ((zF52_I (by decide)).trans (zF52_I (by decide)))) h19 h19 rfl
    · have l' : bLt B s = true := by
        by_cases q : 97 ≤ B s ∧ B s ≤ 122
        · exact bl.mpr q
        · rw [if_neg (fun r => q r.2)] at aLt; exact absurd aLt l
      exact zm_wordL hlt l' hY kx (N - s) 0 _ (by rw [Nat.add_zero]) (by omega) (by rw [Nat.add_zero]) (fun i hi => absurd hi (by omega)) (hf.trans (zF52_I (by decide))) h19 h19
  intro k
  induction k with
  | zero =>
    intro a h hk ha hf h19 kx
    have e : sk B N a = a := re_n (fun w => absurd w (by omega))
    rw [e] at kx
    exact tok a h ha (fun w => absurd w (by omega)) hf h19 kx
  | succ k ih =>
    intro a h hk ha hf h19 kx
    have haN : a < N := by omega
    by_cases w : B a = 32
    · have e : sk B N a = sk B N (a + 1) := re_y haN (decide_eq_true w)
      rw [e] at kx
      have hY' := zY_52 hf (by decide) hY
      have a32 := z_isAt hY' (lo := 32) (hi := 32) ha (by omega) (by omega) h19
      rw [if_pos ⟨haN, by omega, by omega⟩] at a32
      have hv := z_vin hY' ha h19
      have hne : ¬ f_MoisAt (h.1 52 18) (h.1 52 19) (h.1 61) 32 32 = 0 := by
        show ¬ f_MoisAt (h.1 52 18) (h.1 52 19) (h.1 61) (nI 32) (nI 32) = 0
        rw [a32]; exact one0
      refine q_Moscans_0 h hv (fun c => absurd c hne) (fun c => absurd c hne) (fun c => absurd c hne) (fun c => absurd c hne) (fun c => absurd c hne) (fun c => absurd c hne) (fun c => absurd c hne) (fun c => absurd c hne) (fun c => absurd c hne) (fun c => absurd c hne) (fun _ => ?_)
      exact ih (a + 1) _ (by omega) (by omega) (hf.trans (zF52_I (by decide))) (by show h.1 52 19 + 1 = _; rw [h19, nI_1]) kx
    · have e : sk B N a = a := re_n (fun _ => decide_eq_false w)
      rw [e] at kx
      exact tok a h ha (fun _ => w) hf h19 kx
theorem c_scans {a : Nat} (ha : a ≤ N) (h : HP) (hY : zY B N h) (h19 : h.1 52 19 = nI a) : jC E mX8_scans (n + 2) [.ref 52] h (fun v h2 => v = none ∧ zF52 zSc h h2 ∧ zTk B N (sk B N a) h2) :=
  jC.of (lv := [some (.ref 52), none, none]) (by decide) (Nat.le_of_ble_eq_true rfl) ⟨rfl, trivial⟩ (zm_scanL hY (N - a) a h rfl ha (zF52.refl _ h) h19 (fun h2 hf ht => ⟨rfl, hf, ht⟩))
end SM
