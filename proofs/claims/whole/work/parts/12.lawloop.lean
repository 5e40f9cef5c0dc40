/-- a call of the class and the same call of the model: one answer, and the invariant goes on -/
def jPair (E : jEnv) (n : Nat) (Inv : Nat → HP → Prop) (mC mM : jM) (avs : List Value) : Prop :=
  ∀ (j : Nat) (h : HP), j < 512 → Inv j h → jCall E mC n (.ref 0 :: avs) h (fun v h2 => ∃ r : Int32, v = some (.int r) ∧ jCall E mM n (.ref 52 :: avs) h2 (fun v2 h3 => v2 = some (.int r) ∧ Inv (j + 1) h3))
/-- all 28 calls -/
def jPairs (E : jEnv) (n : Nat) (Inv : Nat → HP → Prop) : Prop :=
  (∀ (x : Int32) (y : Int64), jPair E n Inv mX7_feed mX8_feed [.int x, .long y]) ∧
  (jPair E n Inv mX7_province mX8_province []) ∧
  (jPair E n Inv mX7_fault mX8_fault []) ∧
  (∀ (x : Int32), jPair E n Inv mX7_told mX8_told [.int x]) ∧
  (∀ (x : Int32) (y : Int32) (z : Int32), jPair E n Inv mX7_depth mX8_depth [.int x, .int y, .int z]) ∧
  (∀ (x : Int32) (y : Int32), jPair E n Inv mX7_man mX8_man [.int x, .int y]) ∧
  (∀ (x : Int32) (y : Int32), jPair E n Inv mX7_order mX8_order [.int x, .int y]) ∧
  (∀ (x : Int32), jPair E n Inv mX7_hour mX8_hour [.int x]) ∧
  (∀ (x : Int32), jPair E n Inv mX7_drift mX8_drift [.int x]) ∧
  (∀ (x : Int32) (y : Int32), jPair E n Inv mX7_saw mX8_saw [.int x, .int y]) ∧
  (∀ (x y z : Int32), (z = 0 ∨ z = 1) → jPair E n Inv mX7_stake mX8_stake [.int x, .int y, .int z]) ∧
  (∀ (x : Int32) (y : Int32) (z : Int32), jPair E n Inv mX7_canBe mX8_canBe [.int x, .int y, .int z]) ∧
  (∀ (x : Int32) (y : Int32), jPair E n Inv mX7_canHear mX8_canHear [.int x, .int y]) ∧
  (∀ (x : Int32) (y : Int32), jPair E n Inv mX7_first mX8_first [.int x, .int y]) ∧
  (∀ (x : Int32) (y : Int32) (z : Int32), jPair E n Inv mX7_sawed mX8_sawed [.int x, .int y, .int z]) ∧
  (∀ (x : Int32) (y : Int32), jPair E n Inv mX7_bestStake mX8_bestStake [.int x, .int y]) ∧
  (∀ (x : Int32) (y : Int32), jPair E n Inv mX7_inch mX8_inch [.int x, .int y]) ∧
  (∀ (x : Int32), jPair E n Inv mX7_nobody mX8_nobody [.int x]) ∧
  (∀ (x : Int32), jPair E n Inv mX7_alone mX8_alone [.int x]) ∧
  (∀ (x : Int32) (y : Int32), jPair E n Inv mX7_track mX8_track [.int x, .int y]) ∧
  (∀ (x : Int32) (y : Int32) (z : Int32), jPair E n Inv mX7_see mX8_see [.int x, .int y, .int z]) ∧
  (jPair E n Inv mX7_fits mX8_fits []) ∧
  (∀ (x : Int32) (y : Int32), jPair E n Inv mX7_write mX8_write [.int x, .int y]) ∧
  (jPair E n Inv mX7_tear mX8_tear []) ∧
  (jPair E n Inv mX7_judge mX8_judge []) ∧
  (∀ (x : Int32), jPair E n Inv mX7_seed mX8_seed [.int x]) ∧
  (∀ (x : Int32), jPair E n Inv mX7_keep mX8_keep [.int x]) ∧
  (∀ (x : Int32), jPair E n Inv mX7_goBack mX8_goBack [.int x])
theorem law_vp {L j : Nat} {d : Nat} (hL : L ≤ 2048) (h : 4 * j + 4 ≤ L) (hd : d < 4) {i z : Int32} (hi : i = nI (4 * j)) (hz : z = nI d) : vp_in (i + z) L := by
  rw [hi, hz, nI_add]
  exact vp_in_nI (by omega) (by omega)
theorem law_le {L j : Nat} (hL : L ≤ 2048) {i : Int32} (hj : j ≤ 512) (hi : i = nI (4 * j)) (hc : ¬ ((Int32.ofNat L) - 4) < i) : 4 * j + 4 ≤ L := by
  rw [hi] at hc
  have h1 := pk_sub_toInt (a := L) (b := 4) (by omega) (by omega)
  have h2 : (nI (4 * j)).toInt = ((4 * j : Nat) : Int) := nI_toInt (by omega)
  have h3 : ¬ (nI L - nI 4).toInt < (nI (4 * j)).toInt := fun z => hc (Int32.lt_iff_toInt_lt.mpr z)
  rw [h1, h2] at h3
  omega
set_option maxHeartbeats 4000000 in
set_option maxRecDepth 20000 in
theorem law_step {E : jEnv} {n : Nat} {Inv : Nat → HP → Prop} {L : Nat} {xs : Nat → Int32} (hL : L ≤ 2048) (hmono : ∀ j h, Inv j h → Inv (j + 1) h) (hp : jPairs E n Inv) (j : Nat) (i : Int32) (h : HP) (hj : j ≤ 512) (hi : i = nI (4 * j)) (hI : Inv j h)
    (ih : 4 * j + 4 ≤ L → ∀ h' : HP, Inv (j + 1) h' → jG E mL_law (n + 1) (jX E L xs) (fun v _ => v = some (.int 1)) 18 [some (.ref 1000), some (.ref 0), some (.ref 52), some (.int (i + 4))] [] h') :
    jG E mL_law (n + 1) (jX E L xs) (fun v _ => v = some (.int 1)) 18 [some (.ref 1000), some (.ref 0), some (.ref 52), some (.int i)] [] h := by
  have hle : ¬ ((Int32.ofNat L) - 4) < i → 4 * j + 4 ≤ L := law_le hL hj hi
  have hb0 : ¬ ((Int32.ofNat L) - 4) < i → vp_in i L := fun hc => by
    rw [hi]; exact vp_in_nI (by have := hle hc; omega) (by omega)
  have hb1 : ¬ ((Int32.ofNat L) - 4) < i → vp_in (i + 1) L := fun hc => law_vp hL (hle hc) (d := 1) (by omega) hi rfl
  have hb2 : ¬ ((Int32.ofNat L) - 4) < i → vp_in (i + 2) L := fun hc => law_vp hL (hle hc) (d := 2) (by omega) hi rfl
  have hb3 : ¬ ((Int32.ofNat L) - 4) < i → vp_in (i + 3) L := fun hc => law_vp hL (hle hc) (d := 3) (by omega) hi rfl
  refine q_law_18 i h (fun _ => rfl) (fun hc => hb0 hc) (fun hc _ => ih (law_le hL hj hi hc) h (hmono j h hI)) (fun hc _ => hb1 hc) (fun hc _ => hb2 hc) (fun hc _ => hb3 hc) (fun hc c1 => ?k2) (fun hc c1 => ?k3) (fun hc c1 => ?k4) (fun hc _ => hb1 hc) (fun hc c1 => ?k5) (fun hc _ => hb1 hc) (fun hc _ => hb2 hc) (fun hc _ => hb3 hc) (fun hc c1 => ?k6) (fun hc _ => hb1 hc) (fun hc _ => hb2 hc) (fun hc c1 => ?k7) (fun hc _ => hb1 hc) (fun hc _ => hb2 hc) (fun hc c1 => ?k8) (fun hc _ => hb1 hc) (fun hc c1 => ?k9) (fun hc _ => hb1 hc) (fun hc c1 => ?k10) (fun hc _ => hb1 hc) (fun hc _ => hb2 hc) (fun hc c1 => ?k11) (fun hc _ => hb1 hc) (fun hc _ => hb2 hc) (fun hc _ => hb3 hc) (fun hc c1 c2 => ?k12) (fun hc c1 c2 => ?k13) (fun hc _ => hb1 hc) (fun hc _ => hb2 hc) (fun hc _ => hb3 hc) (fun hc c1 => ?k14) (fun hc _ => hb1 hc) (fun hc _ => hb2 hc) (fun hc c1 => ?k15) (fun hc _ => hb1 hc) (fun hc _ => hb2 hc) (fun hc c1 => ?k16) (fun hc _ => hb1 hc) (fun hc _ => hb2 hc) (fun hc _ => hb3 hc) (fun hc c1 => ?k17) (fun hc _ => hb1 hc) (fun hc _ => hb2 hc) (fun hc c1 => ?k18) (fun hc _ => hb1 hc) (fun hc _ => hb2 hc) (fun hc c1 => ?k19) (fun hc _ => hb1 hc) (fun hc c1 => ?k20) (fun hc _ => hb1 hc) (fun hc c1 => ?k21) (fun hc _ => hb1 hc) (fun hc _ => hb2 hc) (fun hc c1 => ?k22) (fun hc _ => hb1 hc) (fun hc _ => hb2 hc) (fun hc _ => hb3 hc) (fun hc c1 => ?k23) (fun hc c1 => ?k24) (fun hc _ => hb1 hc) (fun hc _ => hb2 hc) (fun hc c1 => ?k25) (fun hc c1 => ?k26) (fun hc c1 => ?k27) (fun hc _ => hb1 hc) (fun hc c1 => ?k28) (fun hc _ => hb1 hc) (fun hc c1 => ?k29) (fun hc _ => hb1 hc) (fun hc c1 => ?k30)
  case k2 =>
    have hlt := hle hc
    have hb0 := hb0 hc; have hb1 := hb1 hc; have hb2 := hb2 hc; have hb3 := hb3 hc
    obtain ⟨P1, hC1, hK1⟩ := (hp.1 ((xs (i + 1).toNatClampNeg)) (((((xs (i + 2).toNatClampNeg).toInt64) <<< ((32 : Int32).toInt64 &&& 63)) ||| (((xs (i + 3).toNatClampNeg).toInt64) &&& 4294967295)))) j h (by omega) hI
    refine ⟨P1, hC1, fun v h2 hp1 => ?_⟩
    obtain ⟨r, rfl, P2, hC2, hK2⟩ := hK1 v h2 hp1
    refine q_law_189 i r h2 (hb1) (hb2) (hb3) ⟨P2, hC2, fun v2 h3 hp2 => ?_⟩
    obtain ⟨rfl, hI3⟩ := hK2 v2 h3 hp2
    exact q_law_218 i r r h3 (fun _ => ih hlt h3 hI3) (fun c => absurd rfl c)
  case k3 =>
    have hlt := hle hc
    have hb0 := hb0 hc; have hb1 := hb1 hc; have hb2 := hb2 hc; have hb3 := hb3 hc
    obtain ⟨P1, hC1, hK1⟩ := (hp.2.1) j h (by omega) hI
    refine ⟨P1, hC1, fun v h2 hp1 => ?_⟩
    obtain ⟨r, rfl, P2, hC2, hK2⟩ := hK1 v h2 hp1
    refine q_law_227 i r h2 ⟨P2, hC2, fun v2 h3 hp2 => ?_⟩
    obtain ⟨rfl, hI3⟩ := hK2 v2 h3 hp2
    exact q_law_231 i r r h3 (fun _ => ih hlt h3 hI3) (fun c => absurd rfl c)
  case k4 =>
    have hlt := hle hc
    have hb0 := hb0 hc; have hb1 := hb1 hc; have hb2 := hb2 hc; have hb3 := hb3 hc
    obtain ⟨P1, hC1, hK1⟩ := (hp.2.2.1) j h (by omega) hI
    refine ⟨P1, hC1, fun v h2 hp1 => ?_⟩
    obtain ⟨r, rfl, P2, hC2, hK2⟩ := hK1 v h2 hp1
    refine q_law_240 i r h2 ⟨P2, hC2, fun v2 h3 hp2 => ?_⟩
    obtain ⟨rfl, hI3⟩ := hK2 v2 h3 hp2
    exact q_law_244 i r r h3 (fun _ => ih hlt h3 hI3) (fun c => absurd rfl c)
  case k5 =>
    have hlt := hle hc
    have hb0 := hb0 hc; have hb1 := hb1 hc; have hb2 := hb2 hc; have hb3 := hb3 hc
    obtain ⟨P1, hC1, hK1⟩ := (hp.2.2.2.1 ((xs (i + 1).toNatClampNeg))) j h (by omega) hI
    refine ⟨P1, hC1, fun v h2 hp1 => ?_⟩
    obtain ⟨r, rfl, P2, hC2, hK2⟩ := hK1 v h2 hp1
    refine q_law_258 i r h2 (hb1) ⟨P2, hC2, fun v2 h3 hp2 => ?_⟩
    obtain ⟨rfl, hI3⟩ := hK2 v2 h3 hp2
    exact q_law_267 i r r h3 (fun _ => ih hlt h3 hI3) (fun c => absurd rfl c)
  case k6 =>
    have hlt := hle hc
    have hb0 := hb0 hc; have hb1 := hb1 hc; have hb2 := hb2 hc; have hb3 := hb3 hc
    obtain ⟨P1, hC1, hK1⟩ := (hp.2.2.2.2.1 ((xs (i + 1).toNatClampNeg)) ((xs (i + 2).toNatClampNeg)) ((xs (i + 3).toNatClampNeg))) j h (by omega) hI
    refine ⟨P1, hC1, fun v h2 hp1 => ?_⟩
    obtain ⟨r, rfl, P2, hC2, hK2⟩ := hK1 v h2 hp1
    refine q_law_291 i r h2 (hb1) (hb2) (hb3) ⟨P2, hC2, fun v2 h3 hp2 => ?_⟩
    obtain ⟨rfl, hI3⟩ := hK2 v2 h3 hp2
    exact q_law_310 i r r h3 (fun _ => ih hlt h3 hI3) (fun c => absurd rfl c)
  case k7 =>
    have hlt := hle hc
    have hb0 := hb0 hc; have hb1 := hb1 hc; have hb2 := hb2 hc; have hb3 := hb3 hc
    obtain ⟨P1, hC1, hK1⟩ := (hp.2.2.2.2.2.1 ((xs (i + 1).toNatClampNeg)) ((xs (i + 2).toNatClampNeg))) j h (by omega) hI
    refine ⟨P1, hC1, fun v h2 hp1 => ?_⟩
    obtain ⟨r, rfl, P2, hC2, hK2⟩ := hK1 v h2 hp1
    refine q_law_329 i r h2 (hb1) (hb2) ⟨P2, hC2, fun v2 h3 hp2 => ?_⟩
    obtain ⟨rfl, hI3⟩ := hK2 v2 h3 hp2
    exact q_law_343 i r r h3 (fun _ => ih hlt h3 hI3) (fun c => absurd rfl c)
  case k8 =>
    have hlt := hle hc
    have hb0 := hb0 hc; have hb1 := hb1 hc; have hb2 := hb2 hc; have hb3 := hb3 hc
    obtain ⟨P1, hC1, hK1⟩ := (hp.2.2.2.2.2.2.1 ((xs (i + 1).toNatClampNeg)) ((xs (i + 2).toNatClampNeg))) j h (by omega) hI
    refine ⟨P1, hC1, fun v h2 hp1 => ?_⟩
    obtain ⟨r, rfl, P2, hC2, hK2⟩ := hK1 v h2 hp1
    refine q_law_362 i r h2 (hb1) (hb2) ⟨P2, hC2, fun v2 h3 hp2 => ?_⟩
    obtain ⟨rfl, hI3⟩ := hK2 v2 h3 hp2
    exact q_law_376 i r r h3 (fun _ => ih hlt h3 hI3) (fun c => absurd rfl c)
  case k9 =>
    have hlt := hle hc
    have hb0 := hb0 hc; have hb1 := hb1 hc; have hb2 := hb2 hc; have hb3 := hb3 hc
    obtain ⟨P1, hC1, hK1⟩ := (hp.2.2.2.2.2.2.2.1 ((xs (i + 1).toNatClampNeg))) j h (by omega) hI
    refine ⟨P1, hC1, fun v h2 hp1 => ?_⟩
    obtain ⟨r, rfl, P2, hC2, hK2⟩ := hK1 v h2 hp1
    refine q_law_390 i r h2 (hb1) ⟨P2, hC2, fun v2 h3 hp2 => ?_⟩
    obtain ⟨rfl, hI3⟩ := hK2 v2 h3 hp2
    exact q_law_399 i r r h3 (fun _ => ih hlt h3 hI3) (fun c => absurd rfl c)
  case k10 =>
    have hlt := hle hc
    have hb0 := hb0 hc; have hb1 := hb1 hc; have hb2 := hb2 hc; have hb3 := hb3 hc
    obtain ⟨P1, hC1, hK1⟩ := (hp.2.2.2.2.2.2.2.2.1 ((xs (i + 1).toNatClampNeg))) j h (by omega) hI
    refine ⟨P1, hC1, fun v h2 hp1 => ?_⟩
    obtain ⟨r, rfl, P2, hC2, hK2⟩ := hK1 v h2 hp1
    refine q_law_413 i r h2 (hb1) ⟨P2, hC2, fun v2 h3 hp2 => ?_⟩
    obtain ⟨rfl, hI3⟩ := hK2 v2 h3 hp2
    exact q_law_422 i r r h3 (fun _ => ih hlt h3 hI3) (fun c => absurd rfl c)
  case k11 =>
    have hlt := hle hc
    have hb0 := hb0 hc; have hb1 := hb1 hc; have hb2 := hb2 hc; have hb3 := hb3 hc
    obtain ⟨P1, hC1, hK1⟩ := (hp.2.2.2.2.2.2.2.2.2.1 ((xs (i + 1).toNatClampNeg)) ((xs (i + 2).toNatClampNeg))) j h (by omega) hI
    refine ⟨P1, hC1, fun v h2 hp1 => ?_⟩
    obtain ⟨r, rfl, P2, hC2, hK2⟩ := hK1 v h2 hp1
    refine q_law_441 i r h2 (hb1) (hb2) ⟨P2, hC2, fun v2 h3 hp2 => ?_⟩
    obtain ⟨rfl, hI3⟩ := hK2 v2 h3 hp2
    exact q_law_455 i r r h3 (fun _ => ih hlt h3 hI3) (fun c => absurd rfl c)
  case k12 =>
    have hlt := hle hc
    have hb0 := hb0 hc; have hb1 := hb1 hc; have hb2 := hb2 hc; have hb3 := hb3 hc
    obtain ⟨P1, hC1, hK1⟩ := (hp.2.2.2.2.2.2.2.2.2.2.1 ((xs (i + 1).toNatClampNeg)) ((xs (i + 2).toNatClampNeg)) (0) (by decide)) j h (by omega) hI
    refine ⟨P1, hC1, fun v h2 hp1 => ?_⟩
    obtain ⟨r, rfl, P2, hC2, hK2⟩ := hK1 v h2 hp1
    refine q_law_487 i r h2 (hb1) (hb2) (hb3) (fun _ => ⟨P2, hC2, fun v2 h3 hp2 => ?_⟩) (fun d1 => by first | exact absurd c2 d1 | exact absurd d1 c2)
    obtain ⟨rfl, hI3⟩ := hK2 v2 h3 hp2
    exact q_law_514 i r r h3 (fun _ => ih hlt h3 hI3) (fun c => absurd rfl c)
  case k13 =>
    have hlt := hle hc
    have hb0 := hb0 hc; have hb1 := hb1 hc; have hb2 := hb2 hc; have hb3 := hb3 hc
    obtain ⟨P1, hC1, hK1⟩ := (hp.2.2.2.2.2.2.2.2.2.2.1 ((xs (i + 1).toNatClampNeg)) ((xs (i + 2).toNatClampNeg)) (1) (by decide)) j h (by omega) hI
    refine ⟨P1, hC1, fun v h2 hp1 => ?_⟩
    obtain ⟨r, rfl, P2, hC2, hK2⟩ := hK1 v h2 hp1
    refine q_law_487 i r h2 (hb1) (hb2) (hb3) (fun d1 => by first | exact absurd c2 d1 | exact absurd d1 c2) (fun _ => ⟨P2, hC2, fun v2 h3 hp2 => ?_⟩)
    obtain ⟨rfl, hI3⟩ := hK2 v2 h3 hp2
    exact q_law_514 i r r h3 (fun _ => ih hlt h3 hI3) (fun c => absurd rfl c)
  case k14 =>
    have hlt := hle hc
    have hb0 := hb0 hc; have hb1 := hb1 hc; have hb2 := hb2 hc; have hb3 := hb3 hc
    obtain ⟨P1, hC1, hK1⟩ := (hp.2.2.2.2.2.2.2.2.2.2.2.1 ((xs (i + 1).toNatClampNeg)) ((xs (i + 2).toNatClampNeg)) ((xs (i + 3).toNatClampNeg))) j h (by omega) hI
    refine ⟨P1, hC1, fun v h2 hp1 => ?_⟩
    obtain ⟨r, rfl, P2, hC2, hK2⟩ := hK1 v h2 hp1
    refine q_law_538 i r h2 (hb1) (hb2) (hb3) ⟨P2, hC2, fun v2 h3 hp2 => ?_⟩
    obtain ⟨rfl, hI3⟩ := hK2 v2 h3 hp2
    exact q_law_557 i r r h3 (fun _ => ih hlt h3 hI3) (fun c => absurd rfl c)
  case k15 =>
    have hlt := hle hc
    have hb0 := hb0 hc; have hb1 := hb1 hc; have hb2 := hb2 hc; have hb3 := hb3 hc
    obtain ⟨P1, hC1, hK1⟩ := (hp.2.2.2.2.2.2.2.2.2.2.2.2.1 ((xs (i + 1).toNatClampNeg)) ((xs (i + 2).toNatClampNeg))) j h (by omega) hI
    refine ⟨P1, hC1, fun v h2 hp1 => ?_⟩
    obtain ⟨r, rfl, P2, hC2, hK2⟩ := hK1 v h2 hp1
    refine q_law_576 i r h2 (hb1) (hb2) ⟨P2, hC2, fun v2 h3 hp2 => ?_⟩
    obtain ⟨rfl, hI3⟩ := hK2 v2 h3 hp2
    exact q_law_590 i r r h3 (fun _ => ih hlt h3 hI3) (fun c => absurd rfl c)
  case k16 =>
    have hlt := hle hc
    have hb0 := hb0 hc; have hb1 := hb1 hc; have hb2 := hb2 hc; have hb3 := hb3 hc
    obtain ⟨P1, hC1, hK1⟩ := (hp.2.2.2.2.2.2.2.2.2.2.2.2.2.1 ((xs (i + 1).toNatClampNeg)) ((xs (i + 2).toNatClampNeg))) j h (by omega) hI
    refine ⟨P1, hC1, fun v h2 hp1 => ?_⟩
    obtain ⟨r, rfl, P2, hC2, hK2⟩ := hK1 v h2 hp1
    refine q_law_609 i r h2 (hb1) (hb2) ⟨P2, hC2, fun v2 h3 hp2 => ?_⟩
    obtain ⟨rfl, hI3⟩ := hK2 v2 h3 hp2
    exact q_law_623 i r r h3 (fun _ => ih hlt h3 hI3) (fun c => absurd rfl c)
  case k17 =>
    have hlt := hle hc
    have hb0 := hb0 hc; have hb1 := hb1 hc; have hb2 := hb2 hc; have hb3 := hb3 hc
    obtain ⟨P1, hC1, hK1⟩ := (hp.2.2.2.2.2.2.2.2.2.2.2.2.2.2.1 ((xs (i + 1).toNatClampNeg)) ((xs (i + 2).toNatClampNeg)) ((xs (i + 3).toNatClampNeg))) j h (by omega) hI
    refine ⟨P1, hC1, fun v h2 hp1 => ?_⟩
    obtain ⟨r, rfl, P2, hC2, hK2⟩ := hK1 v h2 hp1
    refine q_law_647 i r h2 (hb1) (hb2) (hb3) ⟨P2, hC2, fun v2 h3 hp2 => ?_⟩
    obtain ⟨rfl, hI3⟩ := hK2 v2 h3 hp2
    exact q_law_666 i r r h3 (fun _ => ih hlt h3 hI3) (fun c => absurd rfl c)
  case k18 =>
    have hlt := hle hc
    have hb0 := hb0 hc; have hb1 := hb1 hc; have hb2 := hb2 hc; have hb3 := hb3 hc
    obtain ⟨P1, hC1, hK1⟩ := (hp.2.2.2.2.2.2.2.2.2.2.2.2.2.2.2.1 ((xs (i + 1).toNatClampNeg)) ((xs (i + 2).toNatClampNeg))) j h (by omega) hI
    refine ⟨P1, hC1, fun v h2 hp1 => ?_⟩
    obtain ⟨r, rfl, P2, hC2, hK2⟩ := hK1 v h2 hp1
    refine q_law_685 i r h2 (hb1) (hb2) ⟨P2, hC2, fun v2 h3 hp2 => ?_⟩
    obtain ⟨rfl, hI3⟩ := hK2 v2 h3 hp2
    exact q_law_699 i r r h3 (fun _ => ih hlt h3 hI3) (fun c => absurd rfl c)
  case k19 =>
    have hlt := hle hc
    have hb0 := hb0 hc; have hb1 := hb1 hc; have hb2 := hb2 hc; have hb3 := hb3 hc
    obtain ⟨P1, hC1, hK1⟩ := (hp.2.2.2.2.2.2.2.2.2.2.2.2.2.2.2.2.1 ((xs (i + 1).toNatClampNeg)) ((xs (i + 2).toNatClampNeg))) j h (by omega) hI
    refine ⟨P1, hC1, fun v h2 hp1 => ?_⟩
    obtain ⟨r, rfl, P2, hC2, hK2⟩ := hK1 v h2 hp1
    refine q_law_718 i r h2 (hb1) (hb2) ⟨P2, hC2, fun v2 h3 hp2 => ?_⟩
    obtain ⟨rfl, hI3⟩ := hK2 v2 h3 hp2
    exact q_law_732 i r r h3 (fun _ => ih hlt h3 hI3) (fun c => absurd rfl c)
  case k20 =>
    have hlt := hle hc
    have hb0 := hb0 hc; have hb1 := hb1 hc; have hb2 := hb2 hc; have hb3 := hb3 hc
    obtain ⟨P1, hC1, hK1⟩ := (hp.2.2.2.2.2.2.2.2.2.2.2.2.2.2.2.2.2.1 ((xs (i + 1).toNatClampNeg))) j h (by omega) hI
    refine ⟨P1, hC1, fun v h2 hp1 => ?_⟩
    obtain ⟨r, rfl, P2, hC2, hK2⟩ := hK1 v h2 hp1
    refine q_law_746 i r h2 (hb1) ⟨P2, hC2, fun v2 h3 hp2 => ?_⟩
    obtain ⟨rfl, hI3⟩ := hK2 v2 h3 hp2
    exact q_law_755 i r r h3 (fun _ => ih hlt h3 hI3) (fun c => absurd rfl c)
  case k21 =>
    have hlt := hle hc
    have hb0 := hb0 hc; have hb1 := hb1 hc; have hb2 := hb2 hc; have hb3 := hb3 hc
    obtain ⟨P1, hC1, hK1⟩ := (hp.2.2.2.2.2.2.2.2.2.2.2.2.2.2.2.2.2.2.1 ((xs (i + 1).toNatClampNeg))) j h (by omega) hI
    refine ⟨P1, hC1, fun v h2 hp1 => ?_⟩
    obtain ⟨r, rfl, P2, hC2, hK2⟩ := hK1 v h2 hp1
    refine q_law_769 i r h2 (hb1) ⟨P2, hC2, fun v2 h3 hp2 => ?_⟩
    obtain ⟨rfl, hI3⟩ := hK2 v2 h3 hp2
    exact q_law_778 i r r h3 (fun _ => ih hlt h3 hI3) (fun c => absurd rfl c)
  case k22 =>
    have hlt := hle hc
    have hb0 := hb0 hc; have hb1 := hb1 hc; have hb2 := hb2 hc; have hb3 := hb3 hc
    obtain ⟨P1, hC1, hK1⟩ := (hp.2.2.2.2.2.2.2.2.2.2.2.2.2.2.2.2.2.2.2.1 ((xs (i + 1).toNatClampNeg)) ((xs (i + 2).toNatClampNeg))) j h (by omega) hI
    refine ⟨P1, hC1, fun v h2 hp1 => ?_⟩
    obtain ⟨r, rfl, P2, hC2, hK2⟩ := hK1 v h2 hp1
    refine q_law_797 i r h2 (hb1) (hb2) ⟨P2, hC2, fun v2 h3 hp2 => ?_⟩
    obtain ⟨rfl, hI3⟩ := hK2 v2 h3 hp2
    exact q_law_811 i r r h3 (fun _ => ih hlt h3 hI3) (fun c => absurd rfl c)
  case k23 =>
    have hlt := hle hc
    have hb0 := hb0 hc; have hb1 := hb1 hc; have hb2 := hb2 hc; have hb3 := hb3 hc
    obtain ⟨P1, hC1, hK1⟩ := (hp.2.2.2.2.2.2.2.2.2.2.2.2.2.2.2.2.2.2.2.2.1 ((xs (i + 1).toNatClampNeg)) ((xs (i + 2).toNatClampNeg)) ((xs (i + 3).toNatClampNeg))) j h (by omega) hI
    refine ⟨P1, hC1, fun v h2 hp1 => ?_⟩
    obtain ⟨r, rfl, P2, hC2, hK2⟩ := hK1 v h2 hp1
    refine q_law_835 i r h2 (hb1) (hb2) (hb3) ⟨P2, hC2, fun v2 h3 hp2 => ?_⟩
    obtain ⟨rfl, hI3⟩ := hK2 v2 h3 hp2
    exact q_law_854 i r r h3 (fun _ => ih hlt h3 hI3) (fun c => absurd rfl c)
  case k24 =>
    have hlt := hle hc
    have hb0 := hb0 hc; have hb1 := hb1 hc; have hb2 := hb2 hc; have hb3 := hb3 hc
    obtain ⟨P1, hC1, hK1⟩ := (hp.2.2.2.2.2.2.2.2.2.2.2.2.2.2.2.2.2.2.2.2.2.1) j h (by omega) hI
    refine ⟨P1, hC1, fun v h2 hp1 => ?_⟩
    obtain ⟨r, rfl, P2, hC2, hK2⟩ := hK1 v h2 hp1
    refine q_law_863 i r h2 ⟨P2, hC2, fun v2 h3 hp2 => ?_⟩
    obtain ⟨rfl, hI3⟩ := hK2 v2 h3 hp2
    exact q_law_867 i r r h3 (fun _ => ih hlt h3 hI3) (fun c => absurd rfl c)
  case k25 =>
    have hlt := hle hc
    have hb0 := hb0 hc; have hb1 := hb1 hc; have hb2 := hb2 hc; have hb3 := hb3 hc
    obtain ⟨P1, hC1, hK1⟩ := (hp.2.2.2.2.2.2.2.2.2.2.2.2.2.2.2.2.2.2.2.2.2.2.1 ((xs (i + 1).toNatClampNeg)) ((xs (i + 2).toNatClampNeg))) j h (by omega) hI
    refine ⟨P1, hC1, fun v h2 hp1 => ?_⟩
    obtain ⟨r, rfl, P2, hC2, hK2⟩ := hK1 v h2 hp1
    refine q_law_886 i r h2 (hb1) (hb2) ⟨P2, hC2, fun v2 h3 hp2 => ?_⟩
    obtain ⟨rfl, hI3⟩ := hK2 v2 h3 hp2
    exact q_law_900 i r r h3 (fun _ => ih hlt h3 hI3) (fun c => absurd rfl c)
  case k26 =>
    have hlt := hle hc
    have hb0 := hb0 hc; have hb1 := hb1 hc; have hb2 := hb2 hc; have hb3 := hb3 hc
    obtain ⟨P1, hC1, hK1⟩ := (hp.2.2.2.2.2.2.2.2.2.2.2.2.2.2.2.2.2.2.2.2.2.2.2.1) j h (by omega) hI
    refine ⟨P1, hC1, fun v h2 hp1 => ?_⟩
    obtain ⟨r, rfl, P2, hC2, hK2⟩ := hK1 v h2 hp1
    refine q_law_909 i r h2 ⟨P2, hC2, fun v2 h3 hp2 => ?_⟩
    obtain ⟨rfl, hI3⟩ := hK2 v2 h3 hp2
    exact q_law_913 i r r h3 (fun _ => ih hlt h3 hI3) (fun c => absurd rfl c)
  case k27 =>
    have hlt := hle hc
    have hb0 := hb0 hc; have hb1 := hb1 hc; have hb2 := hb2 hc; have hb3 := hb3 hc
    obtain ⟨P1, hC1, hK1⟩ := (hp.2.2.2.2.2.2.2.2.2.2.2.2.2.2.2.2.2.2.2.2.2.2.2.2.1) j h (by omega) hI
    refine ⟨P1, hC1, fun v h2 hp1 => ?_⟩
    obtain ⟨r, rfl, P2, hC2, hK2⟩ := hK1 v h2 hp1
    refine q_law_922 i r h2 ⟨P2, hC2, fun v2 h3 hp2 => ?_⟩
    obtain ⟨rfl, hI3⟩ := hK2 v2 h3 hp2
    exact q_law_926 i r r h3 (fun _ => ih hlt h3 hI3) (fun c => absurd rfl c)
  case k28 =>
    have hlt := hle hc
    have hb0 := hb0 hc; have hb1 := hb1 hc; have hb2 := hb2 hc; have hb3 := hb3 hc
    obtain ⟨P1, hC1, hK1⟩ := (hp.2.2.2.2.2.2.2.2.2.2.2.2.2.2.2.2.2.2.2.2.2.2.2.2.2.1 ((xs (i + 1).toNatClampNeg))) j h (by omega) hI
    refine ⟨P1, hC1, fun v h2 hp1 => ?_⟩
    obtain ⟨r, rfl, P2, hC2, hK2⟩ := hK1 v h2 hp1
    refine q_law_940 i r h2 (hb1) ⟨P2, hC2, fun v2 h3 hp2 => ?_⟩
    obtain ⟨rfl, hI3⟩ := hK2 v2 h3 hp2
    exact q_law_949 i r r h3 (fun _ => ih hlt h3 hI3) (fun c => absurd rfl c)
  case k29 =>
    have hlt := hle hc
    have hb0 := hb0 hc; have hb1 := hb1 hc; have hb2 := hb2 hc; have hb3 := hb3 hc
    obtain ⟨P1, hC1, hK1⟩ := (hp.2.2.2.2.2.2.2.2.2.2.2.2.2.2.2.2.2.2.2.2.2.2.2.2.2.2.1 ((xs (i + 1).toNatClampNeg))) j h (by omega) hI
    refine ⟨P1, hC1, fun v h2 hp1 => ?_⟩
    obtain ⟨r, rfl, P2, hC2, hK2⟩ := hK1 v h2 hp1
    refine q_law_963 i r h2 (hb1) ⟨P2, hC2, fun v2 h3 hp2 => ?_⟩
    obtain ⟨rfl, hI3⟩ := hK2 v2 h3 hp2
    exact q_law_972 i r r h3 (fun _ => ih hlt h3 hI3) (fun c => absurd rfl c)
  case k30 =>
    have hlt := hle hc
    have hb0 := hb0 hc; have hb1 := hb1 hc; have hb2 := hb2 hc; have hb3 := hb3 hc
    obtain ⟨P1, hC1, hK1⟩ := (hp.2.2.2.2.2.2.2.2.2.2.2.2.2.2.2.2.2.2.2.2.2.2.2.2.2.2.2 ((xs (i + 1).toNatClampNeg))) j h (by omega) hI
    refine ⟨P1, hC1, fun v h2 hp1 => ?_⟩
    obtain ⟨r, rfl, P2, hC2, hK2⟩ := hK1 v h2 hp1
    refine q_law_986 i r h2 (hb1) ⟨P2, hC2, fun v2 h3 hp2 => ?_⟩
    obtain ⟨rfl, hI3⟩ := hK2 v2 h3 hp2
    exact q_law_995 i r r h3 (fun _ => ih hlt h3 hI3) (fun c => absurd rfl c)
theorem law_all {E : jEnv} {n : Nat} {Inv : Nat → HP → Prop} {L : Nat} {xs : Nat → Int32} (hL : L ≤ 2048) (hmono : ∀ j h, Inv j h → Inv (j + 1) h) (hp : jPairs E n Inv) : ∀ (k j : Nat) (i : Int32) (h : HP), j + k = 512 → i = nI (4 * j) → Inv j h →
    jG E mL_law (n + 1) (jX E L xs) (fun v _ => v = some (.int 1)) 18 [some (.ref 1000), some (.ref 0), some (.ref 52), some (.int i)] [] h := by
  intro k
  induction k with
  | zero => intro j i h hk hi hI; exact law_step hL hmono hp j i h (by omega) hi hI (fun hlt => by omega)
  | succ k ih => intro j i h hk hi hI; exact law_step hL hmono hp j i h (by omega) hi hI (fun hlt h' hI' => ih (j + 1) (i + 4) h' (by omega) (by rw [hi]; exact nI_add (4 * j) 4) hI')
