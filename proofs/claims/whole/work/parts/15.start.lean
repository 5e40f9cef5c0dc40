/-- what the two constructors leave -/
def h0 : HP := (fun k => match k with
  | 3 => fun j => if j = 2 then 1 else 0
  | 5 => upd (fun _ => 0) 0 5
  | 10 => fun j => if j = 3 then (-1) else 0
  | 11 => fun j => if j = 2 then 1 else 0
  | 13 => upd (fun _ => 0) 0 5
  | 24 => fun j => if j = 8 then (-1) else if j = 9 then (-1) else if j = 10 then (-1) else 0
  | 30 => fun j => if j = 2 then (-1) else 0
  | 52 => fun j => if j = 4 then 1 else if j = 12 then (-1) else 0
  | 54 => upd (fun _ => 0) 0 5
  | _ => fun _ => 0, fun _ _ => 0)
/-- the addresses -/
def jEn (D : va_G) (dA : Nat → ClassId) (b : Nat) (adK adV : Nat → Nat) (qs : List Nat) : jEnv := (fun k => if k < 72 then qs.getD k 0 else if k < 2000 then b else if k < 3000 then adK (k - 2000) else adV (k - 3000), D, dA)
set_option maxRecDepth 100000 in
set_option maxHeartbeats 4000000 in
theorem h0_world (D : va_G) (dA : Nat → ClassId) (b : Nat) (adK adV : Nat → Nat) (a0 a1 a2 a3 a4 a5 a6 a7 a8 a9 a10 a11 a12 a13 a14 a15 a16 a17 a18 a19 a20 a21 a22 a23 a24 a25 a26 a27 a28 a29 a30 a31 a32 a33 a34 a35 a36 a37 a38 a39 a40 a41 a42 a43 a44 a45 a46 a47 a48 a49 a50 a51 a52 a53 a54 a55 a56 a57 a58 a59 a60 a61 a62 a63 a64 a65 a66 a67 a68 a69 a70 a71 : Nat) : ([(a0, .inr (7, [.ref a1, .ref a3, .ref a10, .ref a18, .ref a24, .ref a30, .ref a33, .ref a38, .ref a39])), (a1, .inr (6, [.ref a2, .int 0])), (a2, .inl (dA 9, 500, .inl (fun _ => 0))), (a3, .inr (2, [.int 0, .int 0, .int 1, .int 0, .int 0, .int 0, .long 0, .long 0, .long 0, .ref a4, .ref a5, .ref a6, .ref a7, .ref a8, .ref a9])), (a4, .inl (dA 10, 36, .inl (fun _ => 0))), (a5, .inl (dA 10, 6, .inl (upd (fun _ => 0) 0 5))), (a6, .inl (dA 10, 4, .inl (fun _ => 0))), (a7, .inl (dA 10, 4, .inl (fun _ => 0))), (a8, .inl (dA 10, 4, .inl (fun _ => 0))), (a9, .inl (dA 11, 48, .inr (.inl (fun _ => 0)))), (a10, .inr (3, [.ref a1, .ref a11, .int 0, .int (-1), .int 0, .int 0, .int 0, .int 0, .int 0])), (a11, .inr (2, [.int 0, .int 0, .int 1, .int 0, .int 0, .int 0, .long 0, .long 0, .long 0, .ref a12, .ref a13, .ref a14, .ref a15, .ref a16, .ref a17])), (a12, .inl (dA 10, 36, .inl (fun _ => 0))), (a13, .inl (dA 10, 6, .inl (upd (fun _ => 0) 0 5))), (a14, .inl (dA 10, 4, .inl (fun _ => 0))), (a15, .inl (dA 10, 4, .inl (fun _ => 0))), (a16, .inl (dA 10, 4, .inl (fun _ => 0))), (a17, .inl (dA 11, 48, .inr (.inl (fun _ => 0)))), (a18, .inr (5, [.ref a3, .int 0, .int 0, .long 0, .ref a19, .ref a20, .ref a21, .ref a22, .ref a23])), (a19, .inl (dA 10, 4, .inl (fun _ => 0))), (a20, .inl (dA 10, 4, .inl (fun _ => 0))), (a21, .inl (dA 10, 4, .inl (fun _ => 0))), (a22, .inl (dA 10, 4, .inl (fun _ => 0))), (a23, .inl (dA 10, 4, .inl (fun _ => 0))), (a24, .inr (4, [.ref a3, .ref a18, .ref a25, .long 0, .ref a26, .ref a27, .ref a28, .ref a29, .int (-1), .int (-1), .int (-1)])), (a25, .inl (dA 10, 4, .inl (fun _ => 0))), (a26, .inl (dA 11, 4, .inr (.inl (fun _ => 0)))), (a27, .inl (dA 11, 4, .inr (.inl (fun _ => 0)))), (a28, .inl (dA 10, 4, .inl (fun _ => 0))), (a29, .inl (dA 10, 4, .inl (fun _ => 0))), (a30, .inr (1, [.ref a3, .ref a18, .int (-1), .int 0, .ref a31, .ref a32])), (a31, .inl (dA 10, 20, .inl (fun _ => 0))), (a32, .inl (dA 10, 20, .inl (fun _ => 0))), (a33, .inr (0, [.ref a18, .int 0, .ref a34, .ref a35, .ref a36, .ref a37])), (a34, .inl (dA 10, 40, .inl (fun _ => 0))), (a35, .inl (dA 10, 40, .inl (fun _ => 0))), (a36, .inl (dA 10, 4, .inl (fun _ => 0))), (a37, .inl (dA 10, 4, .inl (fun _ => 0))), (a38, .inl (dA 13, 2, .inr (.inr (.inr (.inr (va_up (va_up (fun _ => none) 0 (some a40)) 1 (some a46))))))), (a39, .inl (dA 12, 2, .inl (fun _ => 0))), (a40, .inr (5, [.ref a3, .int 0, .int 0, .long 0, .ref a41, .ref a42, .ref a43, .ref a44, .ref a45])), (a41, .inl (dA 10, 4, .inl (fun _ => 0))), (a42, .inl (dA 10, 4, .inl (fun _ => 0))), (a43, .inl (dA 10, 4, .inl (fun _ => 0))), (a44, .inl (dA 10, 4, .inl (fun _ => 0))), (a45, .inl (dA 10, 4, .inl (fun _ => 0))), (a46, .inr (5, [.ref a3, .int 0, .int 0, .long 0, .ref a47, .ref a48, .ref a49, .ref a50, .ref a51])), (a47, .inl (dA 10, 4, .inl (fun _ => 0))), (a48, .inl (dA 10, 4, .inl (fun _ => 0))), (a49, .inl (dA 10, 4, .inl (fun _ => 0))), (a50, .inl (dA 10, 4, .inl (fun _ => 0))), (a51, .inl (dA 10, 4, .inl (fun _ => 0))), (a52, .inr (8, [.int 0, .int 0, .ref a53, .ref a54, .int 1, .int 0, .int 0, .ref a55, .int 0, .ref a56, .ref a57, .ref a58, .int (-1), .ref a59, .int 0, .ref a60, .int 0, .ref a61, .int 0, .int 0, .int 0, .int 0, .int 0, .int 0, .int 0, .int 0, .int 0, .int 0, .ref a62, .ref a63, .int 0, .int 0, .ref a64, .int 0, .ref a65, .int 0, .int 0, .int 0, .ref a66, .ref a67, .int 0, .ref a68, .ref a69, .ref a70, .ref a71])), (a53, .inl (dA 10, 36, .inl (fun _ => 0))), (a54, .inl (dA 10, 6, .inl (upd (fun _ => 0) 0 5))), (a55, .inl (dA 10, 4, .inl (fun _ => 0))), (a56, .inl (dA 10, 62, .inl (fun _ => 0))), (a57, .inl (dA 10, 124, .inl (fun _ => 0))), (a58, .inl (dA 12, 2, .inl (fun _ => 0))), (a59, .inl (dA 10, 40, .inl (fun _ => 0))), (a60, .inl (dA 10, 80, .inl (fun _ => 0))), (a61, .inl (dA 10, 500, .inl (fun _ => 0))), (a62, .inl (dA 10, 36, .inl (fun _ => 0))), (a63, .inl (dA 10, 6, .inl (fun _ => 0))), (a64, .inl (dA 10, 12, .inl (fun _ => 0))), (a65, .inl (dA 10, 4, .inl (fun _ => 0))), (a66, .inl (dA 11, 4, .inr (.inl (fun _ => 0)))), (a67, .inl (dA 11, 4, .inr (.inl (fun _ => 0)))), (a68, .inl (dA 10, 4, .inl (fun _ => 0))), (a69, .inl (dA 10, 4, .inl (fun _ => 0))), (a70, .inl (dA 10, 4, .inl (fun _ => 0))), (a71, .inl (dA 10, 4, .inl (fun _ => 0)))] : va_W) = (jW (jEn D dA b adK adV [a0, a1, a2, a3, a4, a5, a6, a7, a8, a9, a10, a11, a12, a13, a14, a15, a16, a17, a18, a19, a20, a21, a22, a23, a24, a25, a26, a27, a28, a29, a30, a31, a32, a33, a34, a35, a36, a37, a38, a39, a40, a41, a42, a43, a44, a45, a46, a47, a48, a49, a50, a51, a52, a53, a54, a55, a56, a57, a58, a59, a60, a61, a62, a63, a64, a65, a66, a67, a68, a69, a70, a71]) h0).set 38 (a38, .inl (dA 13, 2, .inr (.inr (.inr (.inr (va_up (va_up (fun _ => none) 0 (some a40)) 1 (some a46))))))) := by
  rfl

theorem arrV_congr {cI : ClassId} {N : Nat} {f g : Nat → Value} (h : ∀ j, j < N → f j = g j) : arrV cI N f = arrV cI N g := by
  have : (fun j : Fin N => f j.val) = (fun j : Fin N => g j.val) := funext fun j => h j.val j.isLt
  simp only [arrV, this]
/-- what is known at the law's entry of the script, the String constants, the static field -/
def jLx (b L : Nat) (xs : Nat → Int32) (adK adV : Nat → Nat) (s : State) (A : Nat → Prop) : Prop :=
  (∀ q, A q ↔ s.heap.size ≤ q) ∧ va_X b L xs s s.heap ∧ b < s.heap.size ∧ (∀ i : Nat, i < 6 → vk_R "StiltHeralds$LandReader" (jSi i) (jSt i) (adK i) s) ∧ vk_S 6 jSl jSb adK adV A s s.heap ∧ va_Z "java/lang/String" "COMPACT_STRINGS" "Z" (.int 1) A s s.heap ∧ (va_Z "jdk/internal/util/Preconditions" "SIOOBE_FORMATTER" "Ljava/util/function/BiFunction;" .null A s s.heap ∨ va_Z "jdk/internal/util/Preconditions" "SIOOBE_FORMATTER" "Ljava/util/function/BiFunction;" (.ref (adV 1000)) A s s.heap)
theorem jEn_S {D : va_G} {dA : Nat → ClassId} {b : Nat} {adK adV : Nat → Nat} {qs : List Nat} {i : Nat} (hi : i < 6) : (jEn D dA b adK adV qs).1 (2000 + i) = adK i ∧ (jEn D dA b adK adV qs).1 (3000 + i) = adV i := by
  constructor
  · show (if 2000 + i < 72 then _ else if 2000 + i < 2000 then _ else if 2000 + i < 3000 then _ else _) = _
    rw [if_neg (by omega), if_neg (by omega), if_pos (by omega), Nat.add_sub_cancel_left]
  · show (if 3000 + i < 72 then _ else if 3000 + i < 2000 then _ else if 3000 + i < 3000 then _ else _) = _
    rw [if_neg (by omega), if_neg (by omega), if_neg (by omega), Nat.add_sub_cancel_left]
set_option maxHeartbeats 1000000 in
/-- both objects made: the judgement of the fixed shape takes over -/
theorem law_hand {D : va_G} {dA : Nat → ClassId} {b L : Nat} {xs : Nat → Int32} {adK adV : Nat → Nat} {n : Nat} {Inv : Nat → HP → Prop} (hL : L ≤ 2048) (hmono : ∀ j h, Inv j h → Inv (j + 1) h) (hI0 : Inv 0 h0) (hp : ∀ E, jPairs E n Inv) (qs : List Nat) (f : Nat → Option Nat) (hf : ∀ i, i < 2 → f i = some ((jEn D dA b adK adV qs).1 (jRef 38 i))) {mc ms nc ns : Nat} (hc : nc ≤ mc) (hs : ns ≤ ms) :
    jB D dA mL_law (n + 1) (jLx b L xs adK adV) mc ms (fun v _ => v = some (.int 1)) 18 [some (.ref b), some (.ref (qs.getD 0 0)), some (.ref (qs.getD 52 0)), some (.int 0)] [] ((jW (jEn D dA b adK adV qs) h0).set 38 (qs.getD 38 0, .inl (dA 13, 2, .inr (.inr (.inr (.inr f)))))) nc ns := by
  intro p l e R s m args below meth c H locs Q ls A hC h1 h2 hX hP hD hS hA hL' hF
  obtain ⟨hAe, hscr, hbl, hR, hSS, hZ, hZ2⟩ := hX
  generalize hE : jEn D dA b adK adV qs = E at *
  have e38 : E.1 38 = qs.getD 38 0 := by rw [← hE]; rfl
  have e0 : E.1 0 = qs.getD 0 0 := by rw [← hE]; rfl
  have e52 : E.1 52 = qs.getD 52 0 := by rw [← hE]; rfl
  have e1000 : E.1 1000 = b := by rw [← hE]; rfl
  have e4000 : E.1 4000 = adV 1000 := by rw [← hE]; rfl
  have eD : E.2.1 = D := by rw [← hE]; rfl
  have eA : E.2.2 = dA := by rw [← hE]; rfl
  rw [← e38] at hP hD
  have hat : ∀ k, k < 72 → ∃ x, ((jW E h0).set 38 (E.1 38, .inl (dA 13, 2, .inr (.inr (.inr (.inr f))))))[k]? = some (E.1 k, x) := by
    intro k hk
    by_cases h38 : k = 38
    · subst h38
      exact ⟨_, List.getElem?_set_self (by rw [jW_len]; decide)⟩
    · exact ⟨_, by rw [List.getElem?_set_ne (Ne.symm h38), jW_at hk]⟩
  have hinj : jInj E := by
    intro i j hi hj he
    obtain ⟨x, hx⟩ := hat i hi
    obtain ⟨y, hy⟩ := hat j hj
    exact hD.1 i j _ _ hx hy he
  have hAk : ∀ q, jIn E q → s.heap.size ≤ q := by
    rintro q ⟨k, hk, rfl⟩
    obtain ⟨x, hx⟩ := hat k hk
    exact (hAe _).mp (hD.2 k _ hx)
  have hAk2 : ∀ q, jIn E q → A q := fun q h => (hAe q).mpr (hAk q h)
  have hP0 : va_P E.2.1 vwCl (jW E h0) H := by
    intro k q hq
    obtain ⟨hk, rfl⟩ := jW_get hq
    rw [eD]
    by_cases h38 : k = 38
    · subst h38
      have h3 := hP 38 _ (List.getElem?_set_self (by rw [jW_len]; decide))
      have h4 : H[E.1 38]? = some (vp_cell (dA 13) (2, .inr (.inr (.inr (.inr f))))) := h3
      show va_at D vwCl (E.1 38, jE E h0 38) H
      rw [jE_ref rfl, eA]
      show H[E.1 38]? = some (vp_cell (dA 13) (2, .inr (.inr (.inr (.inr (fun i => some (E.1 (jRef 38 i))))))))
      rw [h4, vp_cell_q, vp_cell_q]
      exact congrArg some (arrV_congr (fun j hj => by rw [hf j hj]))
    · exact hP k _ (by rw [List.getElem?_set_ne (Ne.symm h38), jW_at hk])
  have hSC : jSC E s s.heap := by
    refine ⟨by rw [eD, eA]; exact hC.2.2.2.2.2.2.2.1.1, hC.2.2.2.2.2.2.2.1.2.1, fun i hi => ?_, ?_, ⟨hZ.narrow hAk2, hZ2.imp (fun z => z.narrow hAk2) (fun z => by rw [e4000]; exact z.narrow hAk2)⟩, hinj⟩
    · rw [← hE, (jEn_S hi).1]; exact hR i hi
    · have h5 := hSS.narrow hAk2
      refine ⟨fun i hi => ?_, fun i j hi hj he => ?_⟩
      · have h6 := h5.1 i hi
        have e1 : E.1 (2000 + i) = adK i := by rw [← hE, (jEn_S hi).1]
        have e2 : E.1 (3000 + i) = adV i := by rw [← hE, (jEn_S hi).2]
        show va_O _ (E.1 (2000 + i)) _ _ _ ∧ va_OF _ _ _ _ (E.1 (2000 + i)) _ _ _ ∧ va_OF _ _ _ (.ref (E.1 (3000 + i))) (E.1 (2000 + i)) _ _ _ ∧ va_T _ (E.1 (3000 + i)) _ _ _ _ _
        rw [e1, e2]
        exact h6
      · have e1 : E.1 (2000 + i) = adK i := by rw [← hE, (jEn_S hi).1]
        have e2 : E.1 (2000 + j) = adK j := by rw [← hE, (jEn_S hj).1]
        have he' : E.1 (2000 + i) = E.1 (2000 + j) := he
        rw [e1, e2] at he'
        exact hSS.2 i j hi hj he'
  have hXE : jX E L xs s := ⟨by rw [e1000]; exact hscr, by rw [e1000]; exact hbl, by rw [e1000]; exact fun hz => absurd (hAk _ hz) (Nat.not_le.mpr hbl)⟩
  refine W.widen hc hs (va_forget (fun q hq => (hAe _).mp (hS.2.2 q hq)) ?_)
  refine law_all (E := E) (n := n) (L := L) (xs := xs) hL hmono (hp E) 512 0 0 h0 rfl rfl hI0 p l e R s m args below meth c H [] mc ms Q ls ⟨hC.1, hC.2.1, hC.2.2.1, hC.2.2.2.1, hC.2.2.2.2.1, hC.2.2.2.2.2.1, hC.2.2.2.2.2.2.1, hSC, hC.2.2.2.2.2.2.2.2.1, hC.2.2.2.2.2.2.2.2.2.1⟩ h1 h2 hXE hP0 ⟨hS.1, fun q q1 q2 => hS.2.1 q q1 (fun z => absurd ((hAe q).mp z) (Nat.not_le.mpr q1)), fun q hq => by cases hq⟩ ⟨hL'.1, hL'.2.1, fun i v hv => ?_⟩ ?_
  · have hl := hL'.2.2
    match i, hv with
    | 0, hv => cases hv; have := hl 0 (.ref b) rfl; rw [jB0_V] at this; show ls[0]? = some (.val (.ref (E.1 1000))); rw [e1000]; exact this
    | 1, hv => cases hv; have := hl 1 (.ref (qs.getD 0 0)) rfl; rw [jB0_V] at this; show ls[1]? = some (.val (.ref (E.1 0))); rw [e0]; exact this
    | 2, hv => cases hv; have := hl 2 (.ref (qs.getD 52 0)) rfl; rw [jB0_V] at this; show ls[2]? = some (.val (.ref (E.1 52))); rw [e52]; exact this
    | 3, hv => cases hv; have := hl 3 (.int 0) rfl; rw [jB0_V] at this; exact this
    | i + 4, hv => simp at hv
  · intro pc' ls' v h' H' locs' hret hpost hP' hS'
    have := hF pc' ls' v (jW E h') H' locs' hret hpost (by rw [← eD]; exact hP') ((jW_D hinj h').weaken (fun _ q _ hq => hAk2 _ hq)) ⟨hS'.1, fun q q1 q2 => hS'.2.1 q q1 (fun z => q2 (hAk2 q z)), fun q hq => hAk2 _ (hS'.2.2 q hq)⟩
    have ev : v.toList.map (jV E) = v.toList := by
      rcases hret with ⟨_, x, _, rfl, _⟩ | ⟨_, _, x, rfl⟩ | ⟨_, _, rfl⟩ <;> rfl
    rw [ev]
    exact this

set_option maxRecDepth 100000 in
set_option maxHeartbeats 4000000 in
theorem law_start {D : va_G} {dA : Nat → ClassId} {b L : Nat} {xs : Nat → Int32} {adK adV : Nat → Nat} {n : Nat} {Inv : Nat → HP → Prop} (hL : L ≤ 2048) (hmono : ∀ j h, Inv j h → Inv (j + 1) h) (hI0 : Inv 0 h0) (hp : ∀ E, jPairs E (n + 3) Inv) :
    jB D dA mL_law (n + 4) (jLx b L xs adK adV) 600000 7302250 (fun v _ => v = some (.int 1)) 0 [some (.ref b), none, none, none] [] [] 0 0 := by
  refine jb_new (pc' := 3) jK7 wcl_RL_7 wins_RX7 wini_RX7 (fs := [.null, .null, .null, .null, .null, .null, .null, .null, .null]) (by decide +kernel) (by decide) (by decide) dL_law_0 rfl (fun a0 => ?_)
  refine jb_dup (pc' := 4) dL_law_3 rfl rfl ?_
  refine jb_callI (pc' := 7) (n := n + 3) (wr := []) (b := a0) (e0 := .inr (7, [.null, .null, .null, .null, .null, .null, .null, .null, .null])) (av := []) (st := [.ref a0]) md_X7_init mi_X7_init rfl rfl (Or.inl wmL_9) dL_law_4 rfl rfl (Nat.le_of_ble_eq_true rfl) rfl rfl (by decide) (by decide) (cb_X7_init (n := n) a0) (fun w1 hw1 => ?_)
  obtain ⟨a1, a2, a3, a4, a5, a6, a7, a8, a9, a10, a11, a12, a13, a14, a15, a16, a17, a18, a19, a20, a21, a22, a23, a24, a25, a26, a27, a28, a29, a30, a31, a32, a33, a34, a35, a36, a37, a38, a39, a40, a41, a42, a43, a44, a45, a46, a47, a48, a49, a50, a51, rfl⟩ := hw1
  refine jb_astore (pc' := 8) (i := 1) (lv' := [some (.ref b), some (.ref a0), none, none]) dL_law_7 rfl rfl (by decide) rfl ?_
  refine jb_new (pc' := 11) jK8 wcl_RL_10 wins_RX8 wini_RX8 (fs := [.int 0, .int 0, .null, .null, .int 0, .int 0, .int 0, .null, .int 0, .null, .null, .null, .int 0, .null, .int 0, .null, .int 0, .null, .int 0, .int 0, .int 0, .int 0, .int 0, .int 0, .int 0, .int 0, .int 0, .int 0, .null, .null, .int 0, .int 0, .null, .int 0, .null, .int 0, .int 0, .int 0, .null, .null, .int 0, .null, .null, .null, .null]) (by decide +kernel) (by decide) (by decide) dL_law_8 rfl (fun a52 => ?_)
  refine jb_dup (pc' := 12) dL_law_11 rfl rfl ?_
  refine jb_callI (pc' := 15) (n := n + 3) (wr := [(a0, .inr (7, [.ref a1, .ref a3, .ref a10, .ref a18, .ref a24, .ref a30, .ref a33, .ref a38, .ref a39])), (a1, .inr (6, [.ref a2, .int 0])), (a2, .inl (dA 9, 500, .inl (fun _ => 0))), (a3, .inr (2, [.int 0, .int 0, .int 1, .int 0, .int 0, .int 0, .long 0, .long 0, .long 0, .ref a4, .ref a5, .ref a6, .ref a7, .ref a8, .ref a9])), (a4, .inl (dA 10, 36, .inl (fun _ => 0))), (a5, .inl (dA 10, 6, .inl (upd (fun _ => 0) 0 5))), (a6, .inl (dA 10, 4, .inl (fun _ => 0))), (a7, .inl (dA 10, 4, .inl (fun _ => 0))), (a8, .inl (dA 10, 4, .inl (fun _ => 0))), (a9, .inl (dA 11, 48, .inr (.inl (fun _ => 0)))), (a10, .inr (3, [.ref a1, .ref a11, .int 0, .int (-1), .int 0, .int 0, .int 0, .int 0, .int 0])), (a11, .inr (2, [.int 0, .int 0, .int 1, .int 0, .int 0, .int 0, .long 0, .long 0, .long 0, .ref a12, .ref a13, .ref a14, .ref a15, .ref a16, .ref a17])), (a12, .inl (dA 10, 36, .inl (fun _ => 0))), (a13, .inl (dA 10, 6, .inl (upd (fun _ => 0) 0 5))), (a14, .inl (dA 10, 4, .inl (fun _ => 0))), (a15, .inl (dA 10, 4, .inl (fun _ => 0))), (a16, .inl (dA 10, 4, .inl (fun _ => 0))), (a17, .inl (dA 11, 48, .inr (.inl (fun _ => 0)))), (a18, .inr (5, [.ref a3, .int 0, .int 0, .long 0, .ref a19, .ref a20, .ref a21, .ref a22, .ref a23])), (a19, .inl (dA 10, 4, .inl (fun _ => 0))), (a20, .inl (dA 10, 4, .inl (fun _ => 0))), (a21, .inl (dA 10, 4, .inl (fun _ => 0))), (a22, .inl (dA 10, 4, .inl (fun _ => 0))), (a23, .inl (dA 10, 4, .inl (fun _ => 0))), (a24, .inr (4, [.ref a3, .ref a18, .ref a25, .long 0, .ref a26, .ref a27, .ref a28, .ref a29, .int (-1), .int (-1), .int (-1)])), (a25, .inl (dA 10, 4, .inl (fun _ => 0))), (a26, .inl (dA 11, 4, .inr (.inl (fun _ => 0)))), (a27, .inl (dA 11, 4, .inr (.inl (fun _ => 0)))), (a28, .inl (dA 10, 4, .inl (fun _ => 0))), (a29, .inl (dA 10, 4, .inl (fun _ => 0))), (a30, .inr (1, [.ref a3, .ref a18, .int (-1), .int 0, .ref a31, .ref a32])), (a31, .inl (dA 10, 20, .inl (fun _ => 0))), (a32, .inl (dA 10, 20, .inl (fun _ => 0))), (a33, .inr (0, [.ref a18, .int 0, .ref a34, .ref a35, .ref a36, .ref a37])), (a34, .inl (dA 10, 40, .inl (fun _ => 0))), (a35, .inl (dA 10, 40, .inl (fun _ => 0))), (a36, .inl (dA 10, 4, .inl (fun _ => 0))), (a37, .inl (dA 10, 4, .inl (fun _ => 0))), (a38, .inl (dA 13, 2, .inr (.inr (.inr (.inr (va_up (va_up (fun _ => none) 0 (some a40)) 1 (some a46))))))), (a39, .inl (dA 12, 2, .inl (fun _ => 0))), (a40, .inr (5, [.ref a3, .int 0, .int 0, .long 0, .ref a41, .ref a42, .ref a43, .ref a44, .ref a45])), (a41, .inl (dA 10, 4, .inl (fun _ => 0))), (a42, .inl (dA 10, 4, .inl (fun _ => 0))), (a43, .inl (dA 10, 4, .inl (fun _ => 0))), (a44, .inl (dA 10, 4, .inl (fun _ => 0))), (a45, .inl (dA 10, 4, .inl (fun _ => 0))), (a46, .inr (5, [.ref a3, .int 0, .int 0, .long 0, .ref a47, .ref a48, .ref a49, .ref a50, .ref a51])), (a47, .inl (dA 10, 4, .inl (fun _ => 0))), (a48, .inl (dA 10, 4, .inl (fun _ => 0))), (a49, .inl (dA 10, 4, .inl (fun _ => 0))), (a50, .inl (dA 10, 4, .inl (fun _ => 0))), (a51, .inl (dA 10, 4, .inl (fun _ => 0)))]) (b := a52) (e0 := .inr (8, [.int 0, .int 0, .null, .null, .int 0, .int 0, .int 0, .null, .int 0, .null, .null, .null, .int 0, .null, .int 0, .null, .int 0, .null, .int 0, .int 0, .int 0, .int 0, .int 0, .int 0, .int 0, .int 0, .int 0, .int 0, .null, .null, .int 0, .int 0, .null, .int 0, .null, .int 0, .int 0, .int 0, .null, .null, .int 0, .null, .null, .null, .null])) (av := []) (st := [.ref a52]) md_X8_init mi_X8_init rfl rfl (Or.inl wmL_12) dL_law_12 rfl rfl (Nat.le_of_ble_eq_true rfl) rfl rfl (by decide) (by decide) (cb_X8_init (n := n + 2) a52) (fun w1 hw1 => ?_)
  obtain ⟨a53, a54, a55, a56, a57, a58, a59, a60, a61, a62, a63, a64, a65, a66, a67, a68, a69, a70, a71, rfl⟩ := hw1
  refine jb_astore (pc' := 16) (i := 2) (lv' := [some (.ref b), some (.ref a0), some (.ref a52), none]) dL_law_15 rfl rfl (by decide) rfl ?_
  refine jb_iconst (pc' := 17) (v := 0) dL_law_16 rfl (by decide) ?_
  refine jb_istore (pc' := 18) (i := 3) (lv' := [some (.ref b), some (.ref a0), some (.ref a52), some (.int 0)]) dL_law_17 rfl rfl (by decide) rfl ?_
  have hh := law_hand (D := D) (dA := dA) (b := b) (L := L) (xs := xs) (adK := adK) (adV := adV) (n := n + 3) (Inv := Inv) hL hmono hI0 hp [a0, a1, a2, a3, a4, a5, a6, a7, a8, a9, a10, a11, a12, a13, a14, a15, a16, a17, a18, a19, a20, a21, a22, a23, a24, a25, a26, a27, a28, a29, a30, a31, a32, a33, a34, a35, a36, a37, a38, a39, a40, a41, a42, a43, a44, a45, a46, a47, a48, a49, a50, a51, a52, a53, a54, a55, a56, a57, a58, a59, a60, a61, a62, a63, a64, a65, a66, a67, a68, a69, a70, a71] (va_up (va_up (fun _ => none) 0 (some a40)) 1 (some a46)) (fun i hi => by
    rcases (show i = 0 ∨ i = 1 by omega) with rfl | rfl <;> rfl) (mc := 600000) (ms := 7302250) (nc := 72) (ns := 1997) (by decide) (by decide)
  exact hh
