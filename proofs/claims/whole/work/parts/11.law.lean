abbrev mL_law : jM := (yL_law, cL_law, 4, some .boolean)
/-- the script, which no cell of ours is -/
def jX (E : jEnv) (L : Nat) (xs : Nat → Int32) (s : State) : Prop := va_X (E.1 1000) L xs s s.heap ∧ E.1 1000 < s.heap.size ∧ ¬ jIn E (E.1 1000)
section JLW
variable {E : jEnv} {M : jM} {n : Nat} {Post : Option Value → HP → Prop} {pc pc' : Nat} {lv : List (Option Value)} {st : List Value} {h : HP} {L : Nat} {xs : Nat → Int32}
theorem jr_sld {i : Int32} (hd : decode M.2.1 pc = .ok (.iaload, 1)) (hn : pc + 1 = pc') (hi : vp_in i L)
    (kk : jG E M n (jX E L xs) Post pc' lv (.int (xs i.toNatClampNeg) :: st) h) : jG E M n (jX E L xs) Post pc lv (.int i :: .ref 1000 :: st) h := by
  intro p l e R s m args below meth c H locs cells slots Q ls hC hc1 hc2 hX hP hS hL hF
  subst hn
  exact va_sld hC.1 hC.2.1 hX.1 hX.2.1 hX.2.2 hS hi hd (kk p l e R s m args below meth c H locs cells slots Q ls hC hc1 hc2 hX hP hS hL hF)
theorem jr_slen (hd : decode M.2.1 pc = .ok (.arraylength, 1)) (hn : pc + 1 = pc')
    (kk : jG E M n (jX E L xs) Post pc' lv (.int (Int32.ofNat L) :: st) h) : jG E M n (jX E L xs) Post pc lv (.ref 1000 :: st) h := by
  intro p l e R s m args below meth c H locs cells slots Q ls hC hc1 hc2 hX hP hS hL hF
  subst hn
  exact va_slen hC.1 hC.2.1 hX.1 hX.2.1 hX.2.2 hS hd (kk p l e R s m args below meth c H locs cells slots Q ls hC hc1 hc2 hX hP hS hL hF)
end JLW
set_option maxRecDepth 4000 in
theorem q_law_18 {E : jEnv} {n : Nat} {L : Nat} {xs : Nat → Int32} {Post : Option Value → HP → Prop} (i : Int32) (h : HP)
    (k0 : (((Int32.ofNat L) - 4) < i) → Post (some (.int 1)) h)
    (b0 : (¬ ((Int32.ofNat L) - 4) < i) → vp_in i L)
    (k1 : (¬ ((Int32.ofNat L) - 4) < i) → (((xs i.toNatClampNeg) &&& 31).toInt < 0 ∨ 27 < ((xs i.toNatClampNeg) &&& 31).toInt) → jG E mL_law (n + 1) (jX E L xs) Post 18 [some (.ref 1000), some (.ref 0), some (.ref 52), some (.int (i + 4))] [] h)
    (b1 : (¬ ((Int32.ofNat L) - 4) < i) → (((xs i.toNatClampNeg) &&& 31).toInt = 0) → vp_in (i + 1) L)
    (b2 : (¬ ((Int32.ofNat L) - 4) < i) → (((xs i.toNatClampNeg) &&& 31).toInt = 0) → vp_in (i + 2) L)
    (b3 : (¬ ((Int32.ofNat L) - 4) < i) → (((xs i.toNatClampNeg) &&& 31).toInt = 0) → vp_in (i + 3) L)
    (k2 : (¬ ((Int32.ofNat L) - 4) < i) → (((xs i.toNatClampNeg) &&& 31).toInt = 0) → jCall E mX7_feed n [.ref 0, .int (xs (i + 1).toNatClampNeg), .long ((((xs (i + 2).toNatClampNeg).toInt64) <<< ((32 : Int32).toInt64 &&& 63)) ||| (((xs (i + 3).toNatClampNeg).toInt64) &&& 4294967295))] h (fun v h2 => jG E mL_law (n + 1) (jX E L xs) Post 189 [some (.ref 1000), some (.ref 0), some (.ref 52), some (.int i)] (v.toList ++ []) h2))
    (k3 : (¬ ((Int32.ofNat L) - 4) < i) → (((xs i.toNatClampNeg) &&& 31).toInt = 1) → jCall E mX7_province n [.ref 0] h (fun v h2 => jG E mL_law (n + 1) (jX E L xs) Post 227 [some (.ref 1000), some (.ref 0), some (.ref 52), some (.int i)] (v.toList ++ []) h2))
    (k4 : (¬ ((Int32.ofNat L) - 4) < i) → (((xs i.toNatClampNeg) &&& 31).toInt = 2) → jCall E mX7_fault n [.ref 0] h (fun v h2 => jG E mL_law (n + 1) (jX E L xs) Post 240 [some (.ref 1000), some (.ref 0), some (.ref 52), some (.int i)] (v.toList ++ []) h2))
    (b4 : (¬ ((Int32.ofNat L) - 4) < i) → (((xs i.toNatClampNeg) &&& 31).toInt = 3) → vp_in (i + 1) L)
    (k5 : (¬ ((Int32.ofNat L) - 4) < i) → (((xs i.toNatClampNeg) &&& 31).toInt = 3) → jCall E mX7_told n [.ref 0, .int (xs (i + 1).toNatClampNeg)] h (fun v h2 => jG E mL_law (n + 1) (jX E L xs) Post 258 [some (.ref 1000), some (.ref 0), some (.ref 52), some (.int i)] (v.toList ++ []) h2))
    (b5 : (¬ ((Int32.ofNat L) - 4) < i) → (((xs i.toNatClampNeg) &&& 31).toInt = 4) → vp_in (i + 1) L)
    (b6 : (¬ ((Int32.ofNat L) - 4) < i) → (((xs i.toNatClampNeg) &&& 31).toInt = 4) → vp_in (i + 2) L)
    (b7 : (¬ ((Int32.ofNat L) - 4) < i) → (((xs i.toNatClampNeg) &&& 31).toInt = 4) → vp_in (i + 3) L)
    (k6 : (¬ ((Int32.ofNat L) - 4) < i) → (((xs i.toNatClampNeg) &&& 31).toInt = 4) → jCall E mX7_depth n [.ref 0, .int (xs (i + 1).toNatClampNeg), .int (xs (i + 2).toNatClampNeg), .int (xs (i + 3).toNatClampNeg)] h (fun v h2 => jG E mL_law (n + 1) (jX E L xs) Post 291 [some (.ref 1000), some (.ref 0), some (.ref 52), some (.int i)] (v.toList ++ []) h2))
    (b8 : (¬ ((Int32.ofNat L) - 4) < i) → (((xs i.toNatClampNeg) &&& 31).toInt = 5) → vp_in (i + 1) L)
    (b9 : (¬ ((Int32.ofNat L) - 4) < i) → (((xs i.toNatClampNeg) &&& 31).toInt = 5) → vp_in (i + 2) L)
    (k7 : (¬ ((Int32.ofNat L) - 4) < i) → (((xs i.toNatClampNeg) &&& 31).toInt = 5) → jCall E mX7_man n [.ref 0, .int (xs (i + 1).toNatClampNeg), .int (xs (i + 2).toNatClampNeg)] h (fun v h2 => jG E mL_law (n + 1) (jX E L xs) Post 329 [some (.ref 1000), some (.ref 0), some (.ref 52), some (.int i)] (v.toList ++ []) h2))
    (b10 : (¬ ((Int32.ofNat L) - 4) < i) → (((xs i.toNatClampNeg) &&& 31).toInt = 6) → vp_in (i + 1) L)
    (b11 : (¬ ((Int32.ofNat L) - 4) < i) → (((xs i.toNatClampNeg) &&& 31).toInt = 6) → vp_in (i + 2) L)
    (k8 : (¬ ((Int32.ofNat L) - 4) < i) → (((xs i.toNatClampNeg) &&& 31).toInt = 6) → jCall E mX7_order n [.ref 0, .int (xs (i + 1).toNatClampNeg), .int (xs (i + 2).toNatClampNeg)] h (fun v h2 => jG E mL_law (n + 1) (jX E L xs) Post 362 [some (.ref 1000), some (.ref 0), some (.ref 52), some (.int i)] (v.toList ++ []) h2))
    (b12 : (¬ ((Int32.ofNat L) - 4) < i) → (((xs i.toNatClampNeg) &&& 31).toInt = 7) → vp_in (i + 1) L)
    (k9 : (¬ ((Int32.ofNat L) - 4) < i) → (((xs i.toNatClampNeg) &&& 31).toInt = 7) → jCall E mX7_hour n [.ref 0, .int (xs (i + 1).toNatClampNeg)] h (fun v h2 => jG E mL_law (n + 1) (jX E L xs) Post 390 [some (.ref 1000), some (.ref 0), some (.ref 52), some (.int i)] (v.toList ++ []) h2))
    (b13 : (¬ ((Int32.ofNat L) - 4) < i) → (((xs i.toNatClampNeg) &&& 31).toInt = 8) → vp_in (i + 1) L)
    (k10 : (¬ ((Int32.ofNat L) - 4) < i) → (((xs i.toNatClampNeg) &&& 31).toInt = 8) → jCall E mX7_drift n [.ref 0, .int (xs (i + 1).toNatClampNeg)] h (fun v h2 => jG E mL_law (n + 1) (jX E L xs) Post 413 [some (.ref 1000), some (.ref 0), some (.ref 52), some (.int i)] (v.toList ++ []) h2))
    (b14 : (¬ ((Int32.ofNat L) - 4) < i) → (((xs i.toNatClampNeg) &&& 31).toInt = 9) → vp_in (i + 1) L)
    (b15 : (¬ ((Int32.ofNat L) - 4) < i) → (((xs i.toNatClampNeg) &&& 31).toInt = 9) → vp_in (i + 2) L)
    (k11 : (¬ ((Int32.ofNat L) - 4) < i) → (((xs i.toNatClampNeg) &&& 31).toInt = 9) → jCall E mX7_saw n [.ref 0, .int (xs (i + 1).toNatClampNeg), .int (xs (i + 2).toNatClampNeg)] h (fun v h2 => jG E mL_law (n + 1) (jX E L xs) Post 441 [some (.ref 1000), some (.ref 0), some (.ref 52), some (.int i)] (v.toList ++ []) h2))
    (b16 : (¬ ((Int32.ofNat L) - 4) < i) → (((xs i.toNatClampNeg) &&& 31).toInt = 10) → vp_in (i + 1) L)
    (b17 : (¬ ((Int32.ofNat L) - 4) < i) → (((xs i.toNatClampNeg) &&& 31).toInt = 10) → vp_in (i + 2) L)
    (b18 : (¬ ((Int32.ofNat L) - 4) < i) → (((xs i.toNatClampNeg) &&& 31).toInt = 10) → vp_in (i + 3) L)
    (k12 : (¬ ((Int32.ofNat L) - 4) < i) → (((xs i.toNatClampNeg) &&& 31).toInt = 10) → ((xs (i + 3).toNatClampNeg) = 0) → jCall E mX7_stake n [.ref 0, .int (xs (i + 1).toNatClampNeg), .int (xs (i + 2).toNatClampNeg), .int 0] h (fun v h2 => jG E mL_law (n + 1) (jX E L xs) Post 487 [some (.ref 1000), some (.ref 0), some (.ref 52), some (.int i)] (v.toList ++ []) h2))
    (k13 : (¬ ((Int32.ofNat L) - 4) < i) → (((xs i.toNatClampNeg) &&& 31).toInt = 10) → (¬ (xs (i + 3).toNatClampNeg) = 0) → jCall E mX7_stake n [.ref 0, .int (xs (i + 1).toNatClampNeg), .int (xs (i + 2).toNatClampNeg), .int 1] h (fun v h2 => jG E mL_law (n + 1) (jX E L xs) Post 487 [some (.ref 1000), some (.ref 0), some (.ref 52), some (.int i)] (v.toList ++ []) h2))
    (b19 : (¬ ((Int32.ofNat L) - 4) < i) → (((xs i.toNatClampNeg) &&& 31).toInt = 11) → vp_in (i + 1) L)
    (b20 : (¬ ((Int32.ofNat L) - 4) < i) → (((xs i.toNatClampNeg) &&& 31).toInt = 11) → vp_in (i + 2) L)
    (b21 : (¬ ((Int32.ofNat L) - 4) < i) → (((xs i.toNatClampNeg) &&& 31).toInt = 11) → vp_in (i + 3) L)
    (k14 : (¬ ((Int32.ofNat L) - 4) < i) → (((xs i.toNatClampNeg) &&& 31).toInt = 11) → jCall E mX7_canBe n [.ref 0, .int (xs (i + 1).toNatClampNeg), .int (xs (i + 2).toNatClampNeg), .int (xs (i + 3).toNatClampNeg)] h (fun v h2 => jG E mL_law (n + 1) (jX E L xs) Post 538 [some (.ref 1000), some (.ref 0), some (.ref 52), some (.int i)] (v.toList ++ []) h2))
    (b22 : (¬ ((Int32.ofNat L) - 4) < i) → (((xs i.toNatClampNeg) &&& 31).toInt = 12) → vp_in (i + 1) L)
    (b23 : (¬ ((Int32.ofNat L) - 4) < i) → (((xs i.toNatClampNeg) &&& 31).toInt = 12) → vp_in (i + 2) L)
    (k15 : (¬ ((Int32.ofNat L) - 4) < i) → (((xs i.toNatClampNeg) &&& 31).toInt = 12) → jCall E mX7_canHear n [.ref 0, .int (xs (i + 1).toNatClampNeg), .int (xs (i + 2).toNatClampNeg)] h (fun v h2 => jG E mL_law (n + 1) (jX E L xs) Post 576 [some (.ref 1000), some (.ref 0), some (.ref 52), some (.int i)] (v.toList ++ []) h2))
    (b24 : (¬ ((Int32.ofNat L) - 4) < i) → (((xs i.toNatClampNeg) &&& 31).toInt = 13) → vp_in (i + 1) L)
    (b25 : (¬ ((Int32.ofNat L) - 4) < i) → (((xs i.toNatClampNeg) &&& 31).toInt = 13) → vp_in (i + 2) L)
    (k16 : (¬ ((Int32.ofNat L) - 4) < i) → (((xs i.toNatClampNeg) &&& 31).toInt = 13) → jCall E mX7_first n [.ref 0, .int (xs (i + 1).toNatClampNeg), .int (xs (i + 2).toNatClampNeg)] h (fun v h2 => jG E mL_law (n + 1) (jX E L xs) Post 609 [some (.ref 1000), some (.ref 0), some (.ref 52), some (.int i)] (v.toList ++ []) h2))
    (b26 : (¬ ((Int32.ofNat L) - 4) < i) → (((xs i.toNatClampNeg) &&& 31).toInt = 14) → vp_in (i + 1) L)
    (b27 : (¬ ((Int32.ofNat L) - 4) < i) → (((xs i.toNatClampNeg) &&& 31).toInt = 14) → vp_in (i + 2) L)
    (b28 : (¬ ((Int32.ofNat L) - 4) < i) → (((xs i.toNatClampNeg) &&& 31).toInt = 14) → vp_in (i + 3) L)
    (k17 : (¬ ((Int32.ofNat L) - 4) < i) → (((xs i.toNatClampNeg) &&& 31).toInt = 14) → jCall E mX7_sawed n [.ref 0, .int (xs (i + 1).toNatClampNeg), .int (xs (i + 2).toNatClampNeg), .int (xs (i + 3).toNatClampNeg)] h (fun v h2 => jG E mL_law (n + 1) (jX E L xs) Post 647 [some (.ref 1000), some (.ref 0), some (.ref 52), some (.int i)] (v.toList ++ []) h2))
    (b29 : (¬ ((Int32.ofNat L) - 4) < i) → (((xs i.toNatClampNeg) &&& 31).toInt = 15) → vp_in (i + 1) L)
    (b30 : (¬ ((Int32.ofNat L) - 4) < i) → (((xs i.toNatClampNeg) &&& 31).toInt = 15) → vp_in (i + 2) L)
    (k18 : (¬ ((Int32.ofNat L) - 4) < i) → (((xs i.toNatClampNeg) &&& 31).toInt = 15) → jCall E mX7_bestStake n [.ref 0, .int (xs (i + 1).toNatClampNeg), .int (xs (i + 2).toNatClampNeg)] h (fun v h2 => jG E mL_law (n + 1) (jX E L xs) Post 685 [some (.ref 1000), some (.ref 0), some (.ref 52), some (.int i)] (v.toList ++ []) h2))
    (b31 : (¬ ((Int32.ofNat L) - 4) < i) → (((xs i.toNatClampNeg) &&& 31).toInt = 16) → vp_in (i + 1) L)
    (b32 : (¬ ((Int32.ofNat L) - 4) < i) → (((xs i.toNatClampNeg) &&& 31).toInt = 16) → vp_in (i + 2) L)
    (k19 : (¬ ((Int32.ofNat L) - 4) < i) → (((xs i.toNatClampNeg) &&& 31).toInt = 16) → jCall E mX7_inch n [.ref 0, .int (xs (i + 1).toNatClampNeg), .int (xs (i + 2).toNatClampNeg)] h (fun v h2 => jG E mL_law (n + 1) (jX E L xs) Post 718 [some (.ref 1000), some (.ref 0), some (.ref 52), some (.int i)] (v.toList ++ []) h2))
    (b33 : (¬ ((Int32.ofNat L) - 4) < i) → (((xs i.toNatClampNeg) &&& 31).toInt = 17) → vp_in (i + 1) L)
    (k20 : (¬ ((Int32.ofNat L) - 4) < i) → (((xs i.toNatClampNeg) &&& 31).toInt = 17) → jCall E mX7_nobody n [.ref 0, .int (xs (i + 1).toNatClampNeg)] h (fun v h2 => jG E mL_law (n + 1) (jX E L xs) Post 746 [some (.ref 1000), some (.ref 0), some (.ref 52), some (.int i)] (v.toList ++ []) h2))
    (b34 : (¬ ((Int32.ofNat L) - 4) < i) → (((xs i.toNatClampNeg) &&& 31).toInt = 18) → vp_in (i + 1) L)
    (k21 : (¬ ((Int32.ofNat L) - 4) < i) → (((xs i.toNatClampNeg) &&& 31).toInt = 18) → jCall E mX7_alone n [.ref 0, .int (xs (i + 1).toNatClampNeg)] h (fun v h2 => jG E mL_law (n + 1) (jX E L xs) Post 769 [some (.ref 1000), some (.ref 0), some (.ref 52), some (.int i)] (v.toList ++ []) h2))
    (b35 : (¬ ((Int32.ofNat L) - 4) < i) → (((xs i.toNatClampNeg) &&& 31).toInt = 19) → vp_in (i + 1) L)
    (b36 : (¬ ((Int32.ofNat L) - 4) < i) → (((xs i.toNatClampNeg) &&& 31).toInt = 19) → vp_in (i + 2) L)
    (k22 : (¬ ((Int32.ofNat L) - 4) < i) → (((xs i.toNatClampNeg) &&& 31).toInt = 19) → jCall E mX7_track n [.ref 0, .int (xs (i + 1).toNatClampNeg), .int (xs (i + 2).toNatClampNeg)] h (fun v h2 => jG E mL_law (n + 1) (jX E L xs) Post 797 [some (.ref 1000), some (.ref 0), some (.ref 52), some (.int i)] (v.toList ++ []) h2))
    (b37 : (¬ ((Int32.ofNat L) - 4) < i) → (((xs i.toNatClampNeg) &&& 31).toInt = 20) → vp_in (i + 1) L)
    (b38 : (¬ ((Int32.ofNat L) - 4) < i) → (((xs i.toNatClampNeg) &&& 31).toInt = 20) → vp_in (i + 2) L)
    (b39 : (¬ ((Int32.ofNat L) - 4) < i) → (((xs i.toNatClampNeg) &&& 31).toInt = 20) → vp_in (i + 3) L)
    (k23 : (¬ ((Int32.ofNat L) - 4) < i) → (((xs i.toNatClampNeg) &&& 31).toInt = 20) → jCall E mX7_see n [.ref 0, .int (xs (i + 1).toNatClampNeg), .int (xs (i + 2).toNatClampNeg), .int (xs (i + 3).toNatClampNeg)] h (fun v h2 => jG E mL_law (n + 1) (jX E L xs) Post 835 [some (.ref 1000), some (.ref 0), some (.ref 52), some (.int i)] (v.toList ++ []) h2))
    (k24 : (¬ ((Int32.ofNat L) - 4) < i) → (((xs i.toNatClampNeg) &&& 31).toInt = 21) → jCall E mX7_fits n [.ref 0] h (fun v h2 => jG E mL_law (n + 1) (jX E L xs) Post 863 [some (.ref 1000), some (.ref 0), some (.ref 52), some (.int i)] (v.toList ++ []) h2))
    (b40 : (¬ ((Int32.ofNat L) - 4) < i) → (((xs i.toNatClampNeg) &&& 31).toInt = 22) → vp_in (i + 1) L)
    (b41 : (¬ ((Int32.ofNat L) - 4) < i) → (((xs i.toNatClampNeg) &&& 31).toInt = 22) → vp_in (i + 2) L)
    (k25 : (¬ ((Int32.ofNat L) - 4) < i) → (((xs i.toNatClampNeg) &&& 31).toInt = 22) → jCall E mX7_write n [.ref 0, .int (xs (i + 1).toNatClampNeg), .int (xs (i + 2).toNatClampNeg)] h (fun v h2 => jG E mL_law (n + 1) (jX E L xs) Post 886 [some (.ref 1000), some (.ref 0), some (.ref 52), some (.int i)] (v.toList ++ []) h2))
    (k26 : (¬ ((Int32.ofNat L) - 4) < i) → (((xs i.toNatClampNeg) &&& 31).toInt = 23) → jCall E mX7_tear n [.ref 0] h (fun v h2 => jG E mL_law (n + 1) (jX E L xs) Post 909 [some (.ref 1000), some (.ref 0), some (.ref 52), some (.int i)] (v.toList ++ []) h2))
    (k27 : (¬ ((Int32.ofNat L) - 4) < i) → (((xs i.toNatClampNeg) &&& 31).toInt = 24) → jCall E mX7_judge n [.ref 0] h (fun v h2 => jG E mL_law (n + 1) (jX E L xs) Post 922 [some (.ref 1000), some (.ref 0), some (.ref 52), some (.int i)] (v.toList ++ []) h2))
    (b42 : (¬ ((Int32.ofNat L) - 4) < i) → (((xs i.toNatClampNeg) &&& 31).toInt = 25) → vp_in (i + 1) L)
    (k28 : (¬ ((Int32.ofNat L) - 4) < i) → (((xs i.toNatClampNeg) &&& 31).toInt = 25) → jCall E mX7_seed n [.ref 0, .int (xs (i + 1).toNatClampNeg)] h (fun v h2 => jG E mL_law (n + 1) (jX E L xs) Post 940 [some (.ref 1000), some (.ref 0), some (.ref 52), some (.int i)] (v.toList ++ []) h2))
    (b43 : (¬ ((Int32.ofNat L) - 4) < i) → (((xs i.toNatClampNeg) &&& 31).toInt = 26) → vp_in (i + 1) L)
    (k29 : (¬ ((Int32.ofNat L) - 4) < i) → (((xs i.toNatClampNeg) &&& 31).toInt = 26) → jCall E mX7_keep n [.ref 0, .int (xs (i + 1).toNatClampNeg)] h (fun v h2 => jG E mL_law (n + 1) (jX E L xs) Post 963 [some (.ref 1000), some (.ref 0), some (.ref 52), some (.int i)] (v.toList ++ []) h2))
    (b44 : (¬ ((Int32.ofNat L) - 4) < i) → (((xs i.toNatClampNeg) &&& 31).toInt = 27) → vp_in (i + 1) L)
    (k30 : (¬ ((Int32.ofNat L) - 4) < i) → (((xs i.toNatClampNeg) &&& 31).toInt = 27) → jCall E mX7_goBack n [.ref 0, .int (xs (i + 1).toNatClampNeg)] h (fun v h2 => jG E mL_law (n + 1) (jX E L xs) Post 986 [some (.ref 1000), some (.ref 0), some (.ref 52), some (.int i)] (v.toList ++ []) h2))
    : jG E mL_law (n + 1) (jX E L xs) Post 18 [some (.ref 1000), some (.ref 0), some (.ref 52), some (.int i)] [] h := by
  refine jr_iload_n (pc' := 19) (i := 3) dL_law_18 rfl rfl rfl ?_
  refine jr_aload_n (pc' := 20) (i := 0) dL_law_19 rfl rfl rfl ?_
  refine jr_slen (pc' := 21) dL_law_20 rfl ?_
  refine jr_iconst (pc' := 22) (v := 4) dL_law_21 rfl (by decide) ?_
  refine jr_isub (pc' := 23)  dL_law_22 rfl  ?_
  by_cases c1 : ((Int32.ofNat L) - 4) < i
  · refine jr_icmp_gtT (pc' := 1006) dL_law_23 rfl c1 ?_
    refine jr_iconst (pc' := 1007) (v := 1) dL_law_1006 rfl (by decide) ?_
    exact jr_iret dL_law_1007 rfl rfl (k0 c1)
  · refine jr_icmp_gtF (pc' := 26) (tgt := 1006) dL_law_23 rfl rfl c1 ?_
    refine jr_aload_n (pc' := 27) (i := 0) dL_law_26 rfl rfl rfl ?_
    refine jr_iload_n (pc' := 28) (i := 3) dL_law_27 rfl rfl rfl ?_
    refine jr_sld (pc' := 29) dL_law_28 rfl (b0 c1) ?_
    refine jr_bipush (pc' := 31) (v := 31) dL_law_29 rfl (by decide) ?_
    refine jr_iand (pc' := 32)  dL_law_31 rfl  ?_
    by_cases c2 : ((xs i.toNatClampNeg) &&& 31).toInt < 0 ∨ 27 < ((xs i.toNatClampNeg) &&& 31).toInt
    · refine jr_tabOut (pc' := 1000) dL_law_32 c2 rfl ?_
      refine jr_iinc (pc' := 1003) (i := 3) (v := (i + 4)) (lv' := [some (.ref 1000), some (.ref 0), some (.ref 52), some (.int (i + 4))]) dL_law_1000 rfl rfl (congrArg (i + ·) (by decide)) (by decide) rfl ?_
      refine jr_goto (pc' := 18) dL_law_1003 rfl ?_
      exact jG.weak (lv' := [some (.ref 1000), some (.ref 0), some (.ref 52), some (.int (i + 4))]) ⟨rfl, rfl, rfl, rfl, trivial⟩ (k1 c1 c2)
    · have c2x : ((xs i.toNatClampNeg) &&& 31).toInt = 0 ∨ ((xs i.toNatClampNeg) &&& 31).toInt = 1 ∨ ((xs i.toNatClampNeg) &&& 31).toInt = 2 ∨ ((xs i.toNatClampNeg) &&& 31).toInt = 3 ∨ ((xs i.toNatClampNeg) &&& 31).toInt = 4 ∨ ((xs i.toNatClampNeg) &&& 31).toInt = 5 ∨ ((xs i.toNatClampNeg) &&& 31).toInt = 6 ∨ ((xs i.toNatClampNeg) &&& 31).toInt = 7 ∨ ((xs i.toNatClampNeg) &&& 31).toInt = 8 ∨ ((xs i.toNatClampNeg) &&& 31).toInt = 9 ∨ ((xs i.toNatClampNeg) &&& 31).toInt = 10 ∨ ((xs i.toNatClampNeg) &&& 31).toInt = 11 ∨ ((xs i.toNatClampNeg) &&& 31).toInt = 12 ∨ ((xs i.toNatClampNeg) &&& 31).toInt = 13 ∨ ((xs i.toNatClampNeg) &&& 31).toInt = 14 ∨ ((xs i.toNatClampNeg) &&& 31).toInt = 15 ∨ ((xs i.toNatClampNeg) &&& 31).toInt = 16 ∨ ((xs i.toNatClampNeg) &&& 31).toInt = 17 ∨ ((xs i.toNatClampNeg) &&& 31).toInt = 18 ∨ ((xs i.toNatClampNeg) &&& 31).toInt = 19 ∨ ((xs i.toNatClampNeg) &&& 31).toInt = 20 ∨ ((xs i.toNatClampNeg) &&& 31).toInt = 21 ∨ ((xs i.toNatClampNeg) &&& 31).toInt = 22 ∨ ((xs i.toNatClampNeg) &&& 31).toInt = 23 ∨ ((xs i.toNatClampNeg) &&& 31).toInt = 24 ∨ ((xs i.toNatClampNeg) &&& 31).toInt = 25 ∨ ((xs i.toNatClampNeg) &&& 31).toInt = 26 ∨ ((xs i.toNatClampNeg) &&& 31).toInt = 27 := by omega
      rcases c2x with c2x | c2x | c2x | c2x | c2x | c2x | c2x | c2x | c2x | c2x | c2x | c2x | c2x | c2x | c2x | c2x | c2x | c2x | c2x | c2x | c2x | c2x | c2x | c2x | c2x | c2x | c2x | c2x
      · refine jr_tabIn (pc' := 160) (off := 128) dL_law_32 (by omega) (by omega) (by rw [c2x]; rfl) rfl ?_
        refine jr_aload_n (pc' := 161) (i := 1) dL_law_160 rfl rfl rfl ?_
        refine jr_aload_n (pc' := 162) (i := 0) dL_law_161 rfl rfl rfl ?_
        refine jr_iload_n (pc' := 163) (i := 3) dL_law_162 rfl rfl rfl ?_
        refine jr_iconst (pc' := 164) (v := 1) dL_law_163 rfl (by decide) ?_
        refine jr_iadd (pc' := 165)  dL_law_164 rfl  ?_
        refine jr_sld (pc' := 166) dL_law_165 rfl (b1 c1 c2x) ?_
        refine jr_aload_n (pc' := 167) (i := 0) dL_law_166 rfl rfl rfl ?_
        refine jr_iload_n (pc' := 168) (i := 3) dL_law_167 rfl rfl rfl ?_
        refine jr_iconst (pc' := 169) (v := 2) dL_law_168 rfl (by decide) ?_
        refine jr_iadd (pc' := 170)  dL_law_169 rfl  ?_
        refine jr_sld (pc' := 171) dL_law_170 rfl (b2 c1 c2x) ?_
        refine jr_i2l (pc' := 172)  dL_law_171 rfl  ?_
        refine jr_bipush (pc' := 174) (v := 32) dL_law_172 rfl (by decide) ?_
        refine jr_lshl (pc' := 175)  dL_law_174 rfl  ?_
        refine jr_aload_n (pc' := 176) (i := 0) dL_law_175 rfl rfl rfl ?_
        refine jr_iload_n (pc' := 177) (i := 3) dL_law_176 rfl rfl rfl ?_
        refine jr_iconst (pc' := 178) (v := 3) dL_law_177 rfl (by decide) ?_
        refine jr_iadd (pc' := 179)  dL_law_178 rfl  ?_
        refine jr_sld (pc' := 180) dL_law_179 rfl (b3 c1 c2x) ?_
        refine jr_i2l (pc' := 181)  dL_law_180 rfl  ?_
        refine jr_ldc2 (pc' := 184) (v := 4294967295) dL_law_181 rfl wcL_13 ?_
        refine jr_land (pc' := 185)  dL_law_184 rfl  ?_
        refine jr_lor (pc' := 186)  dL_law_185 rfl  ?_
        obtain ⟨P1, hC1, hK1⟩ := k2 c1 c2x
        exact jr_callV (pc' := 189) (k := 0) (av := [.int (xs (i + 1).toNatClampNeg), .long ((((xs (i + 2).toNatClampNeg).toInt64) <<< ((32 : Int32).toInt64 &&& 63)) ||| (((xs (i + 3).toNatClampNeg).toInt64) &&& 4294967295))]) (st := []) sX7_feed wmL_15 dL_law_186 rfl (by decide) rfl (by decide) rfl rfl rfl (Nat.le_of_ble_eq_true rfl) rfl hC1 (fun v h2 hp => jG.weak (lv' := [some (.ref 1000), some (.ref 0), some (.ref 52), some (.int i)]) ⟨rfl, rfl, rfl, rfl, trivial⟩ (hK1 v h2 hp))
      · refine jr_tabIn (pc' := 223) (off := 191) dL_law_32 (by omega) (by omega) (by rw [c2x]; rfl) rfl ?_
        refine jr_aload_n (pc' := 224) (i := 1) dL_law_223 rfl rfl rfl ?_
        obtain ⟨P1, hC1, hK1⟩ := k3 c1 c2x
        exact jr_callV (pc' := 227) (k := 0) (av := []) (st := []) sX7_province wmL_20 dL_law_224 rfl (by decide) rfl (by decide) rfl rfl rfl (Nat.le_of_ble_eq_true rfl) rfl hC1 (fun v h2 hp => jG.weak (lv' := [some (.ref 1000), some (.ref 0), some (.ref 52), some (.int i)]) ⟨rfl, rfl, rfl, rfl, trivial⟩ (hK1 v h2 hp))
      · refine jr_tabIn (pc' := 236) (off := 204) dL_law_32 (by omega) (by omega) (by rw [c2x]; rfl) rfl ?_
        refine jr_aload_n (pc' := 237) (i := 1) dL_law_236 rfl rfl rfl ?_
        obtain ⟨P1, hC1, hK1⟩ := k4 c1 c2x
        exact jr_callV (pc' := 240) (k := 0) (av := []) (st := []) sX7_fault wmL_25 dL_law_237 rfl (by decide) rfl (by decide) rfl rfl rfl (Nat.le_of_ble_eq_true rfl) rfl hC1 (fun v h2 hp => jG.weak (lv' := [some (.ref 1000), some (.ref 0), some (.ref 52), some (.int i)]) ⟨rfl, rfl, rfl, rfl, trivial⟩ (hK1 v h2 hp))
      · refine jr_tabIn (pc' := 249) (off := 217) dL_law_32 (by omega) (by omega) (by rw [c2x]; rfl) rfl ?_
        refine jr_aload_n (pc' := 250) (i := 1) dL_law_249 rfl rfl rfl ?_
        refine jr_aload_n (pc' := 251) (i := 0) dL_law_250 rfl rfl rfl ?_
        refine jr_iload_n (pc' := 252) (i := 3) dL_law_251 rfl rfl rfl ?_
        refine jr_iconst (pc' := 253) (v := 1) dL_law_252 rfl (by decide) ?_
        refine jr_iadd (pc' := 254)  dL_law_253 rfl  ?_
        refine jr_sld (pc' := 255) dL_law_254 rfl (b4 c1 c2x) ?_
        obtain ⟨P1, hC1, hK1⟩ := k5 c1 c2x
        exact jr_callV (pc' := 258) (k := 0) (av := [.int (xs (i + 1).toNatClampNeg)]) (st := []) sX7_told wmL_29 dL_law_255 rfl (by decide) rfl (by decide) rfl rfl rfl (Nat.le_of_ble_eq_true rfl) rfl hC1 (fun v h2 hp => jG.weak (lv' := [some (.ref 1000), some (.ref 0), some (.ref 52), some (.int i)]) ⟨rfl, rfl, rfl, rfl, trivial⟩ (hK1 v h2 hp))
      · refine jr_tabIn (pc' := 272) (off := 240) dL_law_32 (by omega) (by omega) (by rw [c2x]; rfl) rfl ?_
        refine jr_aload_n (pc' := 273) (i := 1) dL_law_272 rfl rfl rfl ?_
        refine jr_aload_n (pc' := 274) (i := 0) dL_law_273 rfl rfl rfl ?_
        refine jr_iload_n (pc' := 275) (i := 3) dL_law_274 rfl rfl rfl ?_
        refine jr_iconst (pc' := 276) (v := 1) dL_law_275 rfl (by decide) ?_
        refine jr_iadd (pc' := 277)  dL_law_276 rfl  ?_
        refine jr_sld (pc' := 278) dL_law_277 rfl (b5 c1 c2x) ?_
        refine jr_aload_n (pc' := 279) (i := 0) dL_law_278 rfl rfl rfl ?_
        refine jr_iload_n (pc' := 280) (i := 3) dL_law_279 rfl rfl rfl ?_
        refine jr_iconst (pc' := 281) (v := 2) dL_law_280 rfl (by decide) ?_
        refine jr_iadd (pc' := 282)  dL_law_281 rfl  ?_
        refine jr_sld (pc' := 283) dL_law_282 rfl (b6 c1 c2x) ?_
        refine jr_aload_n (pc' := 284) (i := 0) dL_law_283 rfl rfl rfl ?_
        refine jr_iload_n (pc' := 285) (i := 3) dL_law_284 rfl rfl rfl ?_
        refine jr_iconst (pc' := 286) (v := 3) dL_law_285 rfl (by decide) ?_
        refine jr_iadd (pc' := 287)  dL_law_286 rfl  ?_
        refine jr_sld (pc' := 288) dL_law_287 rfl (b7 c1 c2x) ?_
        obtain ⟨P1, hC1, hK1⟩ := k6 c1 c2x
        exact jr_callV (pc' := 291) (k := 0) (av := [.int (xs (i + 1).toNatClampNeg), .int (xs (i + 2).toNatClampNeg), .int (xs (i + 3).toNatClampNeg)]) (st := []) sX7_depth wmL_34 dL_law_288 rfl (by decide) rfl (by decide) rfl rfl rfl (Nat.le_of_ble_eq_true rfl) rfl hC1 (fun v h2 hp => jG.weak (lv' := [some (.ref 1000), some (.ref 0), some (.ref 52), some (.int i)]) ⟨rfl, rfl, rfl, rfl, trivial⟩ (hK1 v h2 hp))
      · refine jr_tabIn (pc' := 315) (off := 283) dL_law_32 (by omega) (by omega) (by rw [c2x]; rfl) rfl ?_
        refine jr_aload_n (pc' := 316) (i := 1) dL_law_315 rfl rfl rfl ?_
        refine jr_aload_n (pc' := 317) (i := 0) dL_law_316 rfl rfl rfl ?_
        refine jr_iload_n (pc' := 318) (i := 3) dL_law_317 rfl rfl rfl ?_
        refine jr_iconst (pc' := 319) (v := 1) dL_law_318 rfl (by decide) ?_
        refine jr_iadd (pc' := 320)  dL_law_319 rfl  ?_
        refine jr_sld (pc' := 321) dL_law_320 rfl (b8 c1 c2x) ?_
        refine jr_aload_n (pc' := 322) (i := 0) dL_law_321 rfl rfl rfl ?_
        refine jr_iload_n (pc' := 323) (i := 3) dL_law_322 rfl rfl rfl ?_
        refine jr_iconst (pc' := 324) (v := 2) dL_law_323 rfl (by decide) ?_
        refine jr_iadd (pc' := 325)  dL_law_324 rfl  ?_
        refine jr_sld (pc' := 326) dL_law_325 rfl (b9 c1 c2x) ?_
        obtain ⟨P1, hC1, hK1⟩ := k7 c1 c2x
        exact jr_callV (pc' := 329) (k := 0) (av := [.int (xs (i + 1).toNatClampNeg), .int (xs (i + 2).toNatClampNeg)]) (st := []) sX7_man wmL_39 dL_law_326 rfl (by decide) rfl (by decide) rfl rfl rfl (Nat.le_of_ble_eq_true rfl) rfl hC1 (fun v h2 hp => jG.weak (lv' := [some (.ref 1000), some (.ref 0), some (.ref 52), some (.int i)]) ⟨rfl, rfl, rfl, rfl, trivial⟩ (hK1 v h2 hp))
      · refine jr_tabIn (pc' := 348) (off := 316) dL_law_32 (by omega) (by omega) (by rw [c2x]; rfl) rfl ?_
        refine jr_aload_n (pc' := 349) (i := 1) dL_law_348 rfl rfl rfl ?_
        refine jr_aload_n (pc' := 350) (i := 0) dL_law_349 rfl rfl rfl ?_
        refine jr_iload_n (pc' := 351) (i := 3) dL_law_350 rfl rfl rfl ?_
        refine jr_iconst (pc' := 352) (v := 1) dL_law_351 rfl (by decide) ?_
        refine jr_iadd (pc' := 353)  dL_law_352 rfl  ?_
        refine jr_sld (pc' := 354) dL_law_353 rfl (b10 c1 c2x) ?_
        refine jr_aload_n (pc' := 355) (i := 0) dL_law_354 rfl rfl rfl ?_
        refine jr_iload_n (pc' := 356) (i := 3) dL_law_355 rfl rfl rfl ?_
        refine jr_iconst (pc' := 357) (v := 2) dL_law_356 rfl (by decide) ?_
        refine jr_iadd (pc' := 358)  dL_law_357 rfl  ?_
        refine jr_sld (pc' := 359) dL_law_358 rfl (b11 c1 c2x) ?_
        obtain ⟨P1, hC1, hK1⟩ := k8 c1 c2x
        exact jr_callV (pc' := 362) (k := 0) (av := [.int (xs (i + 1).toNatClampNeg), .int (xs (i + 2).toNatClampNeg)]) (st := []) sX7_order wmL_44 dL_law_359 rfl (by decide) rfl (by decide) rfl rfl rfl (Nat.le_of_ble_eq_true rfl) rfl hC1 (fun v h2 hp => jG.weak (lv' := [some (.ref 1000), some (.ref 0), some (.ref 52), some (.int i)]) ⟨rfl, rfl, rfl, rfl, trivial⟩ (hK1 v h2 hp))
      · refine jr_tabIn (pc' := 381) (off := 349) dL_law_32 (by omega) (by omega) (by rw [c2x]; rfl) rfl ?_
        refine jr_aload_n (pc' := 382) (i := 1) dL_law_381 rfl rfl rfl ?_
        refine jr_aload_n (pc' := 383) (i := 0) dL_law_382 rfl rfl rfl ?_
        refine jr_iload_n (pc' := 384) (i := 3) dL_law_383 rfl rfl rfl ?_
        refine jr_iconst (pc' := 385) (v := 1) dL_law_384 rfl (by decide) ?_
        refine jr_iadd (pc' := 386)  dL_law_385 rfl  ?_
        refine jr_sld (pc' := 387) dL_law_386 rfl (b12 c1 c2x) ?_
        obtain ⟨P1, hC1, hK1⟩ := k9 c1 c2x
        exact jr_callV (pc' := 390) (k := 0) (av := [.int (xs (i + 1).toNatClampNeg)]) (st := []) sX7_hour wmL_48 dL_law_387 rfl (by decide) rfl (by decide) rfl rfl rfl (Nat.le_of_ble_eq_true rfl) rfl hC1 (fun v h2 hp => jG.weak (lv' := [some (.ref 1000), some (.ref 0), some (.ref 52), some (.int i)]) ⟨rfl, rfl, rfl, rfl, trivial⟩ (hK1 v h2 hp))
      · refine jr_tabIn (pc' := 404) (off := 372) dL_law_32 (by omega) (by omega) (by rw [c2x]; rfl) rfl ?_
        refine jr_aload_n (pc' := 405) (i := 1) dL_law_404 rfl rfl rfl ?_
        refine jr_aload_n (pc' := 406) (i := 0) dL_law_405 rfl rfl rfl ?_
        refine jr_iload_n (pc' := 407) (i := 3) dL_law_406 rfl rfl rfl ?_
        refine jr_iconst (pc' := 408) (v := 1) dL_law_407 rfl (by decide) ?_
        refine jr_iadd (pc' := 409)  dL_law_408 rfl  ?_
        refine jr_sld (pc' := 410) dL_law_409 rfl (b13 c1 c2x) ?_
        obtain ⟨P1, hC1, hK1⟩ := k10 c1 c2x
        exact jr_callV (pc' := 413) (k := 0) (av := [.int (xs (i + 1).toNatClampNeg)]) (st := []) sX7_drift wmL_52 dL_law_410 rfl (by decide) rfl (by decide) rfl rfl rfl (Nat.le_of_ble_eq_true rfl) rfl hC1 (fun v h2 hp => jG.weak (lv' := [some (.ref 1000), some (.ref 0), some (.ref 52), some (.int i)]) ⟨rfl, rfl, rfl, rfl, trivial⟩ (hK1 v h2 hp))
      · refine jr_tabIn (pc' := 427) (off := 395) dL_law_32 (by omega) (by omega) (by rw [c2x]; rfl) rfl ?_
        refine jr_aload_n (pc' := 428) (i := 1) dL_law_427 rfl rfl rfl ?_
        refine jr_aload_n (pc' := 429) (i := 0) dL_law_428 rfl rfl rfl ?_
        refine jr_iload_n (pc' := 430) (i := 3) dL_law_429 rfl rfl rfl ?_
        refine jr_iconst (pc' := 431) (v := 1) dL_law_430 rfl (by decide) ?_
        refine jr_iadd (pc' := 432)  dL_law_431 rfl  ?_
        refine jr_sld (pc' := 433) dL_law_432 rfl (b14 c1 c2x) ?_
        refine jr_aload_n (pc' := 434) (i := 0) dL_law_433 rfl rfl rfl ?_
        refine jr_iload_n (pc' := 435) (i := 3) dL_law_434 rfl rfl rfl ?_
        refine jr_iconst (pc' := 436) (v := 2) dL_law_435 rfl (by decide) ?_
        refine jr_iadd (pc' := 437)  dL_law_436 rfl  ?_
        refine jr_sld (pc' := 438) dL_law_437 rfl (b15 c1 c2x) ?_
        obtain ⟨P1, hC1, hK1⟩ := k11 c1 c2x
        exact jr_callV (pc' := 441) (k := 0) (av := [.int (xs (i + 1).toNatClampNeg), .int (xs (i + 2).toNatClampNeg)]) (st := []) sX7_saw wmL_56 dL_law_438 rfl (by decide) rfl (by decide) rfl rfl rfl (Nat.le_of_ble_eq_true rfl) rfl hC1 (fun v h2 hp => jG.weak (lv' := [some (.ref 1000), some (.ref 0), some (.ref 52), some (.int i)]) ⟨rfl, rfl, rfl, rfl, trivial⟩ (hK1 v h2 hp))
      · refine jr_tabIn (pc' := 460) (off := 428) dL_law_32 (by omega) (by omega) (by rw [c2x]; rfl) rfl ?_
        refine jr_aload_n (pc' := 461) (i := 1) dL_law_460 rfl rfl rfl ?_
        refine jr_aload_n (pc' := 462) (i := 0) dL_law_461 rfl rfl rfl ?_
        refine jr_iload_n (pc' := 463) (i := 3) dL_law_462 rfl rfl rfl ?_
        refine jr_iconst (pc' := 464) (v := 1) dL_law_463 rfl (by decide) ?_
        refine jr_iadd (pc' := 465)  dL_law_464 rfl  ?_
        refine jr_sld (pc' := 466) dL_law_465 rfl (b16 c1 c2x) ?_
        refine jr_aload_n (pc' := 467) (i := 0) dL_law_466 rfl rfl rfl ?_
        refine jr_iload_n (pc' := 468) (i := 3) dL_law_467 rfl rfl rfl ?_
        refine jr_iconst (pc' := 469) (v := 2) dL_law_468 rfl (by decide) ?_
        refine jr_iadd (pc' := 470)  dL_law_469 rfl  ?_
        refine jr_sld (pc' := 471) dL_law_470 rfl (b17 c1 c2x) ?_
        refine jr_aload_n (pc' := 472) (i := 0) dL_law_471 rfl rfl rfl ?_
        refine jr_iload_n (pc' := 473) (i := 3) dL_law_472 rfl rfl rfl ?_
        refine jr_iconst (pc' := 474) (v := 3) dL_law_473 rfl (by decide) ?_
        refine jr_iadd (pc' := 475)  dL_law_474 rfl  ?_
        refine jr_sld (pc' := 476) dL_law_475 rfl (b18 c1 c2x) ?_
        by_cases c3 : (xs (i + 3).toNatClampNeg) = 0
        · refine jr_if_eqT (pc' := 483) dL_law_476 rfl c3 ?_
          refine jr_iconst (pc' := 484) (v := 0) dL_law_483 rfl (by decide) ?_
          obtain ⟨P1, hC1, hK1⟩ := k12 c1 c2x c3
          exact jr_callV (pc' := 487) (k := 0) (av := [.int (xs (i + 1).toNatClampNeg), .int (xs (i + 2).toNatClampNeg), .int 0]) (st := []) sX7_stake wmL_60 dL_law_484 rfl (by decide) rfl (by decide) rfl rfl rfl (Nat.le_of_ble_eq_true rfl) rfl hC1 (fun v h2 hp => jG.weak (lv' := [some (.ref 1000), some (.ref 0), some (.ref 52), some (.int i)]) ⟨rfl, rfl, rfl, rfl, trivial⟩ (hK1 v h2 hp))
        · refine jr_if_eqF (pc' := 479) (tgt := 483) dL_law_476 rfl rfl c3 ?_
          refine jr_iconst (pc' := 480) (v := 1) dL_law_479 rfl (by decide) ?_
          refine jr_goto (pc' := 484) dL_law_480 rfl ?_
          obtain ⟨P1, hC1, hK1⟩ := k13 c1 c2x c3
          exact jr_callV (pc' := 487) (k := 0) (av := [.int (xs (i + 1).toNatClampNeg), .int (xs (i + 2).toNatClampNeg), .int 1]) (st := []) sX7_stake wmL_60 dL_law_484 rfl (by decide) rfl (by decide) rfl rfl rfl (Nat.le_of_ble_eq_true rfl) rfl hC1 (fun v h2 hp => jG.weak (lv' := [some (.ref 1000), some (.ref 0), some (.ref 52), some (.int i)]) ⟨rfl, rfl, rfl, rfl, trivial⟩ (hK1 v h2 hp))
      · refine jr_tabIn (pc' := 519) (off := 487) dL_law_32 (by omega) (by omega) (by rw [c2x]; rfl) rfl ?_
        refine jr_aload_n (pc' := 520) (i := 1) dL_law_519 rfl rfl rfl ?_
        refine jr_aload_n (pc' := 521) (i := 0) dL_law_520 rfl rfl rfl ?_
        refine jr_iload_n (pc' := 522) (i := 3) dL_law_521 rfl rfl rfl ?_
        refine jr_iconst (pc' := 523) (v := 1) dL_law_522 rfl (by decide) ?_
        refine jr_iadd (pc' := 524)  dL_law_523 rfl  ?_
        refine jr_sld (pc' := 525) dL_law_524 rfl (b19 c1 c2x) ?_
        refine jr_aload_n (pc' := 526) (i := 0) dL_law_525 rfl rfl rfl ?_
        refine jr_iload_n (pc' := 527) (i := 3) dL_law_526 rfl rfl rfl ?_
        refine jr_iconst (pc' := 528) (v := 2) dL_law_527 rfl (by decide) ?_
        refine jr_iadd (pc' := 529)  dL_law_528 rfl  ?_
        refine jr_sld (pc' := 530) dL_law_529 rfl (b20 c1 c2x) ?_
        refine jr_aload_n (pc' := 531) (i := 0) dL_law_530 rfl rfl rfl ?_
        refine jr_iload_n (pc' := 532) (i := 3) dL_law_531 rfl rfl rfl ?_
        refine jr_iconst (pc' := 533) (v := 3) dL_law_532 rfl (by decide) ?_
        refine jr_iadd (pc' := 534)  dL_law_533 rfl  ?_
        refine jr_sld (pc' := 535) dL_law_534 rfl (b21 c1 c2x) ?_
        obtain ⟨P1, hC1, hK1⟩ := k14 c1 c2x
        exact jr_callV (pc' := 538) (k := 0) (av := [.int (xs (i + 1).toNatClampNeg), .int (xs (i + 2).toNatClampNeg), .int (xs (i + 3).toNatClampNeg)]) (st := []) sX7_canBe wmL_65 dL_law_535 rfl (by decide) rfl (by decide) rfl rfl rfl (Nat.le_of_ble_eq_true rfl) rfl hC1 (fun v h2 hp => jG.weak (lv' := [some (.ref 1000), some (.ref 0), some (.ref 52), some (.int i)]) ⟨rfl, rfl, rfl, rfl, trivial⟩ (hK1 v h2 hp))
      · refine jr_tabIn (pc' := 562) (off := 530) dL_law_32 (by omega) (by omega) (by rw [c2x]; rfl) rfl ?_
        refine jr_aload_n (pc' := 563) (i := 1) dL_law_562 rfl rfl rfl ?_
        refine jr_aload_n (pc' := 564) (i := 0) dL_law_563 rfl rfl rfl ?_
        refine jr_iload_n (pc' := 565) (i := 3) dL_law_564 rfl rfl rfl ?_
        refine jr_iconst (pc' := 566) (v := 1) dL_law_565 rfl (by decide) ?_
        refine jr_iadd (pc' := 567)  dL_law_566 rfl  ?_
        refine jr_sld (pc' := 568) dL_law_567 rfl (b22 c1 c2x) ?_
        refine jr_aload_n (pc' := 569) (i := 0) dL_law_568 rfl rfl rfl ?_
        refine jr_iload_n (pc' := 570) (i := 3) dL_law_569 rfl rfl rfl ?_
        refine jr_iconst (pc' := 571) (v := 2) dL_law_570 rfl (by decide) ?_
        refine jr_iadd (pc' := 572)  dL_law_571 rfl  ?_
        refine jr_sld (pc' := 573) dL_law_572 rfl (b23 c1 c2x) ?_
        obtain ⟨P1, hC1, hK1⟩ := k15 c1 c2x
        exact jr_callV (pc' := 576) (k := 0) (av := [.int (xs (i + 1).toNatClampNeg), .int (xs (i + 2).toNatClampNeg)]) (st := []) sX7_canHear wmL_69 dL_law_573 rfl (by decide) rfl (by decide) rfl rfl rfl (Nat.le_of_ble_eq_true rfl) rfl hC1 (fun v h2 hp => jG.weak (lv' := [some (.ref 1000), some (.ref 0), some (.ref 52), some (.int i)]) ⟨rfl, rfl, rfl, rfl, trivial⟩ (hK1 v h2 hp))
      · refine jr_tabIn (pc' := 595) (off := 563) dL_law_32 (by omega) (by omega) (by rw [c2x]; rfl) rfl ?_
        refine jr_aload_n (pc' := 596) (i := 1) dL_law_595 rfl rfl rfl ?_
        refine jr_aload_n (pc' := 597) (i := 0) dL_law_596 rfl rfl rfl ?_
        refine jr_iload_n (pc' := 598) (i := 3) dL_law_597 rfl rfl rfl ?_
        refine jr_iconst (pc' := 599) (v := 1) dL_law_598 rfl (by decide) ?_
        refine jr_iadd (pc' := 600)  dL_law_599 rfl  ?_
        refine jr_sld (pc' := 601) dL_law_600 rfl (b24 c1 c2x) ?_
        refine jr_aload_n (pc' := 602) (i := 0) dL_law_601 rfl rfl rfl ?_
        refine jr_iload_n (pc' := 603) (i := 3) dL_law_602 rfl rfl rfl ?_
        refine jr_iconst (pc' := 604) (v := 2) dL_law_603 rfl (by decide) ?_
        refine jr_iadd (pc' := 605)  dL_law_604 rfl  ?_
        refine jr_sld (pc' := 606) dL_law_605 rfl (b25 c1 c2x) ?_
        obtain ⟨P1, hC1, hK1⟩ := k16 c1 c2x
        exact jr_callV (pc' := 609) (k := 0) (av := [.int (xs (i + 1).toNatClampNeg), .int (xs (i + 2).toNatClampNeg)]) (st := []) sX7_first wmL_73 dL_law_606 rfl (by decide) rfl (by decide) rfl rfl rfl (Nat.le_of_ble_eq_true rfl) rfl hC1 (fun v h2 hp => jG.weak (lv' := [some (.ref 1000), some (.ref 0), some (.ref 52), some (.int i)]) ⟨rfl, rfl, rfl, rfl, trivial⟩ (hK1 v h2 hp))
      · refine jr_tabIn (pc' := 628) (off := 596) dL_law_32 (by omega) (by omega) (by rw [c2x]; rfl) rfl ?_
        refine jr_aload_n (pc' := 629) (i := 1) dL_law_628 rfl rfl rfl ?_
        refine jr_aload_n (pc' := 630) (i := 0) dL_law_629 rfl rfl rfl ?_
        refine jr_iload_n (pc' := 631) (i := 3) dL_law_630 rfl rfl rfl ?_
        refine jr_iconst (pc' := 632) (v := 1) dL_law_631 rfl (by decide) ?_
        refine jr_iadd (pc' := 633)  dL_law_632 rfl  ?_
        refine jr_sld (pc' := 634) dL_law_633 rfl (b26 c1 c2x) ?_
        refine jr_aload_n (pc' := 635) (i := 0) dL_law_634 rfl rfl rfl ?_
        refine jr_iload_n (pc' := 636) (i := 3) dL_law_635 rfl rfl rfl ?_
        refine jr_iconst (pc' := 637) (v := 2) dL_law_636 rfl (by decide) ?_
        refine jr_iadd (pc' := 638)  dL_law_637 rfl  ?_
        refine jr_sld (pc' := 639) dL_law_638 rfl (b27 c1 c2x) ?_
        refine jr_aload_n (pc' := 640) (i := 0) dL_law_639 rfl rfl rfl ?_
        refine jr_iload_n (pc' := 641) (i := 3) dL_law_640 rfl rfl rfl ?_
        refine jr_iconst (pc' := 642) (v := 3) dL_law_641 rfl (by decide) ?_
        refine jr_iadd (pc' := 643)  dL_law_642 rfl  ?_
        refine jr_sld (pc' := 644) dL_law_643 rfl (b28 c1 c2x) ?_
        obtain ⟨P1, hC1, hK1⟩ := k17 c1 c2x
        exact jr_callV (pc' := 647) (k := 0) (av := [.int (xs (i + 1).toNatClampNeg), .int (xs (i + 2).toNatClampNeg), .int (xs (i + 3).toNatClampNeg)]) (st := []) sX7_sawed wmL_77 dL_law_644 rfl (by decide) rfl (by decide) rfl rfl rfl (Nat.le_of_ble_eq_true rfl) rfl hC1 (fun v h2 hp => jG.weak (lv' := [some (.ref 1000), some (.ref 0), some (.ref 52), some (.int i)]) ⟨rfl, rfl, rfl, rfl, trivial⟩ (hK1 v h2 hp))
      · refine jr_tabIn (pc' := 671) (off := 639) dL_law_32 (by omega) (by omega) (by rw [c2x]; rfl) rfl ?_
        refine jr_aload_n (pc' := 672) (i := 1) dL_law_671 rfl rfl rfl ?_
        refine jr_aload_n (pc' := 673) (i := 0) dL_law_672 rfl rfl rfl ?_
        refine jr_iload_n (pc' := 674) (i := 3) dL_law_673 rfl rfl rfl ?_
        refine jr_iconst (pc' := 675) (v := 1) dL_law_674 rfl (by decide) ?_
        refine jr_iadd (pc' := 676)  dL_law_675 rfl  ?_
        refine jr_sld (pc' := 677) dL_law_676 rfl (b29 c1 c2x) ?_
        refine jr_aload_n (pc' := 678) (i := 0) dL_law_677 rfl rfl rfl ?_
        refine jr_iload_n (pc' := 679) (i := 3) dL_law_678 rfl rfl rfl ?_
        refine jr_iconst (pc' := 680) (v := 2) dL_law_679 rfl (by decide) ?_
        refine jr_iadd (pc' := 681)  dL_law_680 rfl  ?_
        refine jr_sld (pc' := 682) dL_law_681 rfl (b30 c1 c2x) ?_
        obtain ⟨P1, hC1, hK1⟩ := k18 c1 c2x
        exact jr_callV (pc' := 685) (k := 0) (av := [.int (xs (i + 1).toNatClampNeg), .int (xs (i + 2).toNatClampNeg)]) (st := []) sX7_bestStake wmL_81 dL_law_682 rfl (by decide) rfl (by decide) rfl rfl rfl (Nat.le_of_ble_eq_true rfl) rfl hC1 (fun v h2 hp => jG.weak (lv' := [some (.ref 1000), some (.ref 0), some (.ref 52), some (.int i)]) ⟨rfl, rfl, rfl, rfl, trivial⟩ (hK1 v h2 hp))
      · refine jr_tabIn (pc' := 704) (off := 672) dL_law_32 (by omega) (by omega) (by rw [c2x]; rfl) rfl ?_
        refine jr_aload_n (pc' := 705) (i := 1) dL_law_704 rfl rfl rfl ?_
        refine jr_aload_n (pc' := 706) (i := 0) dL_law_705 rfl rfl rfl ?_
        refine jr_iload_n (pc' := 707) (i := 3) dL_law_706 rfl rfl rfl ?_
        refine jr_iconst (pc' := 708) (v := 1) dL_law_707 rfl (by decide) ?_
        refine jr_iadd (pc' := 709)  dL_law_708 rfl  ?_
        refine jr_sld (pc' := 710) dL_law_709 rfl (b31 c1 c2x) ?_
        refine jr_aload_n (pc' := 711) (i := 0) dL_law_710 rfl rfl rfl ?_
        refine jr_iload_n (pc' := 712) (i := 3) dL_law_711 rfl rfl rfl ?_
        refine jr_iconst (pc' := 713) (v := 2) dL_law_712 rfl (by decide) ?_
        refine jr_iadd (pc' := 714)  dL_law_713 rfl  ?_
        refine jr_sld (pc' := 715) dL_law_714 rfl (b32 c1 c2x) ?_
        obtain ⟨P1, hC1, hK1⟩ := k19 c1 c2x
        exact jr_callV (pc' := 718) (k := 0) (av := [.int (xs (i + 1).toNatClampNeg), .int (xs (i + 2).toNatClampNeg)]) (st := []) sX7_inch wmL_85 dL_law_715 rfl (by decide) rfl (by decide) rfl rfl rfl (Nat.le_of_ble_eq_true rfl) rfl hC1 (fun v h2 hp => jG.weak (lv' := [some (.ref 1000), some (.ref 0), some (.ref 52), some (.int i)]) ⟨rfl, rfl, rfl, rfl, trivial⟩ (hK1 v h2 hp))
      · refine jr_tabIn (pc' := 737) (off := 705) dL_law_32 (by omega) (by omega) (by rw [c2x]; rfl) rfl ?_
        refine jr_aload_n (pc' := 738) (i := 1) dL_law_737 rfl rfl rfl ?_
        refine jr_aload_n (pc' := 739) (i := 0) dL_law_738 rfl rfl rfl ?_
        refine jr_iload_n (pc' := 740) (i := 3) dL_law_739 rfl rfl rfl ?_
        refine jr_iconst (pc' := 741) (v := 1) dL_law_740 rfl (by decide) ?_
        refine jr_iadd (pc' := 742)  dL_law_741 rfl  ?_
        refine jr_sld (pc' := 743) dL_law_742 rfl (b33 c1 c2x) ?_
        obtain ⟨P1, hC1, hK1⟩ := k20 c1 c2x
        exact jr_callV (pc' := 746) (k := 0) (av := [.int (xs (i + 1).toNatClampNeg)]) (st := []) sX7_nobody wmL_89 dL_law_743 rfl (by decide) rfl (by decide) rfl rfl rfl (Nat.le_of_ble_eq_true rfl) rfl hC1 (fun v h2 hp => jG.weak (lv' := [some (.ref 1000), some (.ref 0), some (.ref 52), some (.int i)]) ⟨rfl, rfl, rfl, rfl, trivial⟩ (hK1 v h2 hp))
      · refine jr_tabIn (pc' := 760) (off := 728) dL_law_32 (by omega) (by omega) (by rw [c2x]; rfl) rfl ?_
        refine jr_aload_n (pc' := 761) (i := 1) dL_law_760 rfl rfl rfl ?_
        refine jr_aload_n (pc' := 762) (i := 0) dL_law_761 rfl rfl rfl ?_
        refine jr_iload_n (pc' := 763) (i := 3) dL_law_762 rfl rfl rfl ?_
        refine jr_iconst (pc' := 764) (v := 1) dL_law_763 rfl (by decide) ?_
        refine jr_iadd (pc' := 765)  dL_law_764 rfl  ?_
        refine jr_sld (pc' := 766) dL_law_765 rfl (b34 c1 c2x) ?_
        obtain ⟨P1, hC1, hK1⟩ := k21 c1 c2x
        exact jr_callV (pc' := 769) (k := 0) (av := [.int (xs (i + 1).toNatClampNeg)]) (st := []) sX7_alone wmL_93 dL_law_766 rfl (by decide) rfl (by decide) rfl rfl rfl (Nat.le_of_ble_eq_true rfl) rfl hC1 (fun v h2 hp => jG.weak (lv' := [some (.ref 1000), some (.ref 0), some (.ref 52), some (.int i)]) ⟨rfl, rfl, rfl, rfl, trivial⟩ (hK1 v h2 hp))
      · refine jr_tabIn (pc' := 783) (off := 751) dL_law_32 (by omega) (by omega) (by rw [c2x]; rfl) rfl ?_
        refine jr_aload_n (pc' := 784) (i := 1) dL_law_783 rfl rfl rfl ?_
        refine jr_aload_n (pc' := 785) (i := 0) dL_law_784 rfl rfl rfl ?_
        refine jr_iload_n (pc' := 786) (i := 3) dL_law_785 rfl rfl rfl ?_
        refine jr_iconst (pc' := 787) (v := 1) dL_law_786 rfl (by decide) ?_
        refine jr_iadd (pc' := 788)  dL_law_787 rfl  ?_
        refine jr_sld (pc' := 789) dL_law_788 rfl (b35 c1 c2x) ?_
        refine jr_aload_n (pc' := 790) (i := 0) dL_law_789 rfl rfl rfl ?_
        refine jr_iload_n (pc' := 791) (i := 3) dL_law_790 rfl rfl rfl ?_
        refine jr_iconst (pc' := 792) (v := 2) dL_law_791 rfl (by decide) ?_
        refine jr_iadd (pc' := 793)  dL_law_792 rfl  ?_
        refine jr_sld (pc' := 794) dL_law_793 rfl (b36 c1 c2x) ?_
        obtain ⟨P1, hC1, hK1⟩ := k22 c1 c2x
        exact jr_callV (pc' := 797) (k := 0) (av := [.int (xs (i + 1).toNatClampNeg), .int (xs (i + 2).toNatClampNeg)]) (st := []) sX7_track wmL_97 dL_law_794 rfl (by decide) rfl (by decide) rfl rfl rfl (Nat.le_of_ble_eq_true rfl) rfl hC1 (fun v h2 hp => jG.weak (lv' := [some (.ref 1000), some (.ref 0), some (.ref 52), some (.int i)]) ⟨rfl, rfl, rfl, rfl, trivial⟩ (hK1 v h2 hp))
      · refine jr_tabIn (pc' := 816) (off := 784) dL_law_32 (by omega) (by omega) (by rw [c2x]; rfl) rfl ?_
        refine jr_aload_n (pc' := 817) (i := 1) dL_law_816 rfl rfl rfl ?_
        refine jr_aload_n (pc' := 818) (i := 0) dL_law_817 rfl rfl rfl ?_
        refine jr_iload_n (pc' := 819) (i := 3) dL_law_818 rfl rfl rfl ?_
        refine jr_iconst (pc' := 820) (v := 1) dL_law_819 rfl (by decide) ?_
        refine jr_iadd (pc' := 821)  dL_law_820 rfl  ?_
        refine jr_sld (pc' := 822) dL_law_821 rfl (b37 c1 c2x) ?_
        refine jr_aload_n (pc' := 823) (i := 0) dL_law_822 rfl rfl rfl ?_
        refine jr_iload_n (pc' := 824) (i := 3) dL_law_823 rfl rfl rfl ?_
        refine jr_iconst (pc' := 825) (v := 2) dL_law_824 rfl (by decide) ?_
        refine jr_iadd (pc' := 826)  dL_law_825 rfl  ?_
        refine jr_sld (pc' := 827) dL_law_826 rfl (b38 c1 c2x) ?_
        refine jr_aload_n (pc' := 828) (i := 0) dL_law_827 rfl rfl rfl ?_
        refine jr_iload_n (pc' := 829) (i := 3) dL_law_828 rfl rfl rfl ?_
        refine jr_iconst (pc' := 830) (v := 3) dL_law_829 rfl (by decide) ?_
        refine jr_iadd (pc' := 831)  dL_law_830 rfl  ?_
        refine jr_sld (pc' := 832) dL_law_831 rfl (b39 c1 c2x) ?_
        obtain ⟨P1, hC1, hK1⟩ := k23 c1 c2x
        exact jr_callV (pc' := 835) (k := 0) (av := [.int (xs (i + 1).toNatClampNeg), .int (xs (i + 2).toNatClampNeg), .int (xs (i + 3).toNatClampNeg)]) (st := []) sX7_see wmL_101 dL_law_832 rfl (by decide) rfl (by decide) rfl rfl rfl (Nat.le_of_ble_eq_true rfl) rfl hC1 (fun v h2 hp => jG.weak (lv' := [some (.ref 1000), some (.ref 0), some (.ref 52), some (.int i)]) ⟨rfl, rfl, rfl, rfl, trivial⟩ (hK1 v h2 hp))
      · refine jr_tabIn (pc' := 859) (off := 827) dL_law_32 (by omega) (by omega) (by rw [c2x]; rfl) rfl ?_
        refine jr_aload_n (pc' := 860) (i := 1) dL_law_859 rfl rfl rfl ?_
        obtain ⟨P1, hC1, hK1⟩ := k24 c1 c2x
        exact jr_callV (pc' := 863) (k := 0) (av := []) (st := []) sX7_fits wmL_105 dL_law_860 rfl (by decide) rfl (by decide) rfl rfl rfl (Nat.le_of_ble_eq_true rfl) rfl hC1 (fun v h2 hp => jG.weak (lv' := [some (.ref 1000), some (.ref 0), some (.ref 52), some (.int i)]) ⟨rfl, rfl, rfl, rfl, trivial⟩ (hK1 v h2 hp))
      · refine jr_tabIn (pc' := 872) (off := 840) dL_law_32 (by omega) (by omega) (by rw [c2x]; rfl) rfl ?_
        refine jr_aload_n (pc' := 873) (i := 1) dL_law_872 rfl rfl rfl ?_
        refine jr_aload_n (pc' := 874) (i := 0) dL_law_873 rfl rfl rfl ?_
        refine jr_iload_n (pc' := 875) (i := 3) dL_law_874 rfl rfl rfl ?_
        refine jr_iconst (pc' := 876) (v := 1) dL_law_875 rfl (by decide) ?_
        refine jr_iadd (pc' := 877)  dL_law_876 rfl  ?_
        refine jr_sld (pc' := 878) dL_law_877 rfl (b40 c1 c2x) ?_
        refine jr_aload_n (pc' := 879) (i := 0) dL_law_878 rfl rfl rfl ?_
        refine jr_iload_n (pc' := 880) (i := 3) dL_law_879 rfl rfl rfl ?_
        refine jr_iconst (pc' := 881) (v := 2) dL_law_880 rfl (by decide) ?_
        refine jr_iadd (pc' := 882)  dL_law_881 rfl  ?_
        refine jr_sld (pc' := 883) dL_law_882 rfl (b41 c1 c2x) ?_
        obtain ⟨P1, hC1, hK1⟩ := k25 c1 c2x
        exact jr_callV (pc' := 886) (k := 0) (av := [.int (xs (i + 1).toNatClampNeg), .int (xs (i + 2).toNatClampNeg)]) (st := []) sX7_write wmL_109 dL_law_883 rfl (by decide) rfl (by decide) rfl rfl rfl (Nat.le_of_ble_eq_true rfl) rfl hC1 (fun v h2 hp => jG.weak (lv' := [some (.ref 1000), some (.ref 0), some (.ref 52), some (.int i)]) ⟨rfl, rfl, rfl, rfl, trivial⟩ (hK1 v h2 hp))
      · refine jr_tabIn (pc' := 905) (off := 873) dL_law_32 (by omega) (by omega) (by rw [c2x]; rfl) rfl ?_
        refine jr_aload_n (pc' := 906) (i := 1) dL_law_905 rfl rfl rfl ?_
        obtain ⟨P1, hC1, hK1⟩ := k26 c1 c2x
        exact jr_callV (pc' := 909) (k := 0) (av := []) (st := []) sX7_tear wmL_113 dL_law_906 rfl (by decide) rfl (by decide) rfl rfl rfl (Nat.le_of_ble_eq_true rfl) rfl hC1 (fun v h2 hp => jG.weak (lv' := [some (.ref 1000), some (.ref 0), some (.ref 52), some (.int i)]) ⟨rfl, rfl, rfl, rfl, trivial⟩ (hK1 v h2 hp))
      · refine jr_tabIn (pc' := 918) (off := 886) dL_law_32 (by omega) (by omega) (by rw [c2x]; rfl) rfl ?_
        refine jr_aload_n (pc' := 919) (i := 1) dL_law_918 rfl rfl rfl ?_
        obtain ⟨P1, hC1, hK1⟩ := k27 c1 c2x
        exact jr_callV (pc' := 922) (k := 0) (av := []) (st := []) sX7_judge wmL_117 dL_law_919 rfl (by decide) rfl (by decide) rfl rfl rfl (Nat.le_of_ble_eq_true rfl) rfl hC1 (fun v h2 hp => jG.weak (lv' := [some (.ref 1000), some (.ref 0), some (.ref 52), some (.int i)]) ⟨rfl, rfl, rfl, rfl, trivial⟩ (hK1 v h2 hp))
      · refine jr_tabIn (pc' := 931) (off := 899) dL_law_32 (by omega) (by omega) (by rw [c2x]; rfl) rfl ?_
        refine jr_aload_n (pc' := 932) (i := 1) dL_law_931 rfl rfl rfl ?_
        refine jr_aload_n (pc' := 933) (i := 0) dL_law_932 rfl rfl rfl ?_
        refine jr_iload_n (pc' := 934) (i := 3) dL_law_933 rfl rfl rfl ?_
        refine jr_iconst (pc' := 935) (v := 1) dL_law_934 rfl (by decide) ?_
        refine jr_iadd (pc' := 936)  dL_law_935 rfl  ?_
        refine jr_sld (pc' := 937) dL_law_936 rfl (b42 c1 c2x) ?_
        obtain ⟨P1, hC1, hK1⟩ := k28 c1 c2x
        exact jr_callV (pc' := 940) (k := 0) (av := [.int (xs (i + 1).toNatClampNeg)]) (st := []) sX7_seed wmL_121 dL_law_937 rfl (by decide) rfl (by decide) rfl rfl rfl (Nat.le_of_ble_eq_true rfl) rfl hC1 (fun v h2 hp => jG.weak (lv' := [some (.ref 1000), some (.ref 0), some (.ref 52), some (.int i)]) ⟨rfl, rfl, rfl, rfl, trivial⟩ (hK1 v h2 hp))
      · refine jr_tabIn (pc' := 954) (off := 922) dL_law_32 (by omega) (by omega) (by rw [c2x]; rfl) rfl ?_
        refine jr_aload_n (pc' := 955) (i := 1) dL_law_954 rfl rfl rfl ?_
        refine jr_aload_n (pc' := 956) (i := 0) dL_law_955 rfl rfl rfl ?_
        refine jr_iload_n (pc' := 957) (i := 3) dL_law_956 rfl rfl rfl ?_
        refine jr_iconst (pc' := 958) (v := 1) dL_law_957 rfl (by decide) ?_
        refine jr_iadd (pc' := 959)  dL_law_958 rfl  ?_
        refine jr_sld (pc' := 960) dL_law_959 rfl (b43 c1 c2x) ?_
        obtain ⟨P1, hC1, hK1⟩ := k29 c1 c2x
        exact jr_callV (pc' := 963) (k := 0) (av := [.int (xs (i + 1).toNatClampNeg)]) (st := []) sX7_keep wmL_125 dL_law_960 rfl (by decide) rfl (by decide) rfl rfl rfl (Nat.le_of_ble_eq_true rfl) rfl hC1 (fun v h2 hp => jG.weak (lv' := [some (.ref 1000), some (.ref 0), some (.ref 52), some (.int i)]) ⟨rfl, rfl, rfl, rfl, trivial⟩ (hK1 v h2 hp))
      · refine jr_tabIn (pc' := 977) (off := 945) dL_law_32 (by omega) (by omega) (by rw [c2x]; rfl) rfl ?_
        refine jr_aload_n (pc' := 978) (i := 1) dL_law_977 rfl rfl rfl ?_
        refine jr_aload_n (pc' := 979) (i := 0) dL_law_978 rfl rfl rfl ?_
        refine jr_iload_n (pc' := 980) (i := 3) dL_law_979 rfl rfl rfl ?_
        refine jr_iconst (pc' := 981) (v := 1) dL_law_980 rfl (by decide) ?_
        refine jr_iadd (pc' := 982)  dL_law_981 rfl  ?_
        refine jr_sld (pc' := 983) dL_law_982 rfl (b44 c1 c2x) ?_
        obtain ⟨P1, hC1, hK1⟩ := k30 c1 c2x
        exact jr_callV (pc' := 986) (k := 0) (av := [.int (xs (i + 1).toNatClampNeg)]) (st := []) sX7_goBack wmL_129 dL_law_983 rfl (by decide) rfl (by decide) rfl rfl rfl (Nat.le_of_ble_eq_true rfl) rfl hC1 (fun v h2 hp => jG.weak (lv' := [some (.ref 1000), some (.ref 0), some (.ref 52), some (.int i)]) ⟨rfl, rfl, rfl, rfl, trivial⟩ (hK1 v h2 hp))

theorem q_law_189 {E : jEnv} {n : Nat} {L : Nat} {xs : Nat → Int32} {Post : Option Value → HP → Prop} (i : Int32) (s0 : Int32) (h : HP)
    (b0 : vp_in (i + 1) L)
    (b1 : vp_in (i + 2) L)
    (b2 : vp_in (i + 3) L)
    (k0 : jCall E mX8_feed n [.ref 52, .int (xs (i + 1).toNatClampNeg), .long ((((xs (i + 2).toNatClampNeg).toInt64) <<< ((32 : Int32).toInt64 &&& 63)) ||| (((xs (i + 3).toNatClampNeg).toInt64) &&& 4294967295))] h (fun v h2 => jG E mL_law (n + 1) (jX E L xs) Post 218 [some (.ref 1000), some (.ref 0), some (.ref 52), some (.int i)] (v.toList ++ [.int s0]) h2))
    : jG E mL_law (n + 1) (jX E L xs) Post 189 [some (.ref 1000), some (.ref 0), some (.ref 52), some (.int i)] [.int s0] h := by
  refine jr_aload_n (pc' := 190) (i := 2) dL_law_189 rfl rfl rfl ?_
  refine jr_aload_n (pc' := 191) (i := 0) dL_law_190 rfl rfl rfl ?_
  refine jr_iload_n (pc' := 192) (i := 3) dL_law_191 rfl rfl rfl ?_
  refine jr_iconst (pc' := 193) (v := 1) dL_law_192 rfl (by decide) ?_
  refine jr_iadd (pc' := 194)  dL_law_193 rfl  ?_
  refine jr_sld (pc' := 195) dL_law_194 rfl (b0) ?_
  refine jr_aload_n (pc' := 196) (i := 0) dL_law_195 rfl rfl rfl ?_
  refine jr_iload_n (pc' := 197) (i := 3) dL_law_196 rfl rfl rfl ?_
  refine jr_iconst (pc' := 198) (v := 2) dL_law_197 rfl (by decide) ?_
  refine jr_iadd (pc' := 199)  dL_law_198 rfl  ?_
  refine jr_sld (pc' := 200) dL_law_199 rfl (b1) ?_
  refine jr_i2l (pc' := 201)  dL_law_200 rfl  ?_
  refine jr_bipush (pc' := 203) (v := 32) dL_law_201 rfl (by decide) ?_
  refine jr_lshl (pc' := 204)  dL_law_203 rfl  ?_
  refine jr_aload_n (pc' := 205) (i := 0) dL_law_204 rfl rfl rfl ?_
  refine jr_iload_n (pc' := 206) (i := 3) dL_law_205 rfl rfl rfl ?_
  refine jr_iconst (pc' := 207) (v := 3) dL_law_206 rfl (by decide) ?_
  refine jr_iadd (pc' := 208)  dL_law_207 rfl  ?_
  refine jr_sld (pc' := 209) dL_law_208 rfl (b2) ?_
  refine jr_i2l (pc' := 210)  dL_law_209 rfl  ?_
  refine jr_ldc2 (pc' := 213) (v := 4294967295) dL_law_210 rfl wcL_13 ?_
  refine jr_land (pc' := 214)  dL_law_213 rfl  ?_
  refine jr_lor (pc' := 215)  dL_law_214 rfl  ?_
  obtain ⟨P1, hC1, hK1⟩ := k0
  exact jr_callV (pc' := 218) (k := 52) (av := [.int (xs (i + 1).toNatClampNeg), .long ((((xs (i + 2).toNatClampNeg).toInt64) <<< ((32 : Int32).toInt64 &&& 63)) ||| (((xs (i + 3).toNatClampNeg).toInt64) &&& 4294967295))]) (st := [.int s0]) sX8_feed wmL_19 dL_law_215 rfl (by decide) rfl (by decide) rfl rfl rfl (Nat.le_of_ble_eq_true rfl) rfl hC1 (fun v h2 hp => jG.weak (lv' := [some (.ref 1000), some (.ref 0), some (.ref 52), some (.int i)]) ⟨rfl, rfl, rfl, rfl, trivial⟩ (hK1 v h2 hp))

theorem q_law_227 {E : jEnv} {n : Nat} {L : Nat} {xs : Nat → Int32} {Post : Option Value → HP → Prop} (i : Int32) (s0 : Int32) (h : HP)
    (k0 : jCall E mX8_province n [.ref 52] h (fun v h2 => jG E mL_law (n + 1) (jX E L xs) Post 231 [some (.ref 1000), some (.ref 0), some (.ref 52), some (.int i)] (v.toList ++ [.int s0]) h2))
    : jG E mL_law (n + 1) (jX E L xs) Post 227 [some (.ref 1000), some (.ref 0), some (.ref 52), some (.int i)] [.int s0] h := by
  refine jr_aload_n (pc' := 228) (i := 2) dL_law_227 rfl rfl rfl ?_
  obtain ⟨P1, hC1, hK1⟩ := k0
  exact jr_callV (pc' := 231) (k := 52) (av := []) (st := [.int s0]) sX8_province wmL_24 dL_law_228 rfl (by decide) rfl (by decide) rfl rfl rfl (Nat.le_of_ble_eq_true rfl) rfl hC1 (fun v h2 hp => jG.weak (lv' := [some (.ref 1000), some (.ref 0), some (.ref 52), some (.int i)]) ⟨rfl, rfl, rfl, rfl, trivial⟩ (hK1 v h2 hp))

theorem q_law_240 {E : jEnv} {n : Nat} {L : Nat} {xs : Nat → Int32} {Post : Option Value → HP → Prop} (i : Int32) (s0 : Int32) (h : HP)
    (k0 : jCall E mX8_fault n [.ref 52] h (fun v h2 => jG E mL_law (n + 1) (jX E L xs) Post 244 [some (.ref 1000), some (.ref 0), some (.ref 52), some (.int i)] (v.toList ++ [.int s0]) h2))
    : jG E mL_law (n + 1) (jX E L xs) Post 240 [some (.ref 1000), some (.ref 0), some (.ref 52), some (.int i)] [.int s0] h := by
  refine jr_aload_n (pc' := 241) (i := 2) dL_law_240 rfl rfl rfl ?_
  obtain ⟨P1, hC1, hK1⟩ := k0
  exact jr_callV (pc' := 244) (k := 52) (av := []) (st := [.int s0]) sX8_fault wmL_28 dL_law_241 rfl (by decide) rfl (by decide) rfl rfl rfl (Nat.le_of_ble_eq_true rfl) rfl hC1 (fun v h2 hp => jG.weak (lv' := [some (.ref 1000), some (.ref 0), some (.ref 52), some (.int i)]) ⟨rfl, rfl, rfl, rfl, trivial⟩ (hK1 v h2 hp))

theorem q_law_258 {E : jEnv} {n : Nat} {L : Nat} {xs : Nat → Int32} {Post : Option Value → HP → Prop} (i : Int32) (s0 : Int32) (h : HP)
    (b0 : vp_in (i + 1) L)
    (k0 : jCall E mX8_told n [.ref 52, .int (xs (i + 1).toNatClampNeg)] h (fun v h2 => jG E mL_law (n + 1) (jX E L xs) Post 267 [some (.ref 1000), some (.ref 0), some (.ref 52), some (.int i)] (v.toList ++ [.int s0]) h2))
    : jG E mL_law (n + 1) (jX E L xs) Post 258 [some (.ref 1000), some (.ref 0), some (.ref 52), some (.int i)] [.int s0] h := by
  refine jr_aload_n (pc' := 259) (i := 2) dL_law_258 rfl rfl rfl ?_
  refine jr_aload_n (pc' := 260) (i := 0) dL_law_259 rfl rfl rfl ?_
  refine jr_iload_n (pc' := 261) (i := 3) dL_law_260 rfl rfl rfl ?_
  refine jr_iconst (pc' := 262) (v := 1) dL_law_261 rfl (by decide) ?_
  refine jr_iadd (pc' := 263)  dL_law_262 rfl  ?_
  refine jr_sld (pc' := 264) dL_law_263 rfl (b0) ?_
  obtain ⟨P1, hC1, hK1⟩ := k0
  exact jr_callV (pc' := 267) (k := 52) (av := [.int (xs (i + 1).toNatClampNeg)]) (st := [.int s0]) sX8_told wmL_33 dL_law_264 rfl (by decide) rfl (by decide) rfl rfl rfl (Nat.le_of_ble_eq_true rfl) rfl hC1 (fun v h2 hp => jG.weak (lv' := [some (.ref 1000), some (.ref 0), some (.ref 52), some (.int i)]) ⟨rfl, rfl, rfl, rfl, trivial⟩ (hK1 v h2 hp))

theorem q_law_291 {E : jEnv} {n : Nat} {L : Nat} {xs : Nat → Int32} {Post : Option Value → HP → Prop} (i : Int32) (s0 : Int32) (h : HP)
    (b0 : vp_in (i + 1) L)
    (b1 : vp_in (i + 2) L)
    (b2 : vp_in (i + 3) L)
    (k0 : jCall E mX8_depth n [.ref 52, .int (xs (i + 1).toNatClampNeg), .int (xs (i + 2).toNatClampNeg), .int (xs (i + 3).toNatClampNeg)] h (fun v h2 => jG E mL_law (n + 1) (jX E L xs) Post 310 [some (.ref 1000), some (.ref 0), some (.ref 52), some (.int i)] (v.toList ++ [.int s0]) h2))
    : jG E mL_law (n + 1) (jX E L xs) Post 291 [some (.ref 1000), some (.ref 0), some (.ref 52), some (.int i)] [.int s0] h := by
  refine jr_aload_n (pc' := 292) (i := 2) dL_law_291 rfl rfl rfl ?_
  refine jr_aload_n (pc' := 293) (i := 0) dL_law_292 rfl rfl rfl ?_
  refine jr_iload_n (pc' := 294) (i := 3) dL_law_293 rfl rfl rfl ?_
  refine jr_iconst (pc' := 295) (v := 1) dL_law_294 rfl (by decide) ?_
  refine jr_iadd (pc' := 296)  dL_law_295 rfl  ?_
  refine jr_sld (pc' := 297) dL_law_296 rfl (b0) ?_
  refine jr_aload_n (pc' := 298) (i := 0) dL_law_297 rfl rfl rfl ?_
  refine jr_iload_n (pc' := 299) (i := 3) dL_law_298 rfl rfl rfl ?_
  refine jr_iconst (pc' := 300) (v := 2) dL_law_299 rfl (by decide) ?_
  refine jr_iadd (pc' := 301)  dL_law_300 rfl  ?_
  refine jr_sld (pc' := 302) dL_law_301 rfl (b1) ?_
  refine jr_aload_n (pc' := 303) (i := 0) dL_law_302 rfl rfl rfl ?_
  refine jr_iload_n (pc' := 304) (i := 3) dL_law_303 rfl rfl rfl ?_
  refine jr_iconst (pc' := 305) (v := 3) dL_law_304 rfl (by decide) ?_
  refine jr_iadd (pc' := 306)  dL_law_305 rfl  ?_
  refine jr_sld (pc' := 307) dL_law_306 rfl (b2) ?_
  obtain ⟨P1, hC1, hK1⟩ := k0
  exact jr_callV (pc' := 310) (k := 52) (av := [.int (xs (i + 1).toNatClampNeg), .int (xs (i + 2).toNatClampNeg), .int (xs (i + 3).toNatClampNeg)]) (st := [.int s0]) sX8_depth wmL_38 dL_law_307 rfl (by decide) rfl (by decide) rfl rfl rfl (Nat.le_of_ble_eq_true rfl) rfl hC1 (fun v h2 hp => jG.weak (lv' := [some (.ref 1000), some (.ref 0), some (.ref 52), some (.int i)]) ⟨rfl, rfl, rfl, rfl, trivial⟩ (hK1 v h2 hp))

theorem q_law_329 {E : jEnv} {n : Nat} {L : Nat} {xs : Nat → Int32} {Post : Option Value → HP → Prop} (i : Int32) (s0 : Int32) (h : HP)
    (b0 : vp_in (i + 1) L)
    (b1 : vp_in (i + 2) L)
    (k0 : jCall E mX8_man n [.ref 52, .int (xs (i + 1).toNatClampNeg), .int (xs (i + 2).toNatClampNeg)] h (fun v h2 => jG E mL_law (n + 1) (jX E L xs) Post 343 [some (.ref 1000), some (.ref 0), some (.ref 52), some (.int i)] (v.toList ++ [.int s0]) h2))
    : jG E mL_law (n + 1) (jX E L xs) Post 329 [some (.ref 1000), some (.ref 0), some (.ref 52), some (.int i)] [.int s0] h := by
  refine jr_aload_n (pc' := 330) (i := 2) dL_law_329 rfl rfl rfl ?_
  refine jr_aload_n (pc' := 331) (i := 0) dL_law_330 rfl rfl rfl ?_
  refine jr_iload_n (pc' := 332) (i := 3) dL_law_331 rfl rfl rfl ?_
  refine jr_iconst (pc' := 333) (v := 1) dL_law_332 rfl (by decide) ?_
  refine jr_iadd (pc' := 334)  dL_law_333 rfl  ?_
  refine jr_sld (pc' := 335) dL_law_334 rfl (b0) ?_
  refine jr_aload_n (pc' := 336) (i := 0) dL_law_335 rfl rfl rfl ?_
  refine jr_iload_n (pc' := 337) (i := 3) dL_law_336 rfl rfl rfl ?_
  refine jr_iconst (pc' := 338) (v := 2) dL_law_337 rfl (by decide) ?_
  refine jr_iadd (pc' := 339)  dL_law_338 rfl  ?_
  refine jr_sld (pc' := 340) dL_law_339 rfl (b1) ?_
  obtain ⟨P1, hC1, hK1⟩ := k0
  exact jr_callV (pc' := 343) (k := 52) (av := [.int (xs (i + 1).toNatClampNeg), .int (xs (i + 2).toNatClampNeg)]) (st := [.int s0]) sX8_man wmL_43 dL_law_340 rfl (by decide) rfl (by decide) rfl rfl rfl (Nat.le_of_ble_eq_true rfl) rfl hC1 (fun v h2 hp => jG.weak (lv' := [some (.ref 1000), some (.ref 0), some (.ref 52), some (.int i)]) ⟨rfl, rfl, rfl, rfl, trivial⟩ (hK1 v h2 hp))

theorem q_law_362 {E : jEnv} {n : Nat} {L : Nat} {xs : Nat → Int32} {Post : Option Value → HP → Prop} (i : Int32) (s0 : Int32) (h : HP)
    (b0 : vp_in (i + 1) L)
    (b1 : vp_in (i + 2) L)
    (k0 : jCall E mX8_order n [.ref 52, .int (xs (i + 1).toNatClampNeg), .int (xs (i + 2).toNatClampNeg)] h (fun v h2 => jG E mL_law (n + 1) (jX E L xs) Post 376 [some (.ref 1000), some (.ref 0), some (.ref 52), some (.int i)] (v.toList ++ [.int s0]) h2))
    : jG E mL_law (n + 1) (jX E L xs) Post 362 [some (.ref 1000), some (.ref 0), some (.ref 52), some (.int i)] [.int s0] h := by
  refine jr_aload_n (pc' := 363) (i := 2) dL_law_362 rfl rfl rfl ?_
  refine jr_aload_n (pc' := 364) (i := 0) dL_law_363 rfl rfl rfl ?_
  refine jr_iload_n (pc' := 365) (i := 3) dL_law_364 rfl rfl rfl ?_
  refine jr_iconst (pc' := 366) (v := 1) dL_law_365 rfl (by decide) ?_
  refine jr_iadd (pc' := 367)  dL_law_366 rfl  ?_
  refine jr_sld (pc' := 368) dL_law_367 rfl (b0) ?_
  refine jr_aload_n (pc' := 369) (i := 0) dL_law_368 rfl rfl rfl ?_
  refine jr_iload_n (pc' := 370) (i := 3) dL_law_369 rfl rfl rfl ?_
  refine jr_iconst (pc' := 371) (v := 2) dL_law_370 rfl (by decide) ?_
  refine jr_iadd (pc' := 372)  dL_law_371 rfl  ?_
  refine jr_sld (pc' := 373) dL_law_372 rfl (b1) ?_
  obtain ⟨P1, hC1, hK1⟩ := k0
  exact jr_callV (pc' := 376) (k := 52) (av := [.int (xs (i + 1).toNatClampNeg), .int (xs (i + 2).toNatClampNeg)]) (st := [.int s0]) sX8_order wmL_47 dL_law_373 rfl (by decide) rfl (by decide) rfl rfl rfl (Nat.le_of_ble_eq_true rfl) rfl hC1 (fun v h2 hp => jG.weak (lv' := [some (.ref 1000), some (.ref 0), some (.ref 52), some (.int i)]) ⟨rfl, rfl, rfl, rfl, trivial⟩ (hK1 v h2 hp))

theorem q_law_390 {E : jEnv} {n : Nat} {L : Nat} {xs : Nat → Int32} {Post : Option Value → HP → Prop} (i : Int32) (s0 : Int32) (h : HP)
    (b0 : vp_in (i + 1) L)
    (k0 : jCall E mX8_hour n [.ref 52, .int (xs (i + 1).toNatClampNeg)] h (fun v h2 => jG E mL_law (n + 1) (jX E L xs) Post 399 [some (.ref 1000), some (.ref 0), some (.ref 52), some (.int i)] (v.toList ++ [.int s0]) h2))
    : jG E mL_law (n + 1) (jX E L xs) Post 390 [some (.ref 1000), some (.ref 0), some (.ref 52), some (.int i)] [.int s0] h := by
  refine jr_aload_n (pc' := 391) (i := 2) dL_law_390 rfl rfl rfl ?_
  refine jr_aload_n (pc' := 392) (i := 0) dL_law_391 rfl rfl rfl ?_
  refine jr_iload_n (pc' := 393) (i := 3) dL_law_392 rfl rfl rfl ?_
  refine jr_iconst (pc' := 394) (v := 1) dL_law_393 rfl (by decide) ?_
  refine jr_iadd (pc' := 395)  dL_law_394 rfl  ?_
  refine jr_sld (pc' := 396) dL_law_395 rfl (b0) ?_
  obtain ⟨P1, hC1, hK1⟩ := k0
  exact jr_callV (pc' := 399) (k := 52) (av := [.int (xs (i + 1).toNatClampNeg)]) (st := [.int s0]) sX8_hour wmL_51 dL_law_396 rfl (by decide) rfl (by decide) rfl rfl rfl (Nat.le_of_ble_eq_true rfl) rfl hC1 (fun v h2 hp => jG.weak (lv' := [some (.ref 1000), some (.ref 0), some (.ref 52), some (.int i)]) ⟨rfl, rfl, rfl, rfl, trivial⟩ (hK1 v h2 hp))

theorem q_law_413 {E : jEnv} {n : Nat} {L : Nat} {xs : Nat → Int32} {Post : Option Value → HP → Prop} (i : Int32) (s0 : Int32) (h : HP)
    (b0 : vp_in (i + 1) L)
    (k0 : jCall E mX8_drift n [.ref 52, .int (xs (i + 1).toNatClampNeg)] h (fun v h2 => jG E mL_law (n + 1) (jX E L xs) Post 422 [some (.ref 1000), some (.ref 0), some (.ref 52), some (.int i)] (v.toList ++ [.int s0]) h2))
    : jG E mL_law (n + 1) (jX E L xs) Post 413 [some (.ref 1000), some (.ref 0), some (.ref 52), some (.int i)] [.int s0] h := by
  refine jr_aload_n (pc' := 414) (i := 2) dL_law_413 rfl rfl rfl ?_
  refine jr_aload_n (pc' := 415) (i := 0) dL_law_414 rfl rfl rfl ?_
  refine jr_iload_n (pc' := 416) (i := 3) dL_law_415 rfl rfl rfl ?_
  refine jr_iconst (pc' := 417) (v := 1) dL_law_416 rfl (by decide) ?_
  refine jr_iadd (pc' := 418)  dL_law_417 rfl  ?_
  refine jr_sld (pc' := 419) dL_law_418 rfl (b0) ?_
  obtain ⟨P1, hC1, hK1⟩ := k0
  exact jr_callV (pc' := 422) (k := 52) (av := [.int (xs (i + 1).toNatClampNeg)]) (st := [.int s0]) sX8_drift wmL_55 dL_law_419 rfl (by decide) rfl (by decide) rfl rfl rfl (Nat.le_of_ble_eq_true rfl) rfl hC1 (fun v h2 hp => jG.weak (lv' := [some (.ref 1000), some (.ref 0), some (.ref 52), some (.int i)]) ⟨rfl, rfl, rfl, rfl, trivial⟩ (hK1 v h2 hp))

theorem q_law_441 {E : jEnv} {n : Nat} {L : Nat} {xs : Nat → Int32} {Post : Option Value → HP → Prop} (i : Int32) (s0 : Int32) (h : HP)
    (b0 : vp_in (i + 1) L)
    (b1 : vp_in (i + 2) L)
    (k0 : jCall E mX8_saw n [.ref 52, .int (xs (i + 1).toNatClampNeg), .int (xs (i + 2).toNatClampNeg)] h (fun v h2 => jG E mL_law (n + 1) (jX E L xs) Post 455 [some (.ref 1000), some (.ref 0), some (.ref 52), some (.int i)] (v.toList ++ [.int s0]) h2))
    : jG E mL_law (n + 1) (jX E L xs) Post 441 [some (.ref 1000), some (.ref 0), some (.ref 52), some (.int i)] [.int s0] h := by
  refine jr_aload_n (pc' := 442) (i := 2) dL_law_441 rfl rfl rfl ?_
  refine jr_aload_n (pc' := 443) (i := 0) dL_law_442 rfl rfl rfl ?_
  refine jr_iload_n (pc' := 444) (i := 3) dL_law_443 rfl rfl rfl ?_
  refine jr_iconst (pc' := 445) (v := 1) dL_law_444 rfl (by decide) ?_
  refine jr_iadd (pc' := 446)  dL_law_445 rfl  ?_
  refine jr_sld (pc' := 447) dL_law_446 rfl (b0) ?_
  refine jr_aload_n (pc' := 448) (i := 0) dL_law_447 rfl rfl rfl ?_
  refine jr_iload_n (pc' := 449) (i := 3) dL_law_448 rfl rfl rfl ?_
  refine jr_iconst (pc' := 450) (v := 2) dL_law_449 rfl (by decide) ?_
  refine jr_iadd (pc' := 451)  dL_law_450 rfl  ?_
  refine jr_sld (pc' := 452) dL_law_451 rfl (b1) ?_
  obtain ⟨P1, hC1, hK1⟩ := k0
  exact jr_callV (pc' := 455) (k := 52) (av := [.int (xs (i + 1).toNatClampNeg), .int (xs (i + 2).toNatClampNeg)]) (st := [.int s0]) sX8_saw wmL_59 dL_law_452 rfl (by decide) rfl (by decide) rfl rfl rfl (Nat.le_of_ble_eq_true rfl) rfl hC1 (fun v h2 hp => jG.weak (lv' := [some (.ref 1000), some (.ref 0), some (.ref 52), some (.int i)]) ⟨rfl, rfl, rfl, rfl, trivial⟩ (hK1 v h2 hp))

theorem q_law_487 {E : jEnv} {n : Nat} {L : Nat} {xs : Nat → Int32} {Post : Option Value → HP → Prop} (i : Int32) (s0 : Int32) (h : HP)
    (b0 : vp_in (i + 1) L)
    (b1 : vp_in (i + 2) L)
    (b2 : vp_in (i + 3) L)
    (k0 : ((xs (i + 3).toNatClampNeg) = 0) → jCall E mX8_stake n [.ref 52, .int (xs (i + 1).toNatClampNeg), .int (xs (i + 2).toNatClampNeg), .int 0] h (fun v h2 => jG E mL_law (n + 1) (jX E L xs) Post 514 [some (.ref 1000), some (.ref 0), some (.ref 52), some (.int i)] (v.toList ++ [.int s0]) h2))
    (k1 : (¬ (xs (i + 3).toNatClampNeg) = 0) → jCall E mX8_stake n [.ref 52, .int (xs (i + 1).toNatClampNeg), .int (xs (i + 2).toNatClampNeg), .int 1] h (fun v h2 => jG E mL_law (n + 1) (jX E L xs) Post 514 [some (.ref 1000), some (.ref 0), some (.ref 52), some (.int i)] (v.toList ++ [.int s0]) h2))
    : jG E mL_law (n + 1) (jX E L xs) Post 487 [some (.ref 1000), some (.ref 0), some (.ref 52), some (.int i)] [.int s0] h := by
  refine jr_aload_n (pc' := 488) (i := 2) dL_law_487 rfl rfl rfl ?_
  refine jr_aload_n (pc' := 489) (i := 0) dL_law_488 rfl rfl rfl ?_
  refine jr_iload_n (pc' := 490) (i := 3) dL_law_489 rfl rfl rfl ?_
  refine jr_iconst (pc' := 491) (v := 1) dL_law_490 rfl (by decide) ?_
  refine jr_iadd (pc' := 492)  dL_law_491 rfl  ?_
  refine jr_sld (pc' := 493) dL_law_492 rfl (b0) ?_
  refine jr_aload_n (pc' := 494) (i := 0) dL_law_493 rfl rfl rfl ?_
  refine jr_iload_n (pc' := 495) (i := 3) dL_law_494 rfl rfl rfl ?_
  refine jr_iconst (pc' := 496) (v := 2) dL_law_495 rfl (by decide) ?_
  refine jr_iadd (pc' := 497)  dL_law_496 rfl  ?_
  refine jr_sld (pc' := 498) dL_law_497 rfl (b1) ?_
  refine jr_aload_n (pc' := 499) (i := 0) dL_law_498 rfl rfl rfl ?_
  refine jr_iload_n (pc' := 500) (i := 3) dL_law_499 rfl rfl rfl ?_
  refine jr_iconst (pc' := 501) (v := 3) dL_law_500 rfl (by decide) ?_
  refine jr_iadd (pc' := 502)  dL_law_501 rfl  ?_
  refine jr_sld (pc' := 503) dL_law_502 rfl (b2) ?_
  by_cases c1 : (xs (i + 3).toNatClampNeg) = 0
  · refine jr_if_eqT (pc' := 510) dL_law_503 rfl c1 ?_
    refine jr_iconst (pc' := 511) (v := 0) dL_law_510 rfl (by decide) ?_
    obtain ⟨P1, hC1, hK1⟩ := k0 c1
    exact jr_callV (pc' := 514) (k := 52) (av := [.int (xs (i + 1).toNatClampNeg), .int (xs (i + 2).toNatClampNeg), .int 0]) (st := [.int s0]) sX8_stake wmL_64 dL_law_511 rfl (by decide) rfl (by decide) rfl rfl rfl (Nat.le_of_ble_eq_true rfl) rfl hC1 (fun v h2 hp => jG.weak (lv' := [some (.ref 1000), some (.ref 0), some (.ref 52), some (.int i)]) ⟨rfl, rfl, rfl, rfl, trivial⟩ (hK1 v h2 hp))
  · refine jr_if_eqF (pc' := 506) (tgt := 510) dL_law_503 rfl rfl c1 ?_
    refine jr_iconst (pc' := 507) (v := 1) dL_law_506 rfl (by decide) ?_
    refine jr_goto (pc' := 511) dL_law_507 rfl ?_
    obtain ⟨P1, hC1, hK1⟩ := k1 c1
    exact jr_callV (pc' := 514) (k := 52) (av := [.int (xs (i + 1).toNatClampNeg), .int (xs (i + 2).toNatClampNeg), .int 1]) (st := [.int s0]) sX8_stake wmL_64 dL_law_511 rfl (by decide) rfl (by decide) rfl rfl rfl (Nat.le_of_ble_eq_true rfl) rfl hC1 (fun v h2 hp => jG.weak (lv' := [some (.ref 1000), some (.ref 0), some (.ref 52), some (.int i)]) ⟨rfl, rfl, rfl, rfl, trivial⟩ (hK1 v h2 hp))

theorem q_law_538 {E : jEnv} {n : Nat} {L : Nat} {xs : Nat → Int32} {Post : Option Value → HP → Prop} (i : Int32) (s0 : Int32) (h : HP)
    (b0 : vp_in (i + 1) L)
    (b1 : vp_in (i + 2) L)
    (b2 : vp_in (i + 3) L)
    (k0 : jCall E mX8_canBe n [.ref 52, .int (xs (i + 1).toNatClampNeg), .int (xs (i + 2).toNatClampNeg), .int (xs (i + 3).toNatClampNeg)] h (fun v h2 => jG E mL_law (n + 1) (jX E L xs) Post 557 [some (.ref 1000), some (.ref 0), some (.ref 52), some (.int i)] (v.toList ++ [.int s0]) h2))
    : jG E mL_law (n + 1) (jX E L xs) Post 538 [some (.ref 1000), some (.ref 0), some (.ref 52), some (.int i)] [.int s0] h := by
  refine jr_aload_n (pc' := 539) (i := 2) dL_law_538 rfl rfl rfl ?_
  refine jr_aload_n (pc' := 540) (i := 0) dL_law_539 rfl rfl rfl ?_
  refine jr_iload_n (pc' := 541) (i := 3) dL_law_540 rfl rfl rfl ?_
  refine jr_iconst (pc' := 542) (v := 1) dL_law_541 rfl (by decide) ?_
  refine jr_iadd (pc' := 543)  dL_law_542 rfl  ?_
  refine jr_sld (pc' := 544) dL_law_543 rfl (b0) ?_
  refine jr_aload_n (pc' := 545) (i := 0) dL_law_544 rfl rfl rfl ?_
  refine jr_iload_n (pc' := 546) (i := 3) dL_law_545 rfl rfl rfl ?_
  refine jr_iconst (pc' := 547) (v := 2) dL_law_546 rfl (by decide) ?_
  refine jr_iadd (pc' := 548)  dL_law_547 rfl  ?_
  refine jr_sld (pc' := 549) dL_law_548 rfl (b1) ?_
  refine jr_aload_n (pc' := 550) (i := 0) dL_law_549 rfl rfl rfl ?_
  refine jr_iload_n (pc' := 551) (i := 3) dL_law_550 rfl rfl rfl ?_
  refine jr_iconst (pc' := 552) (v := 3) dL_law_551 rfl (by decide) ?_
  refine jr_iadd (pc' := 553)  dL_law_552 rfl  ?_
  refine jr_sld (pc' := 554) dL_law_553 rfl (b2) ?_
  obtain ⟨P1, hC1, hK1⟩ := k0
  exact jr_callV (pc' := 557) (k := 52) (av := [.int (xs (i + 1).toNatClampNeg), .int (xs (i + 2).toNatClampNeg), .int (xs (i + 3).toNatClampNeg)]) (st := [.int s0]) sX8_canBe wmL_68 dL_law_554 rfl (by decide) rfl (by decide) rfl rfl rfl (Nat.le_of_ble_eq_true rfl) rfl hC1 (fun v h2 hp => jG.weak (lv' := [some (.ref 1000), some (.ref 0), some (.ref 52), some (.int i)]) ⟨rfl, rfl, rfl, rfl, trivial⟩ (hK1 v h2 hp))

theorem q_law_576 {E : jEnv} {n : Nat} {L : Nat} {xs : Nat → Int32} {Post : Option Value → HP → Prop} (i : Int32) (s0 : Int32) (h : HP)
    (b0 : vp_in (i + 1) L)
    (b1 : vp_in (i + 2) L)
    (k0 : jCall E mX8_canHear n [.ref 52, .int (xs (i + 1).toNatClampNeg), .int (xs (i + 2).toNatClampNeg)] h (fun v h2 => jG E mL_law (n + 1) (jX E L xs) Post 590 [some (.ref 1000), some (.ref 0), some (.ref 52), some (.int i)] (v.toList ++ [.int s0]) h2))
    : jG E mL_law (n + 1) (jX E L xs) Post 576 [some (.ref 1000), some (.ref 0), some (.ref 52), some (.int i)] [.int s0] h := by
  refine jr_aload_n (pc' := 577) (i := 2) dL_law_576 rfl rfl rfl ?_
  refine jr_aload_n (pc' := 578) (i := 0) dL_law_577 rfl rfl rfl ?_
  refine jr_iload_n (pc' := 579) (i := 3) dL_law_578 rfl rfl rfl ?_
  refine jr_iconst (pc' := 580) (v := 1) dL_law_579 rfl (by decide) ?_
  refine jr_iadd (pc' := 581)  dL_law_580 rfl  ?_
  refine jr_sld (pc' := 582) dL_law_581 rfl (b0) ?_
  refine jr_aload_n (pc' := 583) (i := 0) dL_law_582 rfl rfl rfl ?_
  refine jr_iload_n (pc' := 584) (i := 3) dL_law_583 rfl rfl rfl ?_
  refine jr_iconst (pc' := 585) (v := 2) dL_law_584 rfl (by decide) ?_
  refine jr_iadd (pc' := 586)  dL_law_585 rfl  ?_
  refine jr_sld (pc' := 587) dL_law_586 rfl (b1) ?_
  obtain ⟨P1, hC1, hK1⟩ := k0
  exact jr_callV (pc' := 590) (k := 52) (av := [.int (xs (i + 1).toNatClampNeg), .int (xs (i + 2).toNatClampNeg)]) (st := [.int s0]) sX8_canHear wmL_72 dL_law_587 rfl (by decide) rfl (by decide) rfl rfl rfl (Nat.le_of_ble_eq_true rfl) rfl hC1 (fun v h2 hp => jG.weak (lv' := [some (.ref 1000), some (.ref 0), some (.ref 52), some (.int i)]) ⟨rfl, rfl, rfl, rfl, trivial⟩ (hK1 v h2 hp))

theorem q_law_609 {E : jEnv} {n : Nat} {L : Nat} {xs : Nat → Int32} {Post : Option Value → HP → Prop} (i : Int32) (s0 : Int32) (h : HP)
    (b0 : vp_in (i + 1) L)
    (b1 : vp_in (i + 2) L)
    (k0 : jCall E mX8_first n [.ref 52, .int (xs (i + 1).toNatClampNeg), .int (xs (i + 2).toNatClampNeg)] h (fun v h2 => jG E mL_law (n + 1) (jX E L xs) Post 623 [some (.ref 1000), some (.ref 0), some (.ref 52), some (.int i)] (v.toList ++ [.int s0]) h2))
    : jG E mL_law (n + 1) (jX E L xs) Post 609 [some (.ref 1000), some (.ref 0), some (.ref 52), some (.int i)] [.int s0] h := by
  refine jr_aload_n (pc' := 610) (i := 2) dL_law_609 rfl rfl rfl ?_
  refine jr_aload_n (pc' := 611) (i := 0) dL_law_610 rfl rfl rfl ?_
  refine jr_iload_n (pc' := 612) (i := 3) dL_law_611 rfl rfl rfl ?_
  refine jr_iconst (pc' := 613) (v := 1) dL_law_612 rfl (by decide) ?_
  refine jr_iadd (pc' := 614)  dL_law_613 rfl  ?_
  refine jr_sld (pc' := 615) dL_law_614 rfl (b0) ?_
  refine jr_aload_n (pc' := 616) (i := 0) dL_law_615 rfl rfl rfl ?_
  refine jr_iload_n (pc' := 617) (i := 3) dL_law_616 rfl rfl rfl ?_
  refine jr_iconst (pc' := 618) (v := 2) dL_law_617 rfl (by decide) ?_
  refine jr_iadd (pc' := 619)  dL_law_618 rfl  ?_
  refine jr_sld (pc' := 620) dL_law_619 rfl (b1) ?_
  obtain ⟨P1, hC1, hK1⟩ := k0
  exact jr_callV (pc' := 623) (k := 52) (av := [.int (xs (i + 1).toNatClampNeg), .int (xs (i + 2).toNatClampNeg)]) (st := [.int s0]) sX8_first wmL_76 dL_law_620 rfl (by decide) rfl (by decide) rfl rfl rfl (Nat.le_of_ble_eq_true rfl) rfl hC1 (fun v h2 hp => jG.weak (lv' := [some (.ref 1000), some (.ref 0), some (.ref 52), some (.int i)]) ⟨rfl, rfl, rfl, rfl, trivial⟩ (hK1 v h2 hp))

theorem q_law_647 {E : jEnv} {n : Nat} {L : Nat} {xs : Nat → Int32} {Post : Option Value → HP → Prop} (i : Int32) (s0 : Int32) (h : HP)
    (b0 : vp_in (i + 1) L)
    (b1 : vp_in (i + 2) L)
    (b2 : vp_in (i + 3) L)
    (k0 : jCall E mX8_sawed n [.ref 52, .int (xs (i + 1).toNatClampNeg), .int (xs (i + 2).toNatClampNeg), .int (xs (i + 3).toNatClampNeg)] h (fun v h2 => jG E mL_law (n + 1) (jX E L xs) Post 666 [some (.ref 1000), some (.ref 0), some (.ref 52), some (.int i)] (v.toList ++ [.int s0]) h2))
    : jG E mL_law (n + 1) (jX E L xs) Post 647 [some (.ref 1000), some (.ref 0), some (.ref 52), some (.int i)] [.int s0] h := by
  refine jr_aload_n (pc' := 648) (i := 2) dL_law_647 rfl rfl rfl ?_
  refine jr_aload_n (pc' := 649) (i := 0) dL_law_648 rfl rfl rfl ?_
  refine jr_iload_n (pc' := 650) (i := 3) dL_law_649 rfl rfl rfl ?_
  refine jr_iconst (pc' := 651) (v := 1) dL_law_650 rfl (by decide) ?_
  refine jr_iadd (pc' := 652)  dL_law_651 rfl  ?_
  refine jr_sld (pc' := 653) dL_law_652 rfl (b0) ?_
  refine jr_aload_n (pc' := 654) (i := 0) dL_law_653 rfl rfl rfl ?_
  refine jr_iload_n (pc' := 655) (i := 3) dL_law_654 rfl rfl rfl ?_
  refine jr_iconst (pc' := 656) (v := 2) dL_law_655 rfl (by decide) ?_
  refine jr_iadd (pc' := 657)  dL_law_656 rfl  ?_
  refine jr_sld (pc' := 658) dL_law_657 rfl (b1) ?_
  refine jr_aload_n (pc' := 659) (i := 0) dL_law_658 rfl rfl rfl ?_
  refine jr_iload_n (pc' := 660) (i := 3) dL_law_659 rfl rfl rfl ?_
  refine jr_iconst (pc' := 661) (v := 3) dL_law_660 rfl (by decide) ?_
  refine jr_iadd (pc' := 662)  dL_law_661 rfl  ?_
  refine jr_sld (pc' := 663) dL_law_662 rfl (b2) ?_
  obtain ⟨P1, hC1, hK1⟩ := k0
  exact jr_callV (pc' := 666) (k := 52) (av := [.int (xs (i + 1).toNatClampNeg), .int (xs (i + 2).toNatClampNeg), .int (xs (i + 3).toNatClampNeg)]) (st := [.int s0]) sX8_sawed wmL_80 dL_law_663 rfl (by decide) rfl (by decide) rfl rfl rfl (Nat.le_of_ble_eq_true rfl) rfl hC1 (fun v h2 hp => jG.weak (lv' := [some (.ref 1000), some (.ref 0), some (.ref 52), some (.int i)]) ⟨rfl, rfl, rfl, rfl, trivial⟩ (hK1 v h2 hp))

theorem q_law_685 {E : jEnv} {n : Nat} {L : Nat} {xs : Nat → Int32} {Post : Option Value → HP → Prop} (i : Int32) (s0 : Int32) (h : HP)
    (b0 : vp_in (i + 1) L)
    (b1 : vp_in (i + 2) L)
    (k0 : jCall E mX8_bestStake n [.ref 52, .int (xs (i + 1).toNatClampNeg), .int (xs (i + 2).toNatClampNeg)] h (fun v h2 => jG E mL_law (n + 1) (jX E L xs) Post 699 [some (.ref 1000), some (.ref 0), some (.ref 52), some (.int i)] (v.toList ++ [.int s0]) h2))
    : jG E mL_law (n + 1) (jX E L xs) Post 685 [some (.ref 1000), some (.ref 0), some (.ref 52), some (.int i)] [.int s0] h := by
  refine jr_aload_n (pc' := 686) (i := 2) dL_law_685 rfl rfl rfl ?_
  refine jr_aload_n (pc' := 687) (i := 0) dL_law_686 rfl rfl rfl ?_
  refine jr_iload_n (pc' := 688) (i := 3) dL_law_687 rfl rfl rfl ?_
  refine jr_iconst (pc' := 689) (v := 1) dL_law_688 rfl (by decide) ?_
  refine jr_iadd (pc' := 690)  dL_law_689 rfl  ?_
  refine jr_sld (pc' := 691) dL_law_690 rfl (b0) ?_
  refine jr_aload_n (pc' := 692) (i := 0) dL_law_691 rfl rfl rfl ?_
  refine jr_iload_n (pc' := 693) (i := 3) dL_law_692 rfl rfl rfl ?_
  refine jr_iconst (pc' := 694) (v := 2) dL_law_693 rfl (by decide) ?_
  refine jr_iadd (pc' := 695)  dL_law_694 rfl  ?_
  refine jr_sld (pc' := 696) dL_law_695 rfl (b1) ?_
  obtain ⟨P1, hC1, hK1⟩ := k0
  exact jr_callV (pc' := 699) (k := 52) (av := [.int (xs (i + 1).toNatClampNeg), .int (xs (i + 2).toNatClampNeg)]) (st := [.int s0]) sX8_bestStake wmL_84 dL_law_696 rfl (by decide) rfl (by decide) rfl rfl rfl (Nat.le_of_ble_eq_true rfl) rfl hC1 (fun v h2 hp => jG.weak (lv' := [some (.ref 1000), some (.ref 0), some (.ref 52), some (.int i)]) ⟨rfl, rfl, rfl, rfl, trivial⟩ (hK1 v h2 hp))

theorem q_law_718 {E : jEnv} {n : Nat} {L : Nat} {xs : Nat → Int32} {Post : Option Value → HP → Prop} (i : Int32) (s0 : Int32) (h : HP)
    (b0 : vp_in (i + 1) L)
    (b1 : vp_in (i + 2) L)
    (k0 : jCall E mX8_inch n [.ref 52, .int (xs (i + 1).toNatClampNeg), .int (xs (i + 2).toNatClampNeg)] h (fun v h2 => jG E mL_law (n + 1) (jX E L xs) Post 732 [some (.ref 1000), some (.ref 0), some (.ref 52), some (.int i)] (v.toList ++ [.int s0]) h2))
    : jG E mL_law (n + 1) (jX E L xs) Post 718 [some (.ref 1000), some (.ref 0), some (.ref 52), some (.int i)] [.int s0] h := by
  refine jr_aload_n (pc' := 719) (i := 2) dL_law_718 rfl rfl rfl ?_
  refine jr_aload_n (pc' := 720) (i := 0) dL_law_719 rfl rfl rfl ?_
  refine jr_iload_n (pc' := 721) (i := 3) dL_law_720 rfl rfl rfl ?_
  refine jr_iconst (pc' := 722) (v := 1) dL_law_721 rfl (by decide) ?_
  refine jr_iadd (pc' := 723)  dL_law_722 rfl  ?_
  refine jr_sld (pc' := 724) dL_law_723 rfl (b0) ?_
  refine jr_aload_n (pc' := 725) (i := 0) dL_law_724 rfl rfl rfl ?_
  refine jr_iload_n (pc' := 726) (i := 3) dL_law_725 rfl rfl rfl ?_
  refine jr_iconst (pc' := 727) (v := 2) dL_law_726 rfl (by decide) ?_
  refine jr_iadd (pc' := 728)  dL_law_727 rfl  ?_
  refine jr_sld (pc' := 729) dL_law_728 rfl (b1) ?_
  obtain ⟨P1, hC1, hK1⟩ := k0
  exact jr_callV (pc' := 732) (k := 52) (av := [.int (xs (i + 1).toNatClampNeg), .int (xs (i + 2).toNatClampNeg)]) (st := [.int s0]) sX8_inch wmL_88 dL_law_729 rfl (by decide) rfl (by decide) rfl rfl rfl (Nat.le_of_ble_eq_true rfl) rfl hC1 (fun v h2 hp => jG.weak (lv' := [some (.ref 1000), some (.ref 0), some (.ref 52), some (.int i)]) ⟨rfl, rfl, rfl, rfl, trivial⟩ (hK1 v h2 hp))

theorem q_law_746 {E : jEnv} {n : Nat} {L : Nat} {xs : Nat → Int32} {Post : Option Value → HP → Prop} (i : Int32) (s0 : Int32) (h : HP)
    (b0 : vp_in (i + 1) L)
    (k0 : jCall E mX8_nobody n [.ref 52, .int (xs (i + 1).toNatClampNeg)] h (fun v h2 => jG E mL_law (n + 1) (jX E L xs) Post 755 [some (.ref 1000), some (.ref 0), some (.ref 52), some (.int i)] (v.toList ++ [.int s0]) h2))
    : jG E mL_law (n + 1) (jX E L xs) Post 746 [some (.ref 1000), some (.ref 0), some (.ref 52), some (.int i)] [.int s0] h := by
  refine jr_aload_n (pc' := 747) (i := 2) dL_law_746 rfl rfl rfl ?_
  refine jr_aload_n (pc' := 748) (i := 0) dL_law_747 rfl rfl rfl ?_
  refine jr_iload_n (pc' := 749) (i := 3) dL_law_748 rfl rfl rfl ?_
  refine jr_iconst (pc' := 750) (v := 1) dL_law_749 rfl (by decide) ?_
  refine jr_iadd (pc' := 751)  dL_law_750 rfl  ?_
  refine jr_sld (pc' := 752) dL_law_751 rfl (b0) ?_
  obtain ⟨P1, hC1, hK1⟩ := k0
  exact jr_callV (pc' := 755) (k := 52) (av := [.int (xs (i + 1).toNatClampNeg)]) (st := [.int s0]) sX8_nobody wmL_92 dL_law_752 rfl (by decide) rfl (by decide) rfl rfl rfl (Nat.le_of_ble_eq_true rfl) rfl hC1 (fun v h2 hp => jG.weak (lv' := [some (.ref 1000), some (.ref 0), some (.ref 52), some (.int i)]) ⟨rfl, rfl, rfl, rfl, trivial⟩ (hK1 v h2 hp))

theorem q_law_769 {E : jEnv} {n : Nat} {L : Nat} {xs : Nat → Int32} {Post : Option Value → HP → Prop} (i : Int32) (s0 : Int32) (h : HP)
    (b0 : vp_in (i + 1) L)
    (k0 : jCall E mX8_alone n [.ref 52, .int (xs (i + 1).toNatClampNeg)] h (fun v h2 => jG E mL_law (n + 1) (jX E L xs) Post 778 [some (.ref 1000), some (.ref 0), some (.ref 52), some (.int i)] (v.toList ++ [.int s0]) h2))
    : jG E mL_law (n + 1) (jX E L xs) Post 769 [some (.ref 1000), some (.ref 0), some (.ref 52), some (.int i)] [.int s0] h := by
  refine jr_aload_n (pc' := 770) (i := 2) dL_law_769 rfl rfl rfl ?_
  refine jr_aload_n (pc' := 771) (i := 0) dL_law_770 rfl rfl rfl ?_
  refine jr_iload_n (pc' := 772) (i := 3) dL_law_771 rfl rfl rfl ?_
  refine jr_iconst (pc' := 773) (v := 1) dL_law_772 rfl (by decide) ?_
  refine jr_iadd (pc' := 774)  dL_law_773 rfl  ?_
  refine jr_sld (pc' := 775) dL_law_774 rfl (b0) ?_
  obtain ⟨P1, hC1, hK1⟩ := k0
  exact jr_callV (pc' := 778) (k := 52) (av := [.int (xs (i + 1).toNatClampNeg)]) (st := [.int s0]) sX8_alone wmL_96 dL_law_775 rfl (by decide) rfl (by decide) rfl rfl rfl (Nat.le_of_ble_eq_true rfl) rfl hC1 (fun v h2 hp => jG.weak (lv' := [some (.ref 1000), some (.ref 0), some (.ref 52), some (.int i)]) ⟨rfl, rfl, rfl, rfl, trivial⟩ (hK1 v h2 hp))

theorem q_law_797 {E : jEnv} {n : Nat} {L : Nat} {xs : Nat → Int32} {Post : Option Value → HP → Prop} (i : Int32) (s0 : Int32) (h : HP)
    (b0 : vp_in (i + 1) L)
    (b1 : vp_in (i + 2) L)
    (k0 : jCall E mX8_track n [.ref 52, .int (xs (i + 1).toNatClampNeg), .int (xs (i + 2).toNatClampNeg)] h (fun v h2 => jG E mL_law (n + 1) (jX E L xs) Post 811 [some (.ref 1000), some (.ref 0), some (.ref 52), some (.int i)] (v.toList ++ [.int s0]) h2))
    : jG E mL_law (n + 1) (jX E L xs) Post 797 [some (.ref 1000), some (.ref 0), some (.ref 52), some (.int i)] [.int s0] h := by
  refine jr_aload_n (pc' := 798) (i := 2) dL_law_797 rfl rfl rfl ?_
  refine jr_aload_n (pc' := 799) (i := 0) dL_law_798 rfl rfl rfl ?_
  refine jr_iload_n (pc' := 800) (i := 3) dL_law_799 rfl rfl rfl ?_
  refine jr_iconst (pc' := 801) (v := 1) dL_law_800 rfl (by decide) ?_
  refine jr_iadd (pc' := 802)  dL_law_801 rfl  ?_
  refine jr_sld (pc' := 803) dL_law_802 rfl (b0) ?_
  refine jr_aload_n (pc' := 804) (i := 0) dL_law_803 rfl rfl rfl ?_
  refine jr_iload_n (pc' := 805) (i := 3) dL_law_804 rfl rfl rfl ?_
  refine jr_iconst (pc' := 806) (v := 2) dL_law_805 rfl (by decide) ?_
  refine jr_iadd (pc' := 807)  dL_law_806 rfl  ?_
  refine jr_sld (pc' := 808) dL_law_807 rfl (b1) ?_
  obtain ⟨P1, hC1, hK1⟩ := k0
  exact jr_callV (pc' := 811) (k := 52) (av := [.int (xs (i + 1).toNatClampNeg), .int (xs (i + 2).toNatClampNeg)]) (st := [.int s0]) sX8_track wmL_100 dL_law_808 rfl (by decide) rfl (by decide) rfl rfl rfl (Nat.le_of_ble_eq_true rfl) rfl hC1 (fun v h2 hp => jG.weak (lv' := [some (.ref 1000), some (.ref 0), some (.ref 52), some (.int i)]) ⟨rfl, rfl, rfl, rfl, trivial⟩ (hK1 v h2 hp))

theorem q_law_835 {E : jEnv} {n : Nat} {L : Nat} {xs : Nat → Int32} {Post : Option Value → HP → Prop} (i : Int32) (s0 : Int32) (h : HP)
    (b0 : vp_in (i + 1) L)
    (b1 : vp_in (i + 2) L)
    (b2 : vp_in (i + 3) L)
    (k0 : jCall E mX8_see n [.ref 52, .int (xs (i + 1).toNatClampNeg), .int (xs (i + 2).toNatClampNeg), .int (xs (i + 3).toNatClampNeg)] h (fun v h2 => jG E mL_law (n + 1) (jX E L xs) Post 854 [some (.ref 1000), some (.ref 0), some (.ref 52), some (.int i)] (v.toList ++ [.int s0]) h2))
    : jG E mL_law (n + 1) (jX E L xs) Post 835 [some (.ref 1000), some (.ref 0), some (.ref 52), some (.int i)] [.int s0] h := by
  refine jr_aload_n (pc' := 836) (i := 2) dL_law_835 rfl rfl rfl ?_
  refine jr_aload_n (pc' := 837) (i := 0) dL_law_836 rfl rfl rfl ?_
  refine jr_iload_n (pc' := 838) (i := 3) dL_law_837 rfl rfl rfl ?_
  refine jr_iconst (pc' := 839) (v := 1) dL_law_838 rfl (by decide) ?_
  refine jr_iadd (pc' := 840)  dL_law_839 rfl  ?_
  refine jr_sld (pc' := 841) dL_law_840 rfl (b0) ?_
  refine jr_aload_n (pc' := 842) (i := 0) dL_law_841 rfl rfl rfl ?_
  refine jr_iload_n (pc' := 843) (i := 3) dL_law_842 rfl rfl rfl ?_
  refine jr_iconst (pc' := 844) (v := 2) dL_law_843 rfl (by decide) ?_
  refine jr_iadd (pc' := 845)  dL_law_844 rfl  ?_
  refine jr_sld (pc' := 846) dL_law_845 rfl (b1) ?_
  refine jr_aload_n (pc' := 847) (i := 0) dL_law_846 rfl rfl rfl ?_
  refine jr_iload_n (pc' := 848) (i := 3) dL_law_847 rfl rfl rfl ?_
  refine jr_iconst (pc' := 849) (v := 3) dL_law_848 rfl (by decide) ?_
  refine jr_iadd (pc' := 850)  dL_law_849 rfl  ?_
  refine jr_sld (pc' := 851) dL_law_850 rfl (b2) ?_
  obtain ⟨P1, hC1, hK1⟩ := k0
  exact jr_callV (pc' := 854) (k := 52) (av := [.int (xs (i + 1).toNatClampNeg), .int (xs (i + 2).toNatClampNeg), .int (xs (i + 3).toNatClampNeg)]) (st := [.int s0]) sX8_see wmL_104 dL_law_851 rfl (by decide) rfl (by decide) rfl rfl rfl (Nat.le_of_ble_eq_true rfl) rfl hC1 (fun v h2 hp => jG.weak (lv' := [some (.ref 1000), some (.ref 0), some (.ref 52), some (.int i)]) ⟨rfl, rfl, rfl, rfl, trivial⟩ (hK1 v h2 hp))

theorem q_law_863 {E : jEnv} {n : Nat} {L : Nat} {xs : Nat → Int32} {Post : Option Value → HP → Prop} (i : Int32) (s0 : Int32) (h : HP)
    (k0 : jCall E mX8_fits n [.ref 52] h (fun v h2 => jG E mL_law (n + 1) (jX E L xs) Post 867 [some (.ref 1000), some (.ref 0), some (.ref 52), some (.int i)] (v.toList ++ [.int s0]) h2))
    : jG E mL_law (n + 1) (jX E L xs) Post 863 [some (.ref 1000), some (.ref 0), some (.ref 52), some (.int i)] [.int s0] h := by
  refine jr_aload_n (pc' := 864) (i := 2) dL_law_863 rfl rfl rfl ?_
  obtain ⟨P1, hC1, hK1⟩ := k0
  exact jr_callV (pc' := 867) (k := 52) (av := []) (st := [.int s0]) sX8_fits wmL_108 dL_law_864 rfl (by decide) rfl (by decide) rfl rfl rfl (Nat.le_of_ble_eq_true rfl) rfl hC1 (fun v h2 hp => jG.weak (lv' := [some (.ref 1000), some (.ref 0), some (.ref 52), some (.int i)]) ⟨rfl, rfl, rfl, rfl, trivial⟩ (hK1 v h2 hp))

theorem q_law_886 {E : jEnv} {n : Nat} {L : Nat} {xs : Nat → Int32} {Post : Option Value → HP → Prop} (i : Int32) (s0 : Int32) (h : HP)
    (b0 : vp_in (i + 1) L)
    (b1 : vp_in (i + 2) L)
    (k0 : jCall E mX8_write n [.ref 52, .int (xs (i + 1).toNatClampNeg), .int (xs (i + 2).toNatClampNeg)] h (fun v h2 => jG E mL_law (n + 1) (jX E L xs) Post 900 [some (.ref 1000), some (.ref 0), some (.ref 52), some (.int i)] (v.toList ++ [.int s0]) h2))
    : jG E mL_law (n + 1) (jX E L xs) Post 886 [some (.ref 1000), some (.ref 0), some (.ref 52), some (.int i)] [.int s0] h := by
  refine jr_aload_n (pc' := 887) (i := 2) dL_law_886 rfl rfl rfl ?_
  refine jr_aload_n (pc' := 888) (i := 0) dL_law_887 rfl rfl rfl ?_
  refine jr_iload_n (pc' := 889) (i := 3) dL_law_888 rfl rfl rfl ?_
  refine jr_iconst (pc' := 890) (v := 1) dL_law_889 rfl (by decide) ?_
  refine jr_iadd (pc' := 891)  dL_law_890 rfl  ?_
  refine jr_sld (pc' := 892) dL_law_891 rfl (b0) ?_
  refine jr_aload_n (pc' := 893) (i := 0) dL_law_892 rfl rfl rfl ?_
  refine jr_iload_n (pc' := 894) (i := 3) dL_law_893 rfl rfl rfl ?_
  refine jr_iconst (pc' := 895) (v := 2) dL_law_894 rfl (by decide) ?_
  refine jr_iadd (pc' := 896)  dL_law_895 rfl  ?_
  refine jr_sld (pc' := 897) dL_law_896 rfl (b1) ?_
  obtain ⟨P1, hC1, hK1⟩ := k0
  exact jr_callV (pc' := 900) (k := 52) (av := [.int (xs (i + 1).toNatClampNeg), .int (xs (i + 2).toNatClampNeg)]) (st := [.int s0]) sX8_write wmL_112 dL_law_897 rfl (by decide) rfl (by decide) rfl rfl rfl (Nat.le_of_ble_eq_true rfl) rfl hC1 (fun v h2 hp => jG.weak (lv' := [some (.ref 1000), some (.ref 0), some (.ref 52), some (.int i)]) ⟨rfl, rfl, rfl, rfl, trivial⟩ (hK1 v h2 hp))

theorem q_law_909 {E : jEnv} {n : Nat} {L : Nat} {xs : Nat → Int32} {Post : Option Value → HP → Prop} (i : Int32) (s0 : Int32) (h : HP)
    (k0 : jCall E mX8_tear n [.ref 52] h (fun v h2 => jG E mL_law (n + 1) (jX E L xs) Post 913 [some (.ref 1000), some (.ref 0), some (.ref 52), some (.int i)] (v.toList ++ [.int s0]) h2))
    : jG E mL_law (n + 1) (jX E L xs) Post 909 [some (.ref 1000), some (.ref 0), some (.ref 52), some (.int i)] [.int s0] h := by
  refine jr_aload_n (pc' := 910) (i := 2) dL_law_909 rfl rfl rfl ?_
  obtain ⟨P1, hC1, hK1⟩ := k0
  exact jr_callV (pc' := 913) (k := 52) (av := []) (st := [.int s0]) sX8_tear wmL_116 dL_law_910 rfl (by decide) rfl (by decide) rfl rfl rfl (Nat.le_of_ble_eq_true rfl) rfl hC1 (fun v h2 hp => jG.weak (lv' := [some (.ref 1000), some (.ref 0), some (.ref 52), some (.int i)]) ⟨rfl, rfl, rfl, rfl, trivial⟩ (hK1 v h2 hp))

theorem q_law_922 {E : jEnv} {n : Nat} {L : Nat} {xs : Nat → Int32} {Post : Option Value → HP → Prop} (i : Int32) (s0 : Int32) (h : HP)
    (k0 : jCall E mX8_judge n [.ref 52] h (fun v h2 => jG E mL_law (n + 1) (jX E L xs) Post 926 [some (.ref 1000), some (.ref 0), some (.ref 52), some (.int i)] (v.toList ++ [.int s0]) h2))
    : jG E mL_law (n + 1) (jX E L xs) Post 922 [some (.ref 1000), some (.ref 0), some (.ref 52), some (.int i)] [.int s0] h := by
  refine jr_aload_n (pc' := 923) (i := 2) dL_law_922 rfl rfl rfl ?_
  obtain ⟨P1, hC1, hK1⟩ := k0
  exact jr_callV (pc' := 926) (k := 52) (av := []) (st := [.int s0]) sX8_judge wmL_120 dL_law_923 rfl (by decide) rfl (by decide) rfl rfl rfl (Nat.le_of_ble_eq_true rfl) rfl hC1 (fun v h2 hp => jG.weak (lv' := [some (.ref 1000), some (.ref 0), some (.ref 52), some (.int i)]) ⟨rfl, rfl, rfl, rfl, trivial⟩ (hK1 v h2 hp))

theorem q_law_940 {E : jEnv} {n : Nat} {L : Nat} {xs : Nat → Int32} {Post : Option Value → HP → Prop} (i : Int32) (s0 : Int32) (h : HP)
    (b0 : vp_in (i + 1) L)
    (k0 : jCall E mX8_seed n [.ref 52, .int (xs (i + 1).toNatClampNeg)] h (fun v h2 => jG E mL_law (n + 1) (jX E L xs) Post 949 [some (.ref 1000), some (.ref 0), some (.ref 52), some (.int i)] (v.toList ++ [.int s0]) h2))
    : jG E mL_law (n + 1) (jX E L xs) Post 940 [some (.ref 1000), some (.ref 0), some (.ref 52), some (.int i)] [.int s0] h := by
  refine jr_aload_n (pc' := 941) (i := 2) dL_law_940 rfl rfl rfl ?_
  refine jr_aload_n (pc' := 942) (i := 0) dL_law_941 rfl rfl rfl ?_
  refine jr_iload_n (pc' := 943) (i := 3) dL_law_942 rfl rfl rfl ?_
  refine jr_iconst (pc' := 944) (v := 1) dL_law_943 rfl (by decide) ?_
  refine jr_iadd (pc' := 945)  dL_law_944 rfl  ?_
  refine jr_sld (pc' := 946) dL_law_945 rfl (b0) ?_
  obtain ⟨P1, hC1, hK1⟩ := k0
  exact jr_callV (pc' := 949) (k := 52) (av := [.int (xs (i + 1).toNatClampNeg)]) (st := [.int s0]) sX8_seed wmL_124 dL_law_946 rfl (by decide) rfl (by decide) rfl rfl rfl (Nat.le_of_ble_eq_true rfl) rfl hC1 (fun v h2 hp => jG.weak (lv' := [some (.ref 1000), some (.ref 0), some (.ref 52), some (.int i)]) ⟨rfl, rfl, rfl, rfl, trivial⟩ (hK1 v h2 hp))

theorem q_law_963 {E : jEnv} {n : Nat} {L : Nat} {xs : Nat → Int32} {Post : Option Value → HP → Prop} (i : Int32) (s0 : Int32) (h : HP)
    (b0 : vp_in (i + 1) L)
    (k0 : jCall E mX8_keep n [.ref 52, .int (xs (i + 1).toNatClampNeg)] h (fun v h2 => jG E mL_law (n + 1) (jX E L xs) Post 972 [some (.ref 1000), some (.ref 0), some (.ref 52), some (.int i)] (v.toList ++ [.int s0]) h2))
    : jG E mL_law (n + 1) (jX E L xs) Post 963 [some (.ref 1000), some (.ref 0), some (.ref 52), some (.int i)] [.int s0] h := by
  refine jr_aload_n (pc' := 964) (i := 2) dL_law_963 rfl rfl rfl ?_
  refine jr_aload_n (pc' := 965) (i := 0) dL_law_964 rfl rfl rfl ?_
  refine jr_iload_n (pc' := 966) (i := 3) dL_law_965 rfl rfl rfl ?_
  refine jr_iconst (pc' := 967) (v := 1) dL_law_966 rfl (by decide) ?_
  refine jr_iadd (pc' := 968)  dL_law_967 rfl  ?_
  refine jr_sld (pc' := 969) dL_law_968 rfl (b0) ?_
  obtain ⟨P1, hC1, hK1⟩ := k0
  exact jr_callV (pc' := 972) (k := 52) (av := [.int (xs (i + 1).toNatClampNeg)]) (st := [.int s0]) sX8_keep wmL_128 dL_law_969 rfl (by decide) rfl (by decide) rfl rfl rfl (Nat.le_of_ble_eq_true rfl) rfl hC1 (fun v h2 hp => jG.weak (lv' := [some (.ref 1000), some (.ref 0), some (.ref 52), some (.int i)]) ⟨rfl, rfl, rfl, rfl, trivial⟩ (hK1 v h2 hp))

theorem q_law_986 {E : jEnv} {n : Nat} {L : Nat} {xs : Nat → Int32} {Post : Option Value → HP → Prop} (i : Int32) (s0 : Int32) (h : HP)
    (b0 : vp_in (i + 1) L)
    (k0 : jCall E mX8_goBack n [.ref 52, .int (xs (i + 1).toNatClampNeg)] h (fun v h2 => jG E mL_law (n + 1) (jX E L xs) Post 995 [some (.ref 1000), some (.ref 0), some (.ref 52), some (.int i)] (v.toList ++ [.int s0]) h2))
    : jG E mL_law (n + 1) (jX E L xs) Post 986 [some (.ref 1000), some (.ref 0), some (.ref 52), some (.int i)] [.int s0] h := by
  refine jr_aload_n (pc' := 987) (i := 2) dL_law_986 rfl rfl rfl ?_
  refine jr_aload_n (pc' := 988) (i := 0) dL_law_987 rfl rfl rfl ?_
  refine jr_iload_n (pc' := 989) (i := 3) dL_law_988 rfl rfl rfl ?_
  refine jr_iconst (pc' := 990) (v := 1) dL_law_989 rfl (by decide) ?_
  refine jr_iadd (pc' := 991)  dL_law_990 rfl  ?_
  refine jr_sld (pc' := 992) dL_law_991 rfl (b0) ?_
  obtain ⟨P1, hC1, hK1⟩ := k0
  exact jr_callV (pc' := 995) (k := 52) (av := [.int (xs (i + 1).toNatClampNeg)]) (st := [.int s0]) sX8_goBack wmL_132 dL_law_992 rfl (by decide) rfl (by decide) rfl rfl rfl (Nat.le_of_ble_eq_true rfl) rfl hC1 (fun v h2 hp => jG.weak (lv' := [some (.ref 1000), some (.ref 0), some (.ref 52), some (.int i)]) ⟨rfl, rfl, rfl, rfl, trivial⟩ (hK1 v h2 hp))

theorem q_law_218 {E : jEnv} {n : Nat} {L : Nat} {xs : Nat → Int32} {Post : Option Value → HP → Prop} (i : Int32) (s0 : Int32) (s1 : Int32) (h : HP)
    (k0 : (s1 = s0) → jG E mL_law (n + 1) (jX E L xs) Post 18 [some (.ref 1000), some (.ref 0), some (.ref 52), some (.int (i + 4))] [] h)
    (k1 : (¬ s1 = s0) → Post (some (.int 0)) h)
    : jG E mL_law (n + 1) (jX E L xs) Post 218 [some (.ref 1000), some (.ref 0), some (.ref 52), some (.int i)] [.int s0, .int s1] h := by
  by_cases c1 : s1 = s0
  · refine jr_icmp_eqT (pc' := 1000) dL_law_218 rfl c1 ?_
    refine jr_iinc (pc' := 1003) (i := 3) (v := (i + 4)) (lv' := [some (.ref 1000), some (.ref 0), some (.ref 52), some (.int (i + 4))]) dL_law_1000 rfl rfl (congrArg (i + ·) (by decide)) (by decide) rfl ?_
    refine jr_goto (pc' := 18) dL_law_1003 rfl ?_
    exact jG.weak (lv' := [some (.ref 1000), some (.ref 0), some (.ref 52), some (.int (i + 4))]) ⟨rfl, rfl, rfl, rfl, trivial⟩ (k0 c1)
  · refine jr_icmp_eqF (pc' := 221) (tgt := 1000) dL_law_218 rfl rfl c1 ?_
    refine jr_iconst (pc' := 222) (v := 0) dL_law_221 rfl (by decide) ?_
    exact jr_iret dL_law_222 rfl rfl (k1 c1)

theorem q_law_231 {E : jEnv} {n : Nat} {L : Nat} {xs : Nat → Int32} {Post : Option Value → HP → Prop} (i : Int32) (s0 : Int32) (s1 : Int32) (h : HP)
    (k0 : (s1 = s0) → jG E mL_law (n + 1) (jX E L xs) Post 18 [some (.ref 1000), some (.ref 0), some (.ref 52), some (.int (i + 4))] [] h)
    (k1 : (¬ s1 = s0) → Post (some (.int 0)) h)
    : jG E mL_law (n + 1) (jX E L xs) Post 231 [some (.ref 1000), some (.ref 0), some (.ref 52), some (.int i)] [.int s0, .int s1] h := by
  by_cases c1 : s1 = s0
  · refine jr_icmp_eqT (pc' := 1000) dL_law_231 rfl c1 ?_
    refine jr_iinc (pc' := 1003) (i := 3) (v := (i + 4)) (lv' := [some (.ref 1000), some (.ref 0), some (.ref 52), some (.int (i + 4))]) dL_law_1000 rfl rfl (congrArg (i + ·) (by decide)) (by decide) rfl ?_
    refine jr_goto (pc' := 18) dL_law_1003 rfl ?_
    exact jG.weak (lv' := [some (.ref 1000), some (.ref 0), some (.ref 52), some (.int (i + 4))]) ⟨rfl, rfl, rfl, rfl, trivial⟩ (k0 c1)
  · refine jr_icmp_eqF (pc' := 234) (tgt := 1000) dL_law_231 rfl rfl c1 ?_
    refine jr_iconst (pc' := 235) (v := 0) dL_law_234 rfl (by decide) ?_
    exact jr_iret dL_law_235 rfl rfl (k1 c1)

theorem q_law_244 {E : jEnv} {n : Nat} {L : Nat} {xs : Nat → Int32} {Post : Option Value → HP → Prop} (i : Int32) (s0 : Int32) (s1 : Int32) (h : HP)
    (k0 : (s1 = s0) → jG E mL_law (n + 1) (jX E L xs) Post 18 [some (.ref 1000), some (.ref 0), some (.ref 52), some (.int (i + 4))] [] h)
    (k1 : (¬ s1 = s0) → Post (some (.int 0)) h)
    : jG E mL_law (n + 1) (jX E L xs) Post 244 [some (.ref 1000), some (.ref 0), some (.ref 52), some (.int i)] [.int s0, .int s1] h := by
  by_cases c1 : s1 = s0
  · refine jr_icmp_eqT (pc' := 1000) dL_law_244 rfl c1 ?_
    refine jr_iinc (pc' := 1003) (i := 3) (v := (i + 4)) (lv' := [some (.ref 1000), some (.ref 0), some (.ref 52), some (.int (i + 4))]) dL_law_1000 rfl rfl (congrArg (i + ·) (by decide)) (by decide) rfl ?_
    refine jr_goto (pc' := 18) dL_law_1003 rfl ?_
    exact jG.weak (lv' := [some (.ref 1000), some (.ref 0), some (.ref 52), some (.int (i + 4))]) ⟨rfl, rfl, rfl, rfl, trivial⟩ (k0 c1)
  · refine jr_icmp_eqF (pc' := 247) (tgt := 1000) dL_law_244 rfl rfl c1 ?_
    refine jr_iconst (pc' := 248) (v := 0) dL_law_247 rfl (by decide) ?_
    exact jr_iret dL_law_248 rfl rfl (k1 c1)

theorem q_law_267 {E : jEnv} {n : Nat} {L : Nat} {xs : Nat → Int32} {Post : Option Value → HP → Prop} (i : Int32) (s0 : Int32) (s1 : Int32) (h : HP)
    (k0 : (s1 = s0) → jG E mL_law (n + 1) (jX E L xs) Post 18 [some (.ref 1000), some (.ref 0), some (.ref 52), some (.int (i + 4))] [] h)
    (k1 : (¬ s1 = s0) → Post (some (.int 0)) h)
    : jG E mL_law (n + 1) (jX E L xs) Post 267 [some (.ref 1000), some (.ref 0), some (.ref 52), some (.int i)] [.int s0, .int s1] h := by
  by_cases c1 : s1 = s0
  · refine jr_icmp_eqT (pc' := 1000) dL_law_267 rfl c1 ?_
    refine jr_iinc (pc' := 1003) (i := 3) (v := (i + 4)) (lv' := [some (.ref 1000), some (.ref 0), some (.ref 52), some (.int (i + 4))]) dL_law_1000 rfl rfl (congrArg (i + ·) (by decide)) (by decide) rfl ?_
    refine jr_goto (pc' := 18) dL_law_1003 rfl ?_
    exact jG.weak (lv' := [some (.ref 1000), some (.ref 0), some (.ref 52), some (.int (i + 4))]) ⟨rfl, rfl, rfl, rfl, trivial⟩ (k0 c1)
  · refine jr_icmp_eqF (pc' := 270) (tgt := 1000) dL_law_267 rfl rfl c1 ?_
    refine jr_iconst (pc' := 271) (v := 0) dL_law_270 rfl (by decide) ?_
    exact jr_iret dL_law_271 rfl rfl (k1 c1)

theorem q_law_310 {E : jEnv} {n : Nat} {L : Nat} {xs : Nat → Int32} {Post : Option Value → HP → Prop} (i : Int32) (s0 : Int32) (s1 : Int32) (h : HP)
    (k0 : (s1 = s0) → jG E mL_law (n + 1) (jX E L xs) Post 18 [some (.ref 1000), some (.ref 0), some (.ref 52), some (.int (i + 4))] [] h)
    (k1 : (¬ s1 = s0) → Post (some (.int 0)) h)
    : jG E mL_law (n + 1) (jX E L xs) Post 310 [some (.ref 1000), some (.ref 0), some (.ref 52), some (.int i)] [.int s0, .int s1] h := by
  by_cases c1 : s1 = s0
  · refine jr_icmp_eqT (pc' := 1000) dL_law_310 rfl c1 ?_
    refine jr_iinc (pc' := 1003) (i := 3) (v := (i + 4)) (lv' := [some (.ref 1000), some (.ref 0), some (.ref 52), some (.int (i + 4))]) dL_law_1000 rfl rfl (congrArg (i + ·) (by decide)) (by decide) rfl ?_
    refine jr_goto (pc' := 18) dL_law_1003 rfl ?_
    exact jG.weak (lv' := [some (.ref 1000), some (.ref 0), some (.ref 52), some (.int (i + 4))]) ⟨rfl, rfl, rfl, rfl, trivial⟩ (k0 c1)
  · refine jr_icmp_eqF (pc' := 313) (tgt := 1000) dL_law_310 rfl rfl c1 ?_
    refine jr_iconst (pc' := 314) (v := 0) dL_law_313 rfl (by decide) ?_
    exact jr_iret dL_law_314 rfl rfl (k1 c1)

theorem q_law_343 {E : jEnv} {n : Nat} {L : Nat} {xs : Nat → Int32} {Post : Option Value → HP → Prop} (i : Int32) (s0 : Int32) (s1 : Int32) (h : HP)
    (k0 : (s1 = s0) → jG E mL_law (n + 1) (jX E L xs) Post 18 [some (.ref 1000), some (.ref 0), some (.ref 52), some (.int (i + 4))] [] h)
    (k1 : (¬ s1 = s0) → Post (some (.int 0)) h)
    : jG E mL_law (n + 1) (jX E L xs) Post 343 [some (.ref 1000), some (.ref 0), some (.ref 52), some (.int i)] [.int s0, .int s1] h := by
  by_cases c1 : s1 = s0
  · refine jr_icmp_eqT (pc' := 1000) dL_law_343 rfl c1 ?_
    refine jr_iinc (pc' := 1003) (i := 3) (v := (i + 4)) (lv' := [some (.ref 1000), some (.ref 0), some (.ref 52), some (.int (i + 4))]) dL_law_1000 rfl rfl (congrArg (i + ·) (by decide)) (by decide) rfl ?_
    refine jr_goto (pc' := 18) dL_law_1003 rfl ?_
    exact jG.weak (lv' := [some (.ref 1000), some (.ref 0), some (.ref 52), some (.int (i + 4))]) ⟨rfl, rfl, rfl, rfl, trivial⟩ (k0 c1)
  · refine jr_icmp_eqF (pc' := 346) (tgt := 1000) dL_law_343 rfl rfl c1 ?_
    refine jr_iconst (pc' := 347) (v := 0) dL_law_346 rfl (by decide) ?_
    exact jr_iret dL_law_347 rfl rfl (k1 c1)

theorem q_law_376 {E : jEnv} {n : Nat} {L : Nat} {xs : Nat → Int32} {Post : Option Value → HP → Prop} (i : Int32) (s0 : Int32) (s1 : Int32) (h : HP)
    (k0 : (s1 = s0) → jG E mL_law (n + 1) (jX E L xs) Post 18 [some (.ref 1000), some (.ref 0), some (.ref 52), some (.int (i + 4))] [] h)
    (k1 : (¬ s1 = s0) → Post (some (.int 0)) h)
    : jG E mL_law (n + 1) (jX E L xs) Post 376 [some (.ref 1000), some (.ref 0), some (.ref 52), some (.int i)] [.int s0, .int s1] h := by
  by_cases c1 : s1 = s0
  · refine jr_icmp_eqT (pc' := 1000) dL_law_376 rfl c1 ?_
    refine jr_iinc (pc' := 1003) (i := 3) (v := (i + 4)) (lv' := [some (.ref 1000), some (.ref 0), some (.ref 52), some (.int (i + 4))]) dL_law_1000 rfl rfl (congrArg (i + ·) (by decide)) (by decide) rfl ?_
    refine jr_goto (pc' := 18) dL_law_1003 rfl ?_
    exact jG.weak (lv' := [some (.ref 1000), some (.ref 0), some (.ref 52), some (.int (i + 4))]) ⟨rfl, rfl, rfl, rfl, trivial⟩ (k0 c1)
  · refine jr_icmp_eqF (pc' := 379) (tgt := 1000) dL_law_376 rfl rfl c1 ?_
    refine jr_iconst (pc' := 380) (v := 0) dL_law_379 rfl (by decide) ?_
    exact jr_iret dL_law_380 rfl rfl (k1 c1)

theorem q_law_399 {E : jEnv} {n : Nat} {L : Nat} {xs : Nat → Int32} {Post : Option Value → HP → Prop} (i : Int32) (s0 : Int32) (s1 : Int32) (h : HP)
    (k0 : (s1 = s0) → jG E mL_law (n + 1) (jX E L xs) Post 18 [some (.ref 1000), some (.ref 0), some (.ref 52), some (.int (i + 4))] [] h)
    (k1 : (¬ s1 = s0) → Post (some (.int 0)) h)
    : jG E mL_law (n + 1) (jX E L xs) Post 399 [some (.ref 1000), some (.ref 0), some (.ref 52), some (.int i)] [.int s0, .int s1] h := by
  by_cases c1 : s1 = s0
  · refine jr_icmp_eqT (pc' := 1000) dL_law_399 rfl c1 ?_
    refine jr_iinc (pc' := 1003) (i := 3) (v := (i + 4)) (lv' := [some (.ref 1000), some (.ref 0), some (.ref 52), some (.int (i + 4))]) dL_law_1000 rfl rfl (congrArg (i + ·) (by decide)) (by decide) rfl ?_
    refine jr_goto (pc' := 18) dL_law_1003 rfl ?_
    exact jG.weak (lv' := [some (.ref 1000), some (.ref 0), some (.ref 52), some (.int (i + 4))]) ⟨rfl, rfl, rfl, rfl, trivial⟩ (k0 c1)
  · refine jr_icmp_eqF (pc' := 402) (tgt := 1000) dL_law_399 rfl rfl c1 ?_
    refine jr_iconst (pc' := 403) (v := 0) dL_law_402 rfl (by decide) ?_
    exact jr_iret dL_law_403 rfl rfl (k1 c1)

theorem q_law_422 {E : jEnv} {n : Nat} {L : Nat} {xs : Nat → Int32} {Post : Option Value → HP → Prop} (i : Int32) (s0 : Int32) (s1 : Int32) (h : HP)
    (k0 : (s1 = s0) → jG E mL_law (n + 1) (jX E L xs) Post 18 [some (.ref 1000), some (.ref 0), some (.ref 52), some (.int (i + 4))] [] h)
    (k1 : (¬ s1 = s0) → Post (some (.int 0)) h)
    : jG E mL_law (n + 1) (jX E L xs) Post 422 [some (.ref 1000), some (.ref 0), some (.ref 52), some (.int i)] [.int s0, .int s1] h := by
  by_cases c1 : s1 = s0
  · refine jr_icmp_eqT (pc' := 1000) dL_law_422 rfl c1 ?_
    refine jr_iinc (pc' := 1003) (i := 3) (v := (i + 4)) (lv' := [some (.ref 1000), some (.ref 0), some (.ref 52), some (.int (i + 4))]) dL_law_1000 rfl rfl (congrArg (i + ·) (by decide)) (by decide) rfl ?_
    refine jr_goto (pc' := 18) dL_law_1003 rfl ?_
    exact jG.weak (lv' := [some (.ref 1000), some (.ref 0), some (.ref 52), some (.int (i + 4))]) ⟨rfl, rfl, rfl, rfl, trivial⟩ (k0 c1)
  · refine jr_icmp_eqF (pc' := 425) (tgt := 1000) dL_law_422 rfl rfl c1 ?_
    refine jr_iconst (pc' := 426) (v := 0) dL_law_425 rfl (by decide) ?_
    exact jr_iret dL_law_426 rfl rfl (k1 c1)

theorem q_law_455 {E : jEnv} {n : Nat} {L : Nat} {xs : Nat → Int32} {Post : Option Value → HP → Prop} (i : Int32) (s0 : Int32) (s1 : Int32) (h : HP)
    (k0 : (s1 = s0) → jG E mL_law (n + 1) (jX E L xs) Post 18 [some (.ref 1000), some (.ref 0), some (.ref 52), some (.int (i + 4))] [] h)
    (k1 : (¬ s1 = s0) → Post (some (.int 0)) h)
    : jG E mL_law (n + 1) (jX E L xs) Post 455 [some (.ref 1000), some (.ref 0), some (.ref 52), some (.int i)] [.int s0, .int s1] h := by
  by_cases c1 : s1 = s0
  · refine jr_icmp_eqT (pc' := 1000) dL_law_455 rfl c1 ?_
    refine jr_iinc (pc' := 1003) (i := 3) (v := (i + 4)) (lv' := [some (.ref 1000), some (.ref 0), some (.ref 52), some (.int (i + 4))]) dL_law_1000 rfl rfl (congrArg (i + ·) (by decide)) (by decide) rfl ?_
    refine jr_goto (pc' := 18) dL_law_1003 rfl ?_
    exact jG.weak (lv' := [some (.ref 1000), some (.ref 0), some (.ref 52), some (.int (i + 4))]) ⟨rfl, rfl, rfl, rfl, trivial⟩ (k0 c1)
  · refine jr_icmp_eqF (pc' := 458) (tgt := 1000) dL_law_455 rfl rfl c1 ?_
    refine jr_iconst (pc' := 459) (v := 0) dL_law_458 rfl (by decide) ?_
    exact jr_iret dL_law_459 rfl rfl (k1 c1)

theorem q_law_514 {E : jEnv} {n : Nat} {L : Nat} {xs : Nat → Int32} {Post : Option Value → HP → Prop} (i : Int32) (s0 : Int32) (s1 : Int32) (h : HP)
    (k0 : (s1 = s0) → jG E mL_law (n + 1) (jX E L xs) Post 18 [some (.ref 1000), some (.ref 0), some (.ref 52), some (.int (i + 4))] [] h)
    (k1 : (¬ s1 = s0) → Post (some (.int 0)) h)
    : jG E mL_law (n + 1) (jX E L xs) Post 514 [some (.ref 1000), some (.ref 0), some (.ref 52), some (.int i)] [.int s0, .int s1] h := by
  by_cases c1 : s1 = s0
  · refine jr_icmp_eqT (pc' := 1000) dL_law_514 rfl c1 ?_
    refine jr_iinc (pc' := 1003) (i := 3) (v := (i + 4)) (lv' := [some (.ref 1000), some (.ref 0), some (.ref 52), some (.int (i + 4))]) dL_law_1000 rfl rfl (congrArg (i + ·) (by decide)) (by decide) rfl ?_
    refine jr_goto (pc' := 18) dL_law_1003 rfl ?_
    exact jG.weak (lv' := [some (.ref 1000), some (.ref 0), some (.ref 52), some (.int (i + 4))]) ⟨rfl, rfl, rfl, rfl, trivial⟩ (k0 c1)
  · refine jr_icmp_eqF (pc' := 517) (tgt := 1000) dL_law_514 rfl rfl c1 ?_
    refine jr_iconst (pc' := 518) (v := 0) dL_law_517 rfl (by decide) ?_
    exact jr_iret dL_law_518 rfl rfl (k1 c1)

theorem q_law_557 {E : jEnv} {n : Nat} {L : Nat} {xs : Nat → Int32} {Post : Option Value → HP → Prop} (i : Int32) (s0 : Int32) (s1 : Int32) (h : HP)
    (k0 : (s1 = s0) → jG E mL_law (n + 1) (jX E L xs) Post 18 [some (.ref 1000), some (.ref 0), some (.ref 52), some (.int (i + 4))] [] h)
    (k1 : (¬ s1 = s0) → Post (some (.int 0)) h)
    : jG E mL_law (n + 1) (jX E L xs) Post 557 [some (.ref 1000), some (.ref 0), some (.ref 52), some (.int i)] [.int s0, .int s1] h := by
  by_cases c1 : s1 = s0
  · refine jr_icmp_eqT (pc' := 1000) dL_law_557 rfl c1 ?_
    refine jr_iinc (pc' := 1003) (i := 3) (v := (i + 4)) (lv' := [some (.ref 1000), some (.ref 0), some (.ref 52), some (.int (i + 4))]) dL_law_1000 rfl rfl (congrArg (i + ·) (by decide)) (by decide) rfl ?_
    refine jr_goto (pc' := 18) dL_law_1003 rfl ?_
    exact jG.weak (lv' := [some (.ref 1000), some (.ref 0), some (.ref 52), some (.int (i + 4))]) ⟨rfl, rfl, rfl, rfl, trivial⟩ (k0 c1)
  · refine jr_icmp_eqF (pc' := 560) (tgt := 1000) dL_law_557 rfl rfl c1 ?_
    refine jr_iconst (pc' := 561) (v := 0) dL_law_560 rfl (by decide) ?_
    exact jr_iret dL_law_561 rfl rfl (k1 c1)

theorem q_law_590 {E : jEnv} {n : Nat} {L : Nat} {xs : Nat → Int32} {Post : Option Value → HP → Prop} (i : Int32) (s0 : Int32) (s1 : Int32) (h : HP)
    (k0 : (s1 = s0) → jG E mL_law (n + 1) (jX E L xs) Post 18 [some (.ref 1000), some (.ref 0), some (.ref 52), some (.int (i + 4))] [] h)
    (k1 : (¬ s1 = s0) → Post (some (.int 0)) h)
    : jG E mL_law (n + 1) (jX E L xs) Post 590 [some (.ref 1000), some (.ref 0), some (.ref 52), some (.int i)] [.int s0, .int s1] h := by
  by_cases c1 : s1 = s0
  · refine jr_icmp_eqT (pc' := 1000) dL_law_590 rfl c1 ?_
    refine jr_iinc (pc' := 1003) (i := 3) (v := (i + 4)) (lv' := [some (.ref 1000), some (.ref 0), some (.ref 52), some (.int (i + 4))]) dL_law_1000 rfl rfl (congrArg (i + ·) (by decide)) (by decide) rfl ?_
    refine jr_goto (pc' := 18) dL_law_1003 rfl ?_
    exact jG.weak (lv' := [some (.ref 1000), some (.ref 0), some (.ref 52), some (.int (i + 4))]) ⟨rfl, rfl, rfl, rfl, trivial⟩ (k0 c1)
  · refine jr_icmp_eqF (pc' := 593) (tgt := 1000) dL_law_590 rfl rfl c1 ?_
    refine jr_iconst (pc' := 594) (v := 0) dL_law_593 rfl (by decide) ?_
    exact jr_iret dL_law_594 rfl rfl (k1 c1)

theorem q_law_623 {E : jEnv} {n : Nat} {L : Nat} {xs : Nat → Int32} {Post : Option Value → HP → Prop} (i : Int32) (s0 : Int32) (s1 : Int32) (h : HP)
    (k0 : (s1 = s0) → jG E mL_law (n + 1) (jX E L xs) Post 18 [some (.ref 1000), some (.ref 0), some (.ref 52), some (.int (i + 4))] [] h)
    (k1 : (¬ s1 = s0) → Post (some (.int 0)) h)
    : jG E mL_law (n + 1) (jX E L xs) Post 623 [some (.ref 1000), some (.ref 0), some (.ref 52), some (.int i)] [.int s0, .int s1] h := by
  by_cases c1 : s1 = s0
  · refine jr_icmp_eqT (pc' := 1000) dL_law_623 rfl c1 ?_
    refine jr_iinc (pc' := 1003) (i := 3) (v := (i + 4)) (lv' := [some (.ref 1000), some (.ref 0), some (.ref 52), some (.int (i + 4))]) dL_law_1000 rfl rfl (congrArg (i + ·) (by decide)) (by decide) rfl ?_
    refine jr_goto (pc' := 18) dL_law_1003 rfl ?_
    exact jG.weak (lv' := [some (.ref 1000), some (.ref 0), some (.ref 52), some (.int (i + 4))]) ⟨rfl, rfl, rfl, rfl, trivial⟩ (k0 c1)
  · refine jr_icmp_eqF (pc' := 626) (tgt := 1000) dL_law_623 rfl rfl c1 ?_
    refine jr_iconst (pc' := 627) (v := 0) dL_law_626 rfl (by decide) ?_
    exact jr_iret dL_law_627 rfl rfl (k1 c1)

theorem q_law_666 {E : jEnv} {n : Nat} {L : Nat} {xs : Nat → Int32} {Post : Option Value → HP → Prop} (i : Int32) (s0 : Int32) (s1 : Int32) (h : HP)
    (k0 : (s1 = s0) → jG E mL_law (n + 1) (jX E L xs) Post 18 [some (.ref 1000), some (.ref 0), some (.ref 52), some (.int (i + 4))] [] h)
    (k1 : (¬ s1 = s0) → Post (some (.int 0)) h)
    : jG E mL_law (n + 1) (jX E L xs) Post 666 [some (.ref 1000), some (.ref 0), some (.ref 52), some (.int i)] [.int s0, .int s1] h := by
  by_cases c1 : s1 = s0
  · refine jr_icmp_eqT (pc' := 1000) dL_law_666 rfl c1 ?_
    refine jr_iinc (pc' := 1003) (i := 3) (v := (i + 4)) (lv' := [some (.ref 1000), some (.ref 0), some (.ref 52), some (.int (i + 4))]) dL_law_1000 rfl rfl (congrArg (i + ·) (by decide)) (by decide) rfl ?_
    refine jr_goto (pc' := 18) dL_law_1003 rfl ?_
    exact jG.weak (lv' := [some (.ref 1000), some (.ref 0), some (.ref 52), some (.int (i + 4))]) ⟨rfl, rfl, rfl, rfl, trivial⟩ (k0 c1)
  · refine jr_icmp_eqF (pc' := 669) (tgt := 1000) dL_law_666 rfl rfl c1 ?_
    refine jr_iconst (pc' := 670) (v := 0) dL_law_669 rfl (by decide) ?_
    exact jr_iret dL_law_670 rfl rfl (k1 c1)

theorem q_law_699 {E : jEnv} {n : Nat} {L : Nat} {xs : Nat → Int32} {Post : Option Value → HP → Prop} (i : Int32) (s0 : Int32) (s1 : Int32) (h : HP)
    (k0 : (s1 = s0) → jG E mL_law (n + 1) (jX E L xs) Post 18 [some (.ref 1000), some (.ref 0), some (.ref 52), some (.int (i + 4))] [] h)
    (k1 : (¬ s1 = s0) → Post (some (.int 0)) h)
    : jG E mL_law (n + 1) (jX E L xs) Post 699 [some (.ref 1000), some (.ref 0), some (.ref 52), some (.int i)] [.int s0, .int s1] h := by
  by_cases c1 : s1 = s0
  · refine jr_icmp_eqT (pc' := 1000) dL_law_699 rfl c1 ?_
    refine jr_iinc (pc' := 1003) (i := 3) (v := (i + 4)) (lv' := [some (.ref 1000), some (.ref 0), some (.ref 52), some (.int (i + 4))]) dL_law_1000 rfl rfl (congrArg (i + ·) (by decide)) (by decide) rfl ?_
    refine jr_goto (pc' := 18) dL_law_1003 rfl ?_
    exact jG.weak (lv' := [some (.ref 1000), some (.ref 0), some (.ref 52), some (.int (i + 4))]) ⟨rfl, rfl, rfl, rfl, trivial⟩ (k0 c1)
  · refine jr_icmp_eqF (pc' := 702) (tgt := 1000) dL_law_699 rfl rfl c1 ?_
    refine jr_iconst (pc' := 703) (v := 0) dL_law_702 rfl (by decide) ?_
    exact jr_iret dL_law_703 rfl rfl (k1 c1)

theorem q_law_732 {E : jEnv} {n : Nat} {L : Nat} {xs : Nat → Int32} {Post : Option Value → HP → Prop} (i : Int32) (s0 : Int32) (s1 : Int32) (h : HP)
    (k0 : (s1 = s0) → jG E mL_law (n + 1) (jX E L xs) Post 18 [some (.ref 1000), some (.ref 0), some (.ref 52), some (.int (i + 4))] [] h)
    (k1 : (¬ s1 = s0) → Post (some (.int 0)) h)
    : jG E mL_law (n + 1) (jX E L xs) Post 732 [some (.ref 1000), some (.ref 0), some (.ref 52), some (.int i)] [.int s0, .int s1] h := by
  by_cases c1 : s1 = s0
  · refine jr_icmp_eqT (pc' := 1000) dL_law_732 rfl c1 ?_
    refine jr_iinc (pc' := 1003) (i := 3) (v := (i + 4)) (lv' := [some (.ref 1000), some (.ref 0), some (.ref 52), some (.int (i + 4))]) dL_law_1000 rfl rfl (congrArg (i + ·) (by decide)) (by decide) rfl ?_
    refine jr_goto (pc' := 18) dL_law_1003 rfl ?_
    exact jG.weak (lv' := [some (.ref 1000), some (.ref 0), some (.ref 52), some (.int (i + 4))]) ⟨rfl, rfl, rfl, rfl, trivial⟩ (k0 c1)
  · refine jr_icmp_eqF (pc' := 735) (tgt := 1000) dL_law_732 rfl rfl c1 ?_
    refine jr_iconst (pc' := 736) (v := 0) dL_law_735 rfl (by decide) ?_
    exact jr_iret dL_law_736 rfl rfl (k1 c1)

theorem q_law_755 {E : jEnv} {n : Nat} {L : Nat} {xs : Nat → Int32} {Post : Option Value → HP → Prop} (i : Int32) (s0 : Int32) (s1 : Int32) (h : HP)
    (k0 : (s1 = s0) → jG E mL_law (n + 1) (jX E L xs) Post 18 [some (.ref 1000), some (.ref 0), some (.ref 52), some (.int (i + 4))] [] h)
    (k1 : (¬ s1 = s0) → Post (some (.int 0)) h)
    : jG E mL_law (n + 1) (jX E L xs) Post 755 [some (.ref 1000), some (.ref 0), some (.ref 52), some (.int i)] [.int s0, .int s1] h := by
  by_cases c1 : s1 = s0
  · refine jr_icmp_eqT (pc' := 1000) dL_law_755 rfl c1 ?_
    refine jr_iinc (pc' := 1003) (i := 3) (v := (i + 4)) (lv' := [some (.ref 1000), some (.ref 0), some (.ref 52), some (.int (i + 4))]) dL_law_1000 rfl rfl (congrArg (i + ·) (by decide)) (by decide) rfl ?_
    refine jr_goto (pc' := 18) dL_law_1003 rfl ?_
    exact jG.weak (lv' := [some (.ref 1000), some (.ref 0), some (.ref 52), some (.int (i + 4))]) ⟨rfl, rfl, rfl, rfl, trivial⟩ (k0 c1)
  · refine jr_icmp_eqF (pc' := 758) (tgt := 1000) dL_law_755 rfl rfl c1 ?_
    refine jr_iconst (pc' := 759) (v := 0) dL_law_758 rfl (by decide) ?_
    exact jr_iret dL_law_759 rfl rfl (k1 c1)

theorem q_law_778 {E : jEnv} {n : Nat} {L : Nat} {xs : Nat → Int32} {Post : Option Value → HP → Prop} (i : Int32) (s0 : Int32) (s1 : Int32) (h : HP)
    (k0 : (s1 = s0) → jG E mL_law (n + 1) (jX E L xs) Post 18 [some (.ref 1000), some (.ref 0), some (.ref 52), some (.int (i + 4))] [] h)
    (k1 : (¬ s1 = s0) → Post (some (.int 0)) h)
    : jG E mL_law (n + 1) (jX E L xs) Post 778 [some (.ref 1000), some (.ref 0), some (.ref 52), some (.int i)] [.int s0, .int s1] h := by
  by_cases c1 : s1 = s0
  · refine jr_icmp_eqT (pc' := 1000) dL_law_778 rfl c1 ?_
    refine jr_iinc (pc' := 1003) (i := 3) (v := (i + 4)) (lv' := [some (.ref 1000), some (.ref 0), some (.ref 52), some (.int (i + 4))]) dL_law_1000 rfl rfl (congrArg (i + ·) (by decide)) (by decide) rfl ?_
    refine jr_goto (pc' := 18) dL_law_1003 rfl ?_
    exact jG.weak (lv' := [some (.ref 1000), some (.ref 0), some (.ref 52), some (.int (i + 4))]) ⟨rfl, rfl, rfl, rfl, trivial⟩ (k0 c1)
  · refine jr_icmp_eqF (pc' := 781) (tgt := 1000) dL_law_778 rfl rfl c1 ?_
    refine jr_iconst (pc' := 782) (v := 0) dL_law_781 rfl (by decide) ?_
    exact jr_iret dL_law_782 rfl rfl (k1 c1)

theorem q_law_811 {E : jEnv} {n : Nat} {L : Nat} {xs : Nat → Int32} {Post : Option Value → HP → Prop} (i : Int32) (s0 : Int32) (s1 : Int32) (h : HP)
    (k0 : (s1 = s0) → jG E mL_law (n + 1) (jX E L xs) Post 18 [some (.ref 1000), some (.ref 0), some (.ref 52), some (.int (i + 4))] [] h)
    (k1 : (¬ s1 = s0) → Post (some (.int 0)) h)
    : jG E mL_law (n + 1) (jX E L xs) Post 811 [some (.ref 1000), some (.ref 0), some (.ref 52), some (.int i)] [.int s0, .int s1] h := by
  by_cases c1 : s1 = s0
  · refine jr_icmp_eqT (pc' := 1000) dL_law_811 rfl c1 ?_
    refine jr_iinc (pc' := 1003) (i := 3) (v := (i + 4)) (lv' := [some (.ref 1000), some (.ref 0), some (.ref 52), some (.int (i + 4))]) dL_law_1000 rfl rfl (congrArg (i + ·) (by decide)) (by decide) rfl ?_
    refine jr_goto (pc' := 18) dL_law_1003 rfl ?_
    exact jG.weak (lv' := [some (.ref 1000), some (.ref 0), some (.ref 52), some (.int (i + 4))]) ⟨rfl, rfl, rfl, rfl, trivial⟩ (k0 c1)
  · refine jr_icmp_eqF (pc' := 814) (tgt := 1000) dL_law_811 rfl rfl c1 ?_
    refine jr_iconst (pc' := 815) (v := 0) dL_law_814 rfl (by decide) ?_
    exact jr_iret dL_law_815 rfl rfl (k1 c1)

theorem q_law_854 {E : jEnv} {n : Nat} {L : Nat} {xs : Nat → Int32} {Post : Option Value → HP → Prop} (i : Int32) (s0 : Int32) (s1 : Int32) (h : HP)
    (k0 : (s1 = s0) → jG E mL_law (n + 1) (jX E L xs) Post 18 [some (.ref 1000), some (.ref 0), some (.ref 52), some (.int (i + 4))] [] h)
    (k1 : (¬ s1 = s0) → Post (some (.int 0)) h)
    : jG E mL_law (n + 1) (jX E L xs) Post 854 [some (.ref 1000), some (.ref 0), some (.ref 52), some (.int i)] [.int s0, .int s1] h := by
  by_cases c1 : s1 = s0
  · refine jr_icmp_eqT (pc' := 1000) dL_law_854 rfl c1 ?_
    refine jr_iinc (pc' := 1003) (i := 3) (v := (i + 4)) (lv' := [some (.ref 1000), some (.ref 0), some (.ref 52), some (.int (i + 4))]) dL_law_1000 rfl rfl (congrArg (i + ·) (by decide)) (by decide) rfl ?_
    refine jr_goto (pc' := 18) dL_law_1003 rfl ?_
    exact jG.weak (lv' := [some (.ref 1000), some (.ref 0), some (.ref 52), some (.int (i + 4))]) ⟨rfl, rfl, rfl, rfl, trivial⟩ (k0 c1)
  · refine jr_icmp_eqF (pc' := 857) (tgt := 1000) dL_law_854 rfl rfl c1 ?_
    refine jr_iconst (pc' := 858) (v := 0) dL_law_857 rfl (by decide) ?_
    exact jr_iret dL_law_858 rfl rfl (k1 c1)

theorem q_law_867 {E : jEnv} {n : Nat} {L : Nat} {xs : Nat → Int32} {Post : Option Value → HP → Prop} (i : Int32) (s0 : Int32) (s1 : Int32) (h : HP)
    (k0 : (s1 = s0) → jG E mL_law (n + 1) (jX E L xs) Post 18 [some (.ref 1000), some (.ref 0), some (.ref 52), some (.int (i + 4))] [] h)
    (k1 : (¬ s1 = s0) → Post (some (.int 0)) h)
    : jG E mL_law (n + 1) (jX E L xs) Post 867 [some (.ref 1000), some (.ref 0), some (.ref 52), some (.int i)] [.int s0, .int s1] h := by
  by_cases c1 : s1 = s0
  · refine jr_icmp_eqT (pc' := 1000) dL_law_867 rfl c1 ?_
    refine jr_iinc (pc' := 1003) (i := 3) (v := (i + 4)) (lv' := [some (.ref 1000), some (.ref 0), some (.ref 52), some (.int (i + 4))]) dL_law_1000 rfl rfl (congrArg (i + ·) (by decide)) (by decide) rfl ?_
    refine jr_goto (pc' := 18) dL_law_1003 rfl ?_
    exact jG.weak (lv' := [some (.ref 1000), some (.ref 0), some (.ref 52), some (.int (i + 4))]) ⟨rfl, rfl, rfl, rfl, trivial⟩ (k0 c1)
  · refine jr_icmp_eqF (pc' := 870) (tgt := 1000) dL_law_867 rfl rfl c1 ?_
    refine jr_iconst (pc' := 871) (v := 0) dL_law_870 rfl (by decide) ?_
    exact jr_iret dL_law_871 rfl rfl (k1 c1)

theorem q_law_900 {E : jEnv} {n : Nat} {L : Nat} {xs : Nat → Int32} {Post : Option Value → HP → Prop} (i : Int32) (s0 : Int32) (s1 : Int32) (h : HP)
    (k0 : (s1 = s0) → jG E mL_law (n + 1) (jX E L xs) Post 18 [some (.ref 1000), some (.ref 0), some (.ref 52), some (.int (i + 4))] [] h)
    (k1 : (¬ s1 = s0) → Post (some (.int 0)) h)
    : jG E mL_law (n + 1) (jX E L xs) Post 900 [some (.ref 1000), some (.ref 0), some (.ref 52), some (.int i)] [.int s0, .int s1] h := by
  by_cases c1 : s1 = s0
  · refine jr_icmp_eqT (pc' := 1000) dL_law_900 rfl c1 ?_
    refine jr_iinc (pc' := 1003) (i := 3) (v := (i + 4)) (lv' := [some (.ref 1000), some (.ref 0), some (.ref 52), some (.int (i + 4))]) dL_law_1000 rfl rfl (congrArg (i + ·) (by decide)) (by decide) rfl ?_
    refine jr_goto (pc' := 18) dL_law_1003 rfl ?_
    exact jG.weak (lv' := [some (.ref 1000), some (.ref 0), some (.ref 52), some (.int (i + 4))]) ⟨rfl, rfl, rfl, rfl, trivial⟩ (k0 c1)
  · refine jr_icmp_eqF (pc' := 903) (tgt := 1000) dL_law_900 rfl rfl c1 ?_
    refine jr_iconst (pc' := 904) (v := 0) dL_law_903 rfl (by decide) ?_
    exact jr_iret dL_law_904 rfl rfl (k1 c1)

theorem q_law_913 {E : jEnv} {n : Nat} {L : Nat} {xs : Nat → Int32} {Post : Option Value → HP → Prop} (i : Int32) (s0 : Int32) (s1 : Int32) (h : HP)
    (k0 : (s1 = s0) → jG E mL_law (n + 1) (jX E L xs) Post 18 [some (.ref 1000), some (.ref 0), some (.ref 52), some (.int (i + 4))] [] h)
    (k1 : (¬ s1 = s0) → Post (some (.int 0)) h)
    : jG E mL_law (n + 1) (jX E L xs) Post 913 [some (.ref 1000), some (.ref 0), some (.ref 52), some (.int i)] [.int s0, .int s1] h := by
  by_cases c1 : s1 = s0
  · refine jr_icmp_eqT (pc' := 1000) dL_law_913 rfl c1 ?_
    refine jr_iinc (pc' := 1003) (i := 3) (v := (i + 4)) (lv' := [some (.ref 1000), some (.ref 0), some (.ref 52), some (.int (i + 4))]) dL_law_1000 rfl rfl (congrArg (i + ·) (by decide)) (by decide) rfl ?_
    refine jr_goto (pc' := 18) dL_law_1003 rfl ?_
    exact jG.weak (lv' := [some (.ref 1000), some (.ref 0), some (.ref 52), some (.int (i + 4))]) ⟨rfl, rfl, rfl, rfl, trivial⟩ (k0 c1)
  · refine jr_icmp_eqF (pc' := 916) (tgt := 1000) dL_law_913 rfl rfl c1 ?_
    refine jr_iconst (pc' := 917) (v := 0) dL_law_916 rfl (by decide) ?_
    exact jr_iret dL_law_917 rfl rfl (k1 c1)

theorem q_law_926 {E : jEnv} {n : Nat} {L : Nat} {xs : Nat → Int32} {Post : Option Value → HP → Prop} (i : Int32) (s0 : Int32) (s1 : Int32) (h : HP)
    (k0 : (s1 = s0) → jG E mL_law (n + 1) (jX E L xs) Post 18 [some (.ref 1000), some (.ref 0), some (.ref 52), some (.int (i + 4))] [] h)
    (k1 : (¬ s1 = s0) → Post (some (.int 0)) h)
    : jG E mL_law (n + 1) (jX E L xs) Post 926 [some (.ref 1000), some (.ref 0), some (.ref 52), some (.int i)] [.int s0, .int s1] h := by
  by_cases c1 : s1 = s0
  · refine jr_icmp_eqT (pc' := 1000) dL_law_926 rfl c1 ?_
    refine jr_iinc (pc' := 1003) (i := 3) (v := (i + 4)) (lv' := [some (.ref 1000), some (.ref 0), some (.ref 52), some (.int (i + 4))]) dL_law_1000 rfl rfl (congrArg (i + ·) (by decide)) (by decide) rfl ?_
    refine jr_goto (pc' := 18) dL_law_1003 rfl ?_
    exact jG.weak (lv' := [some (.ref 1000), some (.ref 0), some (.ref 52), some (.int (i + 4))]) ⟨rfl, rfl, rfl, rfl, trivial⟩ (k0 c1)
  · refine jr_icmp_eqF (pc' := 929) (tgt := 1000) dL_law_926 rfl rfl c1 ?_
    refine jr_iconst (pc' := 930) (v := 0) dL_law_929 rfl (by decide) ?_
    exact jr_iret dL_law_930 rfl rfl (k1 c1)

theorem q_law_949 {E : jEnv} {n : Nat} {L : Nat} {xs : Nat → Int32} {Post : Option Value → HP → Prop} (i : Int32) (s0 : Int32) (s1 : Int32) (h : HP)
    (k0 : (s1 = s0) → jG E mL_law (n + 1) (jX E L xs) Post 18 [some (.ref 1000), some (.ref 0), some (.ref 52), some (.int (i + 4))] [] h)
    (k1 : (¬ s1 = s0) → Post (some (.int 0)) h)
    : jG E mL_law (n + 1) (jX E L xs) Post 949 [some (.ref 1000), some (.ref 0), some (.ref 52), some (.int i)] [.int s0, .int s1] h := by
  by_cases c1 : s1 = s0
  · refine jr_icmp_eqT (pc' := 1000) dL_law_949 rfl c1 ?_
    refine jr_iinc (pc' := 1003) (i := 3) (v := (i + 4)) (lv' := [some (.ref 1000), some (.ref 0), some (.ref 52), some (.int (i + 4))]) dL_law_1000 rfl rfl (congrArg (i + ·) (by decide)) (by decide) rfl ?_
    refine jr_goto (pc' := 18) dL_law_1003 rfl ?_
    exact jG.weak (lv' := [some (.ref 1000), some (.ref 0), some (.ref 52), some (.int (i + 4))]) ⟨rfl, rfl, rfl, rfl, trivial⟩ (k0 c1)
  · refine jr_icmp_eqF (pc' := 952) (tgt := 1000) dL_law_949 rfl rfl c1 ?_
    refine jr_iconst (pc' := 953) (v := 0) dL_law_952 rfl (by decide) ?_
    exact jr_iret dL_law_953 rfl rfl (k1 c1)

theorem q_law_972 {E : jEnv} {n : Nat} {L : Nat} {xs : Nat → Int32} {Post : Option Value → HP → Prop} (i : Int32) (s0 : Int32) (s1 : Int32) (h : HP)
    (k0 : (s1 = s0) → jG E mL_law (n + 1) (jX E L xs) Post 18 [some (.ref 1000), some (.ref 0), some (.ref 52), some (.int (i + 4))] [] h)
    (k1 : (¬ s1 = s0) → Post (some (.int 0)) h)
    : jG E mL_law (n + 1) (jX E L xs) Post 972 [some (.ref 1000), some (.ref 0), some (.ref 52), some (.int i)] [.int s0, .int s1] h := by
  by_cases c1 : s1 = s0
  · refine jr_icmp_eqT (pc' := 1000) dL_law_972 rfl c1 ?_
    refine jr_iinc (pc' := 1003) (i := 3) (v := (i + 4)) (lv' := [some (.ref 1000), some (.ref 0), some (.ref 52), some (.int (i + 4))]) dL_law_1000 rfl rfl (congrArg (i + ·) (by decide)) (by decide) rfl ?_
    refine jr_goto (pc' := 18) dL_law_1003 rfl ?_
    exact jG.weak (lv' := [some (.ref 1000), some (.ref 0), some (.ref 52), some (.int (i + 4))]) ⟨rfl, rfl, rfl, rfl, trivial⟩ (k0 c1)
  · refine jr_icmp_eqF (pc' := 975) (tgt := 1000) dL_law_972 rfl rfl c1 ?_
    refine jr_iconst (pc' := 976) (v := 0) dL_law_975 rfl (by decide) ?_
    exact jr_iret dL_law_976 rfl rfl (k1 c1)

theorem q_law_995 {E : jEnv} {n : Nat} {L : Nat} {xs : Nat → Int32} {Post : Option Value → HP → Prop} (i : Int32) (s0 : Int32) (s1 : Int32) (h : HP)
    (k0 : (s1 = s0) → jG E mL_law (n + 1) (jX E L xs) Post 18 [some (.ref 1000), some (.ref 0), some (.ref 52), some (.int (i + 4))] [] h)
    (k1 : (¬ s1 = s0) → Post (some (.int 0)) h)
    : jG E mL_law (n + 1) (jX E L xs) Post 995 [some (.ref 1000), some (.ref 0), some (.ref 52), some (.int i)] [.int s0, .int s1] h := by
  by_cases c1 : s1 = s0
  · refine jr_icmp_eqT (pc' := 1000) dL_law_995 rfl c1 ?_
    refine jr_iinc (pc' := 1003) (i := 3) (v := (i + 4)) (lv' := [some (.ref 1000), some (.ref 0), some (.ref 52), some (.int (i + 4))]) dL_law_1000 rfl rfl (congrArg (i + ·) (by decide)) (by decide) rfl ?_
    refine jr_goto (pc' := 18) dL_law_1003 rfl ?_
    exact jG.weak (lv' := [some (.ref 1000), some (.ref 0), some (.ref 52), some (.int (i + 4))]) ⟨rfl, rfl, rfl, rfl, trivial⟩ (k0 c1)
  · refine jr_icmp_eqF (pc' := 998) (tgt := 1000) dL_law_995 rfl rfl c1 ?_
    refine jr_iconst (pc' := 999) (v := 0) dL_law_998 rfl (by decide) ?_
    exact jr_iret dL_law_999 rfl rfl (k1 c1)
