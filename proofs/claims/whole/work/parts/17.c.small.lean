/-! small, home, met, run -/
noncomputable def smallR (n m : Nat) (w : aT) (x y z : Int32) : Int32 := if (isS (fk n m w) x && isS m y && isS 2 z) = true then (if z = 0 then ov (smo n m w x.toNatClampNeg y.toNatClampNeg) else ov (sma n w (fs n m w x.toNatClampNeg) y.toNatClampNeg)) else -1
theorem csmall_ok {n m : Nat} {w : aT} {I : xI} {J : xJ} (hn : n ≤ 6) (hm : m ≤ 4) (V : Vd n m w) (h : cMa n m w (I 1 0) (I 1 1) (I 2) (I 3) (I 4)) (hA : caABC n m w I) (x y z : Int32) : Ok (f_X11_small x y z I J) (fun o => o.2.2 = J ∧ o.1 = smallR n m w x y z ∧ caABC n m w o.2.1 ∧ ∀ c j, ¬ qReg c j → o.2.1 c j = I c j) := by
  unfold f_X11_small f_X11_small_0
  apply ok_bind
  refine (fewestNow_ok hn hm V h hA).imp ?_
  rintro ⟨_, I1, J1⟩ ⟨rfl, cA, hF, a3⟩
  dsimp only at cA hF a3 ⊢
  have hM1 := cMa_fr h (fun c j h1 h2 => a3 c j (by unfold qReg pReg; omega))
  have hk6 := hF.1.1
  unfold f_X11_small_1 smallR
  rw [hasFewest_ok (by omega) hF.2.1, Option.bind_some]
  unfold f_X11_small_2
  dsimp only
  cases hx : isS (fk n m w) x with
  | false => exact ok_some ⟨rfl, rfl, cA, a3⟩
  | true =>
    show Ok (f_X11_small_3 x y z I1 J1) _
    unfold f_X11_small_3
    rw [hasInput_ok hM1.2.1 (by omega), Option.bind_some]
    unfold f_X11_small_4
    dsimp only
    cases hy : isS m y with
    | false => exact ok_some ⟨rfl, rfl, cA, a3⟩
    | true =>
      show Ok (f_X11_small_5 x y z I1 J1) _
      unfold f_X11_small_5
      rcases nt_all z with hz | ⟨k, hk, rfl⟩
      · rw [if_pos hz, isS_neg hz]
        exact ok_some ⟨rfl, rfl, cA, a3⟩
      · rw [isS_nt (by omega) hk]
        unfold f_X11_small_6
        obtain ⟨c, hc, rfl⟩ := isS_ex (by omega) hx
        obtain ⟨d, hd, rfl⟩ := isS_ex (by omega) hy
        rw [nt_clamp (by omega), nt_clamp (by omega)]
        simp (disch := omega) only [nt_clamp, nt_le, nt_lt, nt_eq, lit_le, lit_lt, le_lit, lt_lit, eq_lit, lit_eq, nt_neg, nt_ge, nt_add, nt_mul, nt_addl, lit_add, nt_mull, lit_mul, nt_sub, nt_subl, lit_sub, nt_divl, nt_m1, nt_m2, nt_m1', nt_m2', if_false, Bool.true_and]
        by_cases hc1 : k ≤ 1
        · rw [if_pos hc1, decide_eq_true (by omega)]
          simp (disch := omega) only [f_X11_small_8, f_X11_small_9, f_X11_small_10, f_X11_small_11, f_X11_small_12, nt_clamp, nt_le, nt_lt, nt_eq, lit_le, lit_lt, le_lit, lt_lit, eq_lit, lit_eq, nt_neg, nt_ge, nt_add, nt_mul, nt_addl, lit_add, nt_mull, lit_mul, nt_sub, nt_subl, lit_sub, nt_divl, nt_m1, nt_m2, nt_m1', nt_m2', smallTarget_ok hn hm V hM1 hF hc hd, csmallAnswer_ok hn hm V hM1 hF hc hd, Option.bind_some, if_true]
          by_cases h0 : k = 0
          · rw [if_pos h0, if_pos h0]
            exact ok_some ⟨rfl, rfl, cA, a3⟩
          · rw [if_neg h0, if_neg h0]
            exact ok_some ⟨rfl, rfl, cA, a3⟩
        · rw [if_neg hc1, decide_eq_false (by omega)]
          exact ok_some ⟨rfl, rfl, cA, a3⟩
theorem rsmall_ok {n m : Nat} {w : aT} {I : xI} {J : xJ} (hn : n ≤ 6) (hm : m ≤ 4) (V : Vd n m w) (h0 : I 61 17 = nt n) (h1 : I 61 18 = nt m) (h : rMa n m w (I 70) 0) (hc : rCa n m w I) (x y z : Int32) : Ok (f_X12_small x y z I J) (fun o => o.2.2 = J ∧ o.1 = smallR n m w x y z ∧ rCa n m w o.2.1 ∧ ∀ c j, ¬ kReg c j → o.2.1 c j = I c j) := by
  unfold f_X12_small f_X12_small_0
  apply ok_bind
  refine (knows_ok hn hm V h0 h1 h hc).imp ?_
  rintro ⟨_, I1, J1⟩ ⟨rfl, a1, a2, a3⟩
  dsimp only at a1 a2 a3 ⊢
  have hF := a1.2.2.2.1
  have hk6 := hF.1.1
  have e17 : I1 61 17 = nt n := (a3 61 17 (by unfold kReg; omega)).trans h0
  have e18 : I1 61 18 = nt m := (a3 61 18 (by unfold kReg; omega)).trans h1
  have e70 : I1 70 = I 70 := funext fun j => a3 70 j (by unfold kReg; omega)
  have hM1 : rMa n m w (I1 70) 0 := by rw [e70]; exact h
  unfold f_X12_small_1 smallR
  rw [hF.2.1, rin_ok (by omega), Option.bind_some]
  unfold f_X12_small_2
  dsimp only
  cases hx : isS (fk n m w) x with
  | false => exact ok_some ⟨rfl, rfl, fun _ => ⟨a1, a2⟩, a3⟩
  | true =>
    show Ok (f_X12_small_3 x y z I1 J1) _
    unfold f_X12_small_3
    rw [isInput_ok e18 (by omega), Option.bind_some]
    unfold f_X12_small_4
    dsimp only
    cases hy : isS m y with
    | false => exact ok_some ⟨rfl, rfl, fun _ => ⟨a1, a2⟩, a3⟩
    | true =>
      show Ok (f_X12_small_5 x y z I1 J1) _
      unfold f_X12_small_5
      rw [rin1_ok, Option.bind_some]
      unfold f_X12_small_6
      dsimp only
      cases hz : isS 2 z with
      | false => exact ok_some ⟨rfl, rfl, fun _ => ⟨a1, a2⟩, a3⟩
      | true =>
        show Ok (f_X12_small_8 x y z I1 J1) _
        obtain ⟨c, hc, rfl⟩ := isS_ex (by omega) hx
        obtain ⟨d, hd, rfl⟩ := isS_ex (by omega) hy
        rw [nt_clamp (by omega), nt_clamp (by omega)]
        simp (disch := omega) only [f_X12_small_8, f_X12_small_9, f_X12_small_10, f_X12_small_11, f_X12_small_12, smallTo_ok hn hm V e17 hM1 hF hc hd, smallAnswer_ok hn hm V e17 hM1 (show c < 6 from by omega) hd, hF.2.2 c hc, Option.bind_some, Bool.and_self, if_true]
        by_cases h0 : z = 0
        · rw [if_pos h0, if_pos h0]
          exact ok_some ⟨rfl, rfl, fun _ => ⟨a1, a2⟩, a3⟩
        · rw [if_neg h0, if_neg h0]
          exact ok_some ⟨rfl, rfl, fun _ => ⟨a1, a2⟩, a3⟩
/-- a state's home -/
noncomputable def hmo (n m : Nat) (w : aT) (s : Nat) : Nat := (ff (fk n m w) (fun i => sub (1 <<< nt s) (fs n m w i))).getD 0
theorem hmo_ok {n m : Nat} {w : aT} (hn : n ≤ 6) (hO : fOk n m w) {s : Nat} (hs : s < n) : ff (fk n m w) (fun i => sub (1 <<< nt s) (fs n m w i)) = some (hmo n m w s) ∧ hmo n m w s < fk n m w ∧ bt (fs n m w (hmo n m w s)) s = true := by
  have hex : ∃ i, i < fk n m w ∧ sub (1 <<< nt s) (fs n m w i) = true := by
    obtain ⟨i, hi, hb⟩ := fs_all hn hO hs
    refine ⟨i, hi, sub_iff.mpr ?_⟩
    intro k hk hk2
    rw [one_shl (by omega) hk] at hk2
    rw [of_decide_eq_true hk2]; exact hb
  cases e : ff (fk n m w) (fun i => sub (1 <<< nt s) (fs n m w i)) with
  | none =>
    obtain ⟨i, hi, hb⟩ := hex
    rw [ff_none.mp e i hi] at hb; cases hb
  | some i =>
    have eh : hmo n m w s = i := by unfold hmo; rw [e]; rfl
    have hf := ff_some.mp e
    rw [eh]
    refine ⟨rfl, hf.1, ?_⟩
    exact sub_iff.mp hf.2.1 s (by omega) (by rw [one_shl (by omega) (by omega), decide_eq_true rfl])
noncomputable def homeR (n m : Nat) (w : aT) (x : Int32) : Int32 := if isS n x = true then nt (hmo n m w x.toNatClampNeg) else -1
theorem homeOf_ok {n m : Nat} {w : aT} {I : xI} {J : xJ} (hn : n ≤ 6) (hF : cFw n m w (I 36 12) (I 42)) {s : Nat} (hs : s < n) : f_X1_homeOf (nt s) I J = some (nt (hmo n m w s), I, J) := by
  have hk6 := hF.1.1
  simp (disch := omega) only [f_X1_homeOf, f_X1_homeOf_0, f_X1_homeOf_1, nt_31, firstHolding_ok (show fk n m w ≤ 6 from by omega) hF.2.1, Option.bind_some]
  rw [ff_congr (q := fun i => sub (1 <<< nt s) (fs n m w i)) (fun i hi => by rw [hF.2.2 i hi]), (hmo_ok hn hF.1 hs).1]
  rfl
theorem rhomeOf_ok {n m : Nat} {w : aT} {I : xI} {J : xJ} (hn : n ≤ 6) (hF : cFw n m w (I 61 37) (I 79)) {s : Nat} (hs : s < n) : f_X12_firstWith (1 <<< nt s) I J = some (nt (hmo n m w s), I, J) := by
  have hk6 := hF.1.1
  rw [firstWith_ok (show fk n m w ≤ 6 from by omega) hF.2.1]
  rw [ff_congr (q := fun i => sub (1 <<< nt s) (fs n m w i)) (fun i hi => by rw [hF.2.2 i hi]), (hmo_ok hn hF.1 hs).1]
  rfl
theorem chome_ok {n m : Nat} {w : aT} {I : xI} {J : xJ} (hn : n ≤ 6) (hm : m ≤ 4) (V : Vd n m w) (h : cMa n m w (I 1 0) (I 1 1) (I 2) (I 3) (I 4)) (hA : caABC n m w I) (x : Int32) : Ok (f_X11_home x I J) (fun o => o.2.2 = J ∧ o.1 = homeR n m w x ∧ caABC n m w o.2.1 ∧ ∀ c j, ¬ qReg c j → o.2.1 c j = I c j) := by
  unfold f_X11_home f_X11_home_0 homeR
  rw [hasState_ok h.1 (by omega), Option.bind_some]
  unfold f_X11_home_1
  dsimp only
  cases hx : isS n x with
  | false => exact ok_some ⟨rfl, rfl, hA, fun _ _ _ => rfl⟩
  | true =>
    obtain ⟨s, hs, rfl⟩ := isS_ex (by omega) hx
    rw [nt_clamp (by omega)]
    show Ok (f_X11_home_2 (nt s) I J) _
    unfold f_X11_home_2
    apply ok_bind
    refine (fewestNow_ok hn hm V h hA).imp ?_
    rintro ⟨_, I1, J1⟩ ⟨rfl, cA, hF, a3⟩
    dsimp only at cA hF a3 ⊢
    simp only [f_X11_home_3, f_X11_home_4, f_X11_home_6, homeOf_ok hn hF hs, Option.bind_some]
    exact ok_some ⟨rfl, rfl, cA, a3⟩
theorem rhome_ok {n m : Nat} {w : aT} {I : xI} {J : xJ} (hn : n ≤ 6) (hm : m ≤ 4) (V : Vd n m w) (h0 : I 61 17 = nt n) (h1 : I 61 18 = nt m) (h : rMa n m w (I 70) 0) (hc : rCa n m w I) (x : Int32) : Ok (f_X12_home x I J) (fun o => o.2.2 = J ∧ o.1 = homeR n m w x ∧ rCa n m w o.2.1 ∧ ∀ c j, ¬ kReg c j → o.2.1 c j = I c j) := by
  unfold f_X12_home f_X12_home_0 homeR
  rw [isState_ok h0 (by omega), Option.bind_some]
  unfold f_X12_home_1
  dsimp only
  cases hx : isS n x with
  | false => exact ok_some ⟨rfl, rfl, hc, fun _ _ _ => rfl⟩
  | true =>
    obtain ⟨s, hs, rfl⟩ := isS_ex (by omega) hx
    rw [nt_clamp (by omega)]
    show Ok (f_X12_home_3 (nt s) I J) _
    unfold f_X12_home_3
    apply ok_bind
    refine (knows_ok hn hm V h0 h1 h hc).imp ?_
    rintro ⟨_, I1, J1⟩ ⟨rfl, a1, a2, a3⟩
    dsimp only at a1 a2 a3 ⊢
    simp (disch := omega) only [f_X12_home_4, f_X12_home_5, nt_31, rhomeOf_ok hn a1.2.2.2.1 hs, Option.bind_some]
    exact ok_some ⟨rfl, rfl, fun _ => ⟨a1, a2⟩, a3⟩
noncomputable def metR (n m : Nat) (w : aT) (x : Int32) : Int32 := if isS n x = true then mt n m w x.toNatClampNeg else -1
theorem cmet_ok {n m : Nat} {w : aT} {I : xI} {J : xJ} (hn : n ≤ 6) (hm : m ≤ 4) (V : Vd n m w) (h : cMa n m w (I 1 0) (I 1 1) (I 2) (I 3) (I 4)) (hA : caABC n m w I) (x : Int32) : Ok (f_X11_met x I J) (fun o => o.2.2 = J ∧ o.1 = metR n m w x ∧ caABC n m w o.2.1 ∧ ∀ c j, ¬ qReg c j → o.2.1 c j = I c j) := by
  unfold f_X11_met f_X11_met_0 metR
  rw [hasState_ok h.1 (by omega), Option.bind_some]
  unfold f_X11_met_1
  dsimp only
  cases hx : isS n x with
  | false => exact ok_some ⟨rfl, rfl, hA, fun _ _ _ => rfl⟩
  | true =>
    obtain ⟨s, hs, rfl⟩ := isS_ex (by omega) hx
    rw [nt_clamp (by omega)]
    show Ok (f_X11_met_2 (nt s) I J) _
    unfold f_X11_met_2
    apply ok_bind
    refine (fewestNow_ok hn hm V h hA).imp ?_
    rintro ⟨_, I1, J1⟩ ⟨rfl, cA, hF, a3⟩
    dsimp only at cA hF a3 ⊢
    simp only [f_X11_met_3, f_X11_met_4, f_X11_met_6, metBy_ok hn hF (show s < 32 from by omega), Option.bind_some]
    exact ok_some ⟨rfl, rfl, cA, a3⟩
theorem rmet_ok {n m : Nat} {w : aT} {I : xI} {J : xJ} (hn : n ≤ 6) (hm : m ≤ 4) (V : Vd n m w) (h0 : I 61 17 = nt n) (h1 : I 61 18 = nt m) (h : rMa n m w (I 70) 0) (hc : rCa n m w I) (x : Int32) : Ok (f_X12_met x I J) (fun o => o.2.2 = J ∧ o.1 = metR n m w x ∧ rCa n m w o.2.1 ∧ ∀ c j, ¬ kReg c j → o.2.1 c j = I c j) := by
  unfold f_X12_met f_X12_met_0 metR
  rw [isState_ok h0 (by omega), Option.bind_some]
  unfold f_X12_met_1
  dsimp only
  cases hx : isS n x with
  | false => exact ok_some ⟨rfl, rfl, hc, fun _ _ _ => rfl⟩
  | true =>
    obtain ⟨s, hs, rfl⟩ := isS_ex (by omega) hx
    rw [nt_clamp (by omega)]
    show Ok (f_X12_met_3 (nt s) I J) _
    unfold f_X12_met_3
    apply ok_bind
    refine (knows_ok hn hm V h0 h1 h hc).imp ?_
    rintro ⟨_, I1, J1⟩ ⟨rfl, a1, a2, a3⟩
    dsimp only at a1 a2 a3 ⊢
    simp (disch := omega) only [f_X12_met_4, nt_clamp, nt_le, nt_lt, nt_eq, lit_le, lit_lt, le_lit, lt_lit, eq_lit, lit_eq, nt_neg, nt_ge, nt_add, nt_mul, nt_addl, lit_add, nt_mull, lit_mul, nt_sub, nt_subl, lit_sub, nt_divl, nt_m1, nt_m2, nt_m1', nt_m2', false_or, if_neg]
    exact ok_some ⟨rfl, a1.2.2.2.2.1 s hs, fun _ => ⟨a1, a2⟩, a3⟩
/-! words -/
def dg2 (x : Int32) (j : Nat) : Nat := (if bt x (2 * j + 1) = true then 2 else 0) + (if bt x (2 * j) = true then 1 else 0)
theorem dg2_lt (x : Int32) (j : Nat) : dg2 x j < 4 := by
  unfold dg2; split <;> split <;> omega
theorem bits4 : ∀ a b : Bool, ∀ k, k < 32 → bt (nt ((if a = true then 2 else 0) + (if b = true then 1 else 0))) k = if k = 0 then b else if k = 1 then a else false := by decide
theorem bt_3 : ∀ k, k < 32 → bt 3 k = decide (k < 2) := by decide
theorem dg2_ok {x : Int32} {j : Nat} (hj : j < 15) : (x >>> nt (2 * j)) &&& 3 = nt (dg2 x j) := by
  apply bt_ext
  intro k hk
  rw [bt_and, bt_3 k hk]
  unfold dg2
  rw [bits4 _ _ k hk]
  by_cases c : k < 2
  · rw [decide_eq_true c, Bool.and_true, bt_shr (by omega) (by omega)]
    by_cases c0 : k = 0
    · rw [if_pos c0, c0, Nat.add_zero]
    · rw [if_neg c0, if_pos (by omega), show k = 1 from by omega]
  · rw [decide_eq_false c, Bool.and_false, if_neg (by omega), if_neg (by omega)]
def wOk (m : Nat) (x N : Int32) : Bool := isS 9 N && (decide (0 ≤ x) && (decide (x >>> nt (2 * N.toNatClampNeg) = 0) && al N.toNatClampNeg (fun j => decide (dg2 x j < m))))
theorem ge_neg (x : Int32) : (0 ≤ x) = ¬ (x < 0) := by
  rw [Int32.lt_iff_toInt_lt, Int32.le_iff_toInt_le]
  apply propext
  have : (0 : Int32).toInt = 0 := rfl
  omega
theorem hasWord_ok {m : Nat} {I : xI} {J : xJ} (hm : m ≤ 4) (h : I 1 1 = nt m) (x N : Int32) : f_X5_hasWord x N I J = some (bi (wOk m x N), I, J) := by
  apply Ok.eq
  unfold f_X5_hasWord f_X5_hasWord_0 wOk
  rcases nt_all N with hz | ⟨k, hk, rfl⟩
  · rw [if_pos hz, isS_neg hz]; exact ok_some rfl
  · rw [isS_nt (by omega) hk, nt_clamp hk]
    unfold f_X5_hasWord_1
    simp (disch := omega) only [nt_clamp, nt_le, nt_lt, nt_eq, lit_le, lit_lt, le_lit, lt_lit, eq_lit, lit_eq, nt_neg, nt_ge, nt_add, nt_mul, nt_addl, lit_add, nt_mull, lit_mul, nt_sub, nt_subl, lit_sub, nt_divl, nt_m1, nt_m2, nt_m1', nt_m2', if_neg]
    by_cases h8 : 8 < k
    · rw [if_pos h8, decide_eq_false (by omega)]; exact ok_some rfl
    · rw [if_neg h8, decide_eq_true (by omega)]
      unfold f_X5_hasWord_2
      by_cases hx : x < 0
      · rw [if_pos hx, decide_eq_false (by rw [ge_neg]; exact fun hh => hh hx)]; exact ok_some rfl
      · rw [if_neg hx, decide_eq_true (by rw [ge_neg]; exact hx)]
        simp (disch := omega) only [f_X5_hasWord_3, nt_clamp, nt_le, nt_lt, nt_eq, lit_le, lit_lt, le_lit, lt_lit, eq_lit, lit_eq, nt_neg, nt_ge, nt_add, nt_mul, nt_addl, lit_add, nt_mull, lit_mul, nt_sub, nt_subl, lit_sub, nt_divl, nt_m1, nt_m2, nt_m1', nt_m2', nt_31]
        by_cases hz : x >>> nt (2 * k) = 0
        · rw [if_pos hz, decide_eq_true hz]
          simp only [Bool.true_and]
          unfold f_X5_hasWord_5 f_X5_hasWord_6
          refine ok_loop (fun i s => s = (x, nt k, nt i, I, J) ∧ ∀ j, j < i → dg2 x (k - 1 - j) < m) k ?_ ?_ 5000 0 _ (by omega) (by omega) ⟨rfl, fun j hj => absurd hj (by omega)⟩
          · rintro i hi s ⟨rfl, hg⟩
            have hd := dg2_lt x (k - 1 - i)
            simp (disch := omega) only [b_X5_hasWord_6, f_X5_hasWord_7, f_X5_hasWord_8, f_X5_hasWord_9, f_X5_hasWord_11, f_X5_digitOf_0, f_X5_digitOf, nt_clamp, nt_le, nt_lt, nt_eq, lit_le, lit_lt, le_lit, lt_lit, eq_lit, lit_eq, nt_neg, nt_ge, nt_add, nt_mul, nt_addl, lit_add, nt_mull, lit_mul, nt_sub, nt_subl, lit_sub, nt_divl, nt_m1, nt_m2, nt_m1', nt_m2', if_neg, nt_31, dg2_ok, Option.bind_some, hasInput_ok h, isS_nt, bi_0]
            by_cases hc : dg2 x (k - 1 - i) < m
            · rw [decide_eq_true hc, if_neg (by decide)]
              refine ok_some ⟨rfl, ?_⟩
              intro j hj
              by_cases c : j = i
              · rw [c]; exact hc
              · exact hg j (by omega)
            · rw [decide_eq_false hc, if_pos rfl]
              simp only [f_X5_hasWord_10, Option.map_some]
              refine ok_some ?_
              rw [al_false (show k - 1 - i < k from by omega) (decide_eq_false hc)]; rfl
          · rintro s ⟨rfl, hg⟩
            simp (disch := omega) only [b_X5_hasWord_6, f_X5_hasWord_12, nt_clamp, nt_le, nt_lt, nt_eq, lit_le, lit_lt, le_lit, lt_lit, eq_lit, lit_eq, nt_neg, nt_ge, nt_add, nt_mul, nt_addl, lit_add, nt_mull, lit_mul, nt_sub, nt_subl, lit_sub, nt_divl, nt_m1, nt_m2, nt_m1', nt_m2', if_true, if_false, if_pos, if_neg, e01, e10, em12, em21, e0m1, e0m2, e1m1, e1m2, em10, em20, Int32.reduceLT, Int32.reduceLE, eq_self, Option.bind_some, Option.map_some, false_or, or_false, or_self, true_or, or_true, not_true_eq_false, not_false_eq_true, false_and, and_false, true_and, and_true]
            refine ok_some ?_
            have : al k (fun j => decide (dg2 x j < m)) = true := by
              rw [al_iff]
              intro j hj
              have := hg (k - 1 - j) (by omega)
              rw [show k - 1 - (k - 1 - j) = j from by omega] at this
              exact decide_eq_true this
            rw [this]; rfl
        · rw [if_neg hz, decide_eq_false hz]; exact ok_some rfl
theorem isWord_ok {m : Nat} {I : xI} {J : xJ} (hm : m ≤ 4) (h : I 61 18 = nt m) (x N : Int32) : f_X12_isWord x N I J = some (bi (wOk m x N), I, J) := by
  apply Ok.eq
  unfold f_X12_isWord f_X12_isWord_0 wOk
  rw [show f_X12_in N 0 8 I J = some (bi (isS 9 N), I, J) from rin_ok (n := 9) (by omega), Option.bind_some]
  unfold f_X12_isWord_1
  dsimp only
  cases hN : isS 9 N with
  | false => exact ok_some rfl
  | true =>
    obtain ⟨k, hk, rfl⟩ := isS_ex (by omega) hN
    rw [nt_clamp (by omega)]
    show Ok (f_X12_isWord_2 x (nt k) I J) _
    unfold f_X12_isWord_2
    by_cases hx : x < 0
    · rw [if_pos hx, decide_eq_false (by rw [ge_neg]; exact fun hh => hh hx)]; exact ok_some rfl
    · rw [if_neg hx, decide_eq_true (by rw [ge_neg]; exact hx)]
      simp (disch := omega) only [f_X12_isWord_3, nt_clamp, nt_le, nt_lt, nt_eq, lit_le, lit_lt, le_lit, lt_lit, eq_lit, lit_eq, nt_neg, nt_ge, nt_add, nt_mul, nt_addl, lit_add, nt_mull, lit_mul, nt_sub, nt_subl, lit_sub, nt_divl, nt_m1, nt_m2, nt_m1', nt_m2', nt_31]
      by_cases hz : x >>> nt (2 * k) = 0
      · rw [if_pos hz, decide_eq_true hz]
        simp only [Bool.true_and]
        unfold f_X12_isWord_5 f_X12_isWord_6
        refine ok_loop (fun i s => s = (x, nt k, nt i, I, J) ∧ al i (fun j => decide (dg2 x j < m)) = true) k ?_ ?_ 5000 0 _ (by omega) (by omega) ⟨rfl, rfl⟩
        · rintro i hi s ⟨rfl, hg⟩
          have hd := dg2_lt x i
          simp (disch := omega) only [b_X12_isWord_6, f_X12_isWord_7, f_X12_isWord_9, h, nt_clamp, nt_le, nt_lt, nt_eq, lit_le, lit_lt, le_lit, lt_lit, eq_lit, lit_eq, nt_neg, nt_ge, nt_add, nt_mul, nt_addl, lit_add, nt_mull, lit_mul, nt_sub, nt_subl, lit_sub, nt_divl, nt_m1, nt_m2, nt_m1', nt_m2', if_neg, nt_31, dg2_ok]
          by_cases hc : dg2 x i < m
          · rw [if_pos hc]
            refine ok_some ⟨rfl, ?_⟩
            rw [al, hg, decide_eq_true hc]; rfl
          · rw [if_neg hc]
            simp only [f_X12_isWord_8, Option.map_some]
            refine ok_some ?_
            rw [al_false hi (decide_eq_false hc)]; rfl
        · rintro s ⟨rfl, hg⟩
          simp (disch := omega) only [b_X12_isWord_6, f_X12_isWord_10, nt_clamp, nt_le, nt_lt, nt_eq, lit_le, lit_lt, le_lit, lt_lit, eq_lit, lit_eq, nt_neg, nt_ge, nt_add, nt_mul, nt_addl, lit_add, nt_mull, lit_mul, nt_sub, nt_subl, lit_sub, nt_divl, nt_m1, nt_m2, nt_m1', nt_m2', if_true, if_false, if_pos, if_neg, e01, e10, em12, em21, e0m1, e0m2, e1m1, e1m2, em10, em20, Int32.reduceLT, Int32.reduceLE, eq_self, Option.bind_some, Option.map_some, false_or, or_false, or_self, true_or, or_true, not_true_eq_false, not_false_eq_true, false_and, and_false, true_and, and_true]
          refine ok_some ?_
          rw [hg]; rfl
      · rw [if_neg hz, decide_eq_false hz]; exact ok_some rfl
