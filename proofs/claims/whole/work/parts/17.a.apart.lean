/-! apart and word -/
def caA (m : Nat) (w : aT) (I : xI) : Prop := I 32 4 = I 1 2 → cPa m w (I 32 3) (I 33) (I 34)
def pReg (c j : Nat) : Prop := c = 33 ∨ c = 34 ∨ (c = 32 ∧ (j = 3 ∨ j = 4))
def rCa (n m : Nat) (w : aT) (I : xI) : Prop := ¬ I 61 29 = 0 → rKn n m w I ∧ I 61 29 = 1
theorem pairsNow_ok {n m : Nat} {w : aT} {I : xI} {J : xJ} (hn : n ≤ 6) (hm : m ≤ 4) (V : Vd n m w) (h : cMa n m w (I 1 0) (I 1 1) (I 2) (I 3) (I 4)) (hA : caA m w I) : Ok (f_X11_pairsNow I J) (fun o => o.2.2 = J ∧ cPa m w (o.2.1 32 3) (o.2.1 33) (o.2.1 34) ∧ ∀ c j, ¬ pReg c j → o.2.1 c j = I c j) := by
  unfold f_X11_pairsNow f_X11_pairsNow_0
  apply ok_bind
  refine (refresh_ok hn hm V h hA).imp ?_
  rintro ⟨_, I1, J1⟩ ⟨rfl, a1, a2, a3⟩
  exact ok_some ⟨rfl, a1, fun c j hr => a3 c j (by unfold pReg at hr; omega) (by unfold pReg at hr; omega) (by unfold pReg at hr; omega)⟩
theorem cMa_fr {n m : Nat} {w : aT} {I I' : xI} (h : cMa n m w (I 1 0) (I 1 1) (I 2) (I 3) (I 4)) (hf : ∀ c j, 1 ≤ c → c ≤ 4 → I' c j = I c j) : cMa n m w (I' 1 0) (I' 1 1) (I' 2) (I' 3) (I' 4) := by
  have e : ∀ c, 1 ≤ c → c ≤ 4 → I' c = I c := fun c h1 h2 => funext fun j => hf c j h1 h2
  rw [e 1 (by omega) (by omega), e 2 (by omega) (by omega), e 3 (by omega) (by omega), e 4 (by omega) (by omega)]
  exact h
theorem roundIn_ok {m : Nat} {w : aT} {I : xI} {J : xJ} (hp : cPa m w (I 32 3) (I 33) (I 34)) {a b : Nat} (ha : a < 6) (hb : b < 6) : f_X6_roundIn (pm a b) I J = some (ov (rd m w a b), I, J) := by
  obtain ⟨_, h2, _⟩ := hp
  simp only [f_X6_roundIn, f_X6_roundIn_0, f_X6_roundIn_1, f_X6_roundIn_4, pm_0 ha hb]
  by_cases e : a = b
  · rw [if_pos e, e]
    have : rd m w b b = none := rdk_self m w 15 b
    rw [this]; rfl
  · rw [if_neg e]
    have hx := pX_lt a ha b hb
    have e34 := h2 (pX a b) hx
    rw [rdk_px m w 15 ha hb e] at e34
    simp (disch := omega) only [f_X6_roundIn_2, pm_ne a ha b hb e, ntz_ok, Option.bind_some, f_X6_roundIn_3, f_X6_roundIn_4, nt_clamp, nt_le, nt_lt, nt_eq, lit_le, lit_lt, le_lit, lt_lit, eq_lit, lit_eq, nt_neg, nt_ge, nt_add, nt_mul, nt_addl, lit_add, nt_mull, lit_mul, nt_sub, nt_subl, lit_sub, nt_divl, nt_m1, nt_m2, nt_m1', nt_m2', false_or, if_neg, e34]
    rfl
theorem roundOf_ok {m : Nat} {w : aT} {I : xI} {J : xJ} (hp : cPa m w (I 32 3) (I 33) (I 34)) {a b : Nat} (ha : a < 6) (hb : b < 6) : f_X6_roundOf (nt a) (nt b) I J = some (ov (rd m w a b), I, J) := by
  simp (disch := omega) only [f_X6_roundOf, f_X6_roundOf_0, f_X6_roundOf_1, f_X6_roundOf_2, pairOf_ok, roundIn_ok hp ha hb, Option.bind_some]
def apartR (n m : Nat) (w : aT) (x y z : Int32) : Int32 := if (isS n x && isS n y && isS 2 z) = true then (if z = 1 then ov (rd m w x.toNatClampNeg y.toNatClampNeg) else bi (rd m w x.toNatClampNeg y.toNatClampNeg).isSome) else -1
theorem capart_ok {n m : Nat} {w : aT} {I : xI} {J : xJ} (hn : n ≤ 6) (hm : m ≤ 4) (V : Vd n m w) (h : cMa n m w (I 1 0) (I 1 1) (I 2) (I 3) (I 4)) (hA : caA m w I) (x y z : Int32) : Ok (f_X11_apart x y z I J) (fun o => o.2.2 = J ∧ o.1 = apartR n m w x y z ∧ caA m w o.2.1 ∧ ∀ c j, ¬ pReg c j → o.2.1 c j = I c j) := by
  unfold f_X11_apart f_X11_apart_0 apartR
  rw [hasState_ok h.1 (by omega), Option.bind_some]
  unfold f_X11_apart_1
  dsimp only
  cases hx : isS n x with
  | false => exact ok_some ⟨rfl, rfl, hA, fun _ _ _ => rfl⟩
  | true =>
    show Ok (f_X11_apart_2 x y z I J) _
    unfold f_X11_apart_2
    rw [hasState_ok h.1 (by omega), Option.bind_some]
    unfold f_X11_apart_3
    dsimp only
    cases hy : isS n y with
    | false => exact ok_some ⟨rfl, rfl, hA, fun _ _ _ => rfl⟩
    | true =>
      show Ok (f_X11_apart_4 x y z I J) _
      unfold f_X11_apart_4
      rcases nt_all z with hz | ⟨k, hk, rfl⟩
      · rw [if_pos hz, isS_neg hz]
        exact ok_some ⟨rfl, rfl, hA, fun _ _ _ => rfl⟩
      · rw [isS_nt (by omega) hk]
        unfold f_X11_apart_5
        simp (disch := omega) only [nt_clamp, nt_le, nt_lt, nt_eq, lit_le, lit_lt, le_lit, lt_lit, eq_lit, lit_eq, nt_neg, nt_ge, nt_add, nt_mul, nt_addl, lit_add, nt_mull, lit_mul, nt_sub, nt_subl, lit_sub, nt_divl, nt_m1, nt_m2, nt_m1', nt_m2', if_true, if_false, if_pos, if_neg, e01, e10, em12, em21, e0m1, e0m2, e1m1, e1m2, em10, em20, Int32.reduceLT, Int32.reduceLE, eq_self, Option.bind_some, Option.map_some, false_or, or_false, or_self, true_or, or_true, not_true_eq_false, not_false_eq_true, false_and, and_false, true_and, and_true]
        by_cases hc : k ≤ 1
        · rw [if_pos hc, decide_eq_true (by omega)]
          unfold f_X11_apart_7
          apply ok_bind
          refine (pairsNow_ok hn hm V h hA).imp ?_
          rintro ⟨_, I1, J1⟩ ⟨rfl, a1, a2⟩
          dsimp only at a1 a2 ⊢
          obtain ⟨a, ha, rfl⟩ := isS_ex (by omega) hx
          obtain ⟨b, hb, rfl⟩ := isS_ex (by omega) hy
          rw [nt_clamp (by omega), nt_clamp (by omega)]
          simp (disch := omega) only [f_X11_apart_8, f_X11_apart_9, f_X11_apart_10, f_X11_apart_11, f_X11_apart_12, f_X11_apart_13, f_X11_apart_14, roundOf_ok a1 (show a < 6 from by omega) (show b < 6 from by omega), Option.bind_some, nt_clamp, nt_le, nt_lt, nt_eq, lit_le, lit_lt, le_lit, lt_lit, eq_lit, lit_eq, nt_neg, nt_ge, nt_add, nt_mul, nt_addl, lit_add, nt_mull, lit_mul, nt_sub, nt_subl, lit_sub, nt_divl, nt_m1, nt_m2, nt_m1', nt_m2', Bool.and_self, if_true]
          by_cases h1 : k = 1
          · rw [if_pos h1, if_pos h1]
            exact ok_some ⟨rfl, rfl, fun _ => a1, a2⟩
          · rw [if_neg h1, if_neg h1]
            cases er : rd m w a b with
            | none =>
              simp only [ov_n, if_true]
              exact ok_some ⟨rfl, rfl, fun _ => a1, a2⟩
            | some r =>
              have := rdk_le m w er
              simp (disch := omega) only [ov_s, nt_clamp, nt_le, nt_lt, nt_eq, lit_le, lit_lt, le_lit, lt_lit, eq_lit, lit_eq, nt_neg, nt_ge, nt_add, nt_mul, nt_addl, lit_add, nt_mull, lit_mul, nt_sub, nt_subl, lit_sub, nt_divl, nt_m1, nt_m2, nt_m1', nt_m2', if_false]
              exact ok_some ⟨rfl, rfl, fun _ => a1, a2⟩
        · rw [if_neg hc, decide_eq_false (by omega)]
          exact ok_some ⟨rfl, rfl, hA, fun _ _ _ => rfl⟩
theorem rapart_ok {n m : Nat} {w : aT} {I : xI} {J : xJ} (hn : n ≤ 6) (hm : m ≤ 4) (V : Vd n m w) (h0 : I 61 17 = nt n) (h1 : I 61 18 = nt m) (h : rMa n m w (I 70) 0) (hc : rCa n m w I) (x y z : Int32) : Ok (f_X12_apart x y z I J) (fun o => o.2.2 = J ∧ o.1 = apartR n m w x y z ∧ rCa n m w o.2.1 ∧ ∀ c j, ¬ kReg c j → o.2.1 c j = I c j) := by
  unfold f_X12_apart f_X12_apart_0 apartR
  rw [isState_ok h0 (by omega), Option.bind_some]
  unfold f_X12_apart_1
  dsimp only
  cases hx : isS n x with
  | false => exact ok_some ⟨rfl, rfl, hc, fun _ _ _ => rfl⟩
  | true =>
    show Ok (f_X12_apart_2 x y z I J) _
    unfold f_X12_apart_2
    rw [isState_ok h0 (by omega), Option.bind_some]
    unfold f_X12_apart_3
    dsimp only
    cases hy : isS n y with
    | false => exact ok_some ⟨rfl, rfl, hc, fun _ _ _ => rfl⟩
    | true =>
      show Ok (f_X12_apart_4 x y z I J) _
      unfold f_X12_apart_4
      rw [rin1_ok, Option.bind_some]
      unfold f_X12_apart_5
      dsimp only
      cases hz : isS 2 z with
      | false => exact ok_some ⟨rfl, rfl, hc, fun _ _ _ => rfl⟩
      | true =>
        show Ok (f_X12_apart_7 x y z I J) _
        unfold f_X12_apart_7
        apply ok_bind
        refine (knows_ok hn hm V h0 h1 h hc).imp ?_
        rintro ⟨_, I1, J1⟩ ⟨rfl, a1, a2, a3⟩
        dsimp only at a1 a2 a3 ⊢
        obtain ⟨a, ha, rfl⟩ := isS_ex (by omega) hx
        obtain ⟨b, hb, rfl⟩ := isS_ex (by omega) hy
        have e76 := a1.1 a b (by omega) (by omega)
        rw [nt_clamp (by omega), nt_clamp (by omega)]
        simp (disch := omega) only [f_X12_apart_8, f_X12_apart_9, f_X12_apart_10, f_X12_apart_11, f_X12_apart_12, f_X12_apart_13, nt_clamp, nt_le, nt_lt, nt_eq, lit_le, lit_lt, le_lit, lt_lit, eq_lit, lit_eq, nt_neg, nt_ge, nt_add, nt_mul, nt_addl, lit_add, nt_mull, lit_mul, nt_sub, nt_subl, lit_sub, nt_divl, nt_m1, nt_m2, nt_m1', nt_m2', false_or, if_neg, e76, Bool.and_self, if_true]
        by_cases hz1 : z = 1
        · rw [if_pos hz1, if_pos hz1]
          exact ok_some ⟨rfl, rfl, fun _ => ⟨a1, a2⟩, a3⟩
        · rw [if_neg hz1, if_neg hz1]
          cases er : rd m w a b with
          | none =>
            simp only [ov_n, Int32.reduceLE, if_false]
            exact ok_some ⟨rfl, rfl, fun _ => ⟨a1, a2⟩, a3⟩
          | some r =>
            have := rdk_le m w er
            simp (disch := omega) only [ov_s, nt_clamp, nt_le, nt_lt, nt_eq, lit_le, lit_lt, le_lit, lt_lit, eq_lit, lit_eq, nt_neg, nt_ge, nt_add, nt_mul, nt_addl, lit_add, nt_mull, lit_mul, nt_sub, nt_subl, lit_sub, nt_divl, nt_m1, nt_m2, nt_m1', nt_m2', if_true]
            exact ok_some ⟨rfl, rfl, fun _ => ⟨a1, a2⟩, a3⟩
/-- whether an input takes two a round down -/
def dwn (m : Nat) (w : aT) (a b r x : Nat) : Bool := match r with
  | 0 => unl w a b x
  | r + 1 => hit (rd m w) w a b x r
def nxi (m : Nat) (w : aT) (a b : Nat) : Nat := (ff m (dwn m w a b ((rd m w a b).getD 0))).getD 0
theorem dwn_ex {n m : Nat} {w : aT} {a b r : Nat} (h : rd m w a b = some r) : ∃ x, ff m (dwn m w a b r) = some x ∧ x < m ∧ nxi m w a b = x := by
  have hex : ∃ x, x < m ∧ dwn m w a b r x = true := by
    have h1 := rdk_down m w h
    rcases r with _ | r
    · unfold rdk at h1
      split at h1
      · rename_i hx
        obtain ⟨x, hx, hu⟩ := ex_iff.mp hx
        exact ⟨x, hx, hu⟩
      · cases h1
    · obtain ⟨_, x, hx, p, q, e1, e2, e3⟩ := rdk_new h1
      have hr := rdk_le m w h
      have e4 := rdk_up m w e3 (15 - r)
      rw [show r + (15 - r) = 15 from by omega] at e4
      exact ⟨x, hx, hit_iff.mpr ⟨p, q, e1, e2, e4⟩⟩
  cases e : ff m (dwn m w a b r) with
  | none =>
    obtain ⟨x, hx, hd⟩ := hex
    rw [ff_none.mp e x hx] at hd; cases hd
  | some x =>
    refine ⟨x, rfl, (ff_some.mp e).1, ?_⟩
    unfold nxi
    rw [h]
    show (ff m (dwn m w a b r)).getD 0 = x
    rw [e]; rfl
theorem dwn_step {n m : Nat} {w : aT} {a b r : Nat} (h : rd m w a b = some (r + 1)) : ∃ p q, w.1 a (nxi m w a b) = some p ∧ w.1 b (nxi m w a b) = some q ∧ rd m w p q = some r := by
  obtain ⟨x, hx, _, he⟩ := dwn_ex (n := n) h
  rw [he]
  have := (ff_some.mp hx).2.1
  exact hit_iff.mp this
theorem firstInput_ok {n m : Nat} {w : aT} {I : xI} {J : xJ} (hn : n ≤ 6) (hm : m ≤ 4) (V : Vd n m w) (h : cMa n m w (I 1 0) (I 1 1) (I 2) (I 3) (I 4)) (hp : cPa m w (I 32 3) (I 33) (I 34)) {a b r : Nat} (hr : rd m w a b = some r) : f_X6_firstInput (nt a) (nt b) I J = some (nt (nxi m w a b), I, J) := by
  apply Ok.eq
  have hab := rdk_rng V hr
  have hr15 := rdk_le m w hr
  obtain ⟨x0, hff, hx0, hnx⟩ := dwn_ex (n := n) hr
  have hffs := ff_some.mp hff
  have h1 := h.2.1
  simp (disch := omega) only [f_X6_firstInput, f_X6_firstInput_0, f_X6_firstInput_1, f_X6_firstInput_2, f_X6_firstInput_3, f_X6_firstInput_5, f_X6_firstInput_6, hasState_ok h.1, isS_nt, decide_eq_true, Option.bind_some, bi_0, Bool.true_eq_false, if_false, roundOf_ok hp (show a < 6 from by omega) (show b < 6 from by omega), hr, ov_s]
  unfold f_X6_firstInput_7
  have dn_eq : ∀ x, x < m → ∀ z5, f_X6_firstInput_8 (nt a) (nt b) (nt r) (nt x) z5 I J = f_X6_firstInput_16 (nt a) (nt b) (nt r) (nt x) z5 (bi (dwn m w a b r x)) I J := by
    intro x hx z5
    rcases r with _ | r
    · simp (disch := omega) only [f_X6_firstInput_8, f_X6_firstInput_9, f_X6_firstInput_10, nt_clamp, nt_le, nt_lt, nt_eq, lit_le, lit_lt, le_lit, lt_lit, eq_lit, lit_eq, nt_neg, nt_ge, nt_add, nt_mul, nt_addl, lit_add, nt_mull, lit_mul, nt_sub, nt_subl, lit_sub, nt_divl, nt_m1, nt_m2, nt_m1', nt_m2', if_pos, isUnlike_ok hn hm V h, Option.bind_some]
      rfl
    · simp (disch := omega) only [f_X6_firstInput_8, f_X6_firstInput_11, f_X6_firstInput_12, f_X6_firstInput_13, f_X6_firstInput_14, f_X6_firstInput_15, nt_clamp, nt_le, nt_lt, nt_eq, lit_le, lit_lt, le_lit, lt_lit, eq_lit, lit_eq, nt_neg, nt_ge, nt_add, nt_mul, nt_addl, lit_add, nt_mull, lit_mul, nt_sub, nt_subl, lit_sub, nt_divl, nt_m1, nt_m2, nt_m1', nt_m2', if_neg, stepOf_ok hn hm V h, Option.bind_some]
      show _ = f_X6_firstInput_16 (nt a) (nt b) (nt (r + 1)) (nt x) z5 (bi (hit (rd m w) w a b x r)) I J
      unfold sp hit
      cases ea : w.1 a x with
      | none =>
        simp only [f_X6_roundIn, f_X6_roundIn_0, f_X6_roundIn_1, f_X6_roundIn_4, if_true, Option.bind_some]
        rw [if_neg (by rw [show nt (r + 1 - 1) = nt r from rfl, nt_m2' (by omega)]; exact id)]
        rfl
      | some p =>
        have hp1 := (V.1 a x p ea).2.2
        cases eb : w.1 b x with
        | none =>
          simp only [f_X6_roundIn, f_X6_roundIn_0, f_X6_roundIn_1, f_X6_roundIn_4, if_true, Option.bind_some]
          rw [if_neg (by rw [show nt (r + 1 - 1) = nt r from rfl, nt_m2' (by omega)]; exact id)]
          rfl
        | some q =>
          have hq1 := (V.1 b x q eb).2.2
          dsimp only
          rw [roundIn_ok hp (by omega) (by omega), Option.bind_some]
          dsimp only
          rw [show nt (r + 1 - 1) = ov (some r) from rfl]
          have e := ov_eq (a := rd m w p q) (b := some r) (fun k hk => by have := rdk_le m w hk; omega) (fun k hk => by cases hk; omega)
          simp only [e]
          by_cases c : rd m w p q = some r
          · rw [if_pos c, decide_eq_true c]; rfl
          · rw [if_neg c, decide_eq_false c]; rfl
  refine ok_loop (fun x s => ∃ z5, s = (nt a, nt b, nt r, nt x, z5, I, J) ∧ x ≤ x0) x0 ?_ ?_ 5000 0 _ (by omega) (by omega) ⟨none, rfl, by omega⟩
  · rintro x hx s ⟨z5, rfl, hle⟩
    simp (disch := omega) only [b_X6_firstInput_7, h1, nt_clamp, nt_le, nt_lt, nt_eq, lit_le, lit_lt, le_lit, lt_lit, eq_lit, lit_eq, nt_neg, nt_ge, nt_add, nt_mul, nt_addl, lit_add, nt_mull, lit_mul, nt_sub, nt_subl, lit_sub, nt_divl, nt_m1, nt_m2, nt_m1', nt_m2', if_neg, dn_eq x (by omega)]
    rw [hffs.2.2 x hx]
    simp only [f_X6_firstInput_16, bi_0, if_true, f_X6_firstInput_18, nt_addl]
    exact ok_some ⟨_, rfl, by omega⟩
  · rintro s ⟨z5, rfl, hle⟩
    simp (disch := omega) only [b_X6_firstInput_7, h1, nt_clamp, nt_le, nt_lt, nt_eq, lit_le, lit_lt, le_lit, lt_lit, eq_lit, lit_eq, nt_neg, nt_ge, nt_add, nt_mul, nt_addl, lit_add, nt_mull, lit_mul, nt_sub, nt_subl, lit_sub, nt_divl, nt_m1, nt_m2, nt_m1', nt_m2', if_neg, dn_eq x0 hx0]
    rw [hffs.2.1]
    simp only [f_X6_firstInput_16, bi_0, Bool.true_eq_false, if_false, f_X6_firstInput_17, Option.map_some]
    refine ok_some ?_
    rw [hnx]; rfl
theorem nextInput_ok {n m : Nat} {w : aT} {I : xI} {J : xJ} (hn : n ≤ 6) (hm : m ≤ 4) (V : Vd n m w) (h : rMa n m w (I 70) 0) (hR : cR (rd m w) (I 76)) {a b r : Nat} (hr : rd m w a b = some r) : f_X12_nextInput (nt a) (nt b) I J = some (nt (nxi m w a b), I, J) := by
  apply Ok.eq
  have hab := rdk_rng V hr
  have hr15 := rdk_le m w hr
  obtain ⟨x0, hff, hx0, hnx⟩ := dwn_ex (n := n) hr
  have hffs := ff_some.mp hff
  have e76 := hR a b (by omega) (by omega)
  rw [hr, ov_s] at e76
  simp (disch := omega) only [f_X12_nextInput, f_X12_nextInput_0, nt_clamp, nt_le, nt_lt, nt_eq, lit_le, lit_lt, le_lit, lt_lit, eq_lit, lit_eq, nt_neg, nt_ge, nt_add, nt_mul, nt_addl, lit_add, nt_mull, lit_mul, nt_sub, nt_subl, lit_sub, nt_divl, nt_m1, nt_m2, nt_m1', nt_m2', false_or, if_neg, e76]
  unfold f_X12_nextInput_1
  have dn_eq : ∀ x, x < m → b_X12_nextInput_1 (nt a) (nt b) (nt r) (nt x) I J = if dwn m w a b r x = true then some (.inr (nt x, I, J)) else some (.inl (nt a, nt b, nt r, nt (x + 1), I, J)) := by
    intro x hx
    rcases r with _ | r
    · simp (disch := omega) only [b_X12_nextInput_1, f_X12_nextInput_2, f_X12_nextInput_3, f_X12_nextInput_4, f_X12_nextInput_12, f_X12_nextInput_13, nt_clamp, nt_le, nt_lt, nt_eq, lit_le, lit_lt, le_lit, lt_lit, eq_lit, lit_eq, nt_neg, nt_ge, nt_add, nt_mul, nt_addl, lit_add, nt_mull, lit_mul, nt_sub, nt_subl, lit_sub, nt_divl, nt_m1, nt_m2, nt_m1', nt_m2', if_pos, areUnlike_ok hn hm V h hab.1 hab.2 hx, Option.bind_some, bi_0, Option.map_some]
      show _ = if unl w a b x = true then _ else _
      cases unl w a b x <;> rfl
    · simp (disch := omega) only [b_X12_nextInput_1, f_X12_nextInput_5, f_X12_nextInput_6, f_X12_nextInput_7, f_X12_nextInput_8, f_X12_nextInput_12, nt_clamp, nt_le, nt_lt, nt_eq, lit_le, lit_lt, le_lit, lt_lit, eq_lit, lit_eq, nt_neg, nt_ge, nt_add, nt_mul, nt_addl, lit_add, nt_mull, lit_mul, nt_sub, nt_subl, lit_sub, nt_divl, nt_m1, nt_m2, nt_m1', nt_m2', if_neg, to_ok hn hm h hab.1 hx, to_ok hn hm h hab.2 hx, Option.bind_some]
      show _ = if hit (rd m w) w a b x r = true then _ else _
      unfold hit
      cases ea : w.1 a x with
      | none => rfl
      | some p =>
        have hp1 := (V.1 a x p ea).2.2
        cases eb : w.1 b x with
        | none =>
          simp (disch := omega) only [ov_s, ov_n, nt_clamp, nt_le, nt_lt, nt_eq, lit_le, lit_lt, le_lit, lt_lit, eq_lit, lit_eq, nt_neg, nt_ge, nt_add, nt_mul, nt_addl, lit_add, nt_mull, lit_mul, nt_sub, nt_subl, lit_sub, nt_divl, nt_m1, nt_m2, nt_m1', nt_m2', if_false, Int32.reduceLT, if_true]
          rfl
        | some q =>
          have hq1 := (V.1 b x q eb).2.2
          have epq := hR p q (by omega) (by omega)
          simp (disch := omega) only [ov_s, nt_clamp, nt_le, nt_lt, nt_eq, lit_le, lit_lt, le_lit, lt_lit, eq_lit, lit_eq, nt_neg, nt_ge, nt_add, nt_mul, nt_addl, lit_add, nt_mull, lit_mul, nt_sub, nt_subl, lit_sub, nt_divl, nt_m1, nt_m2, nt_m1', nt_m2', if_false, f_X12_nextInput_9, f_X12_nextInput_10, f_X12_nextInput_11, f_X12_nextInput_12, f_X12_nextInput_13, to_ok hn hm h hab.1 hx, to_ok hn hm h hab.2 hx, ea, eb, Option.bind_some, false_or, if_neg, epq, Option.map_some]
          rw [show nt (r + 1 - 1) = ov (some r) from rfl]
          have e := ov_eq (a := rd m w p q) (b := some r) (fun k hk => by have := rdk_le m w hk; omega) (fun k hk => by cases hk; omega)
          simp only [e]
          by_cases c : rd m w p q = some r
          · rw [if_pos c, if_pos (decide_eq_true c)]
          · rw [if_neg c, if_neg (by rw [decide_eq_false c]; decide)]
  refine ok_loop (fun x s => s = (nt a, nt b, nt r, nt x, I, J)) x0 ?_ ?_ 5000 0 _ (by omega) (by omega) rfl
  · rintro x hx s rfl
    dsimp only
    rw [dn_eq x (by omega), hffs.2.2 x hx, if_neg (by decide)]
    exact ok_some rfl
  · rintro s rfl
    dsimp only
    rw [dn_eq x0 hx0, hffs.2.1, if_pos rfl]
    refine ok_some ?_
    rw [hnx]; rfl
/-- where two have gone by the first k of their word -/
def wst (m : Nat) (w : aT) (a b : Nat) : Nat → Nat × Nat
  | 0 => (a, b)
  | k + 1 => ((w.1 (wst m w a b k).1 (nxi m w (wst m w a b k).1 (wst m w a b k).2)).getD 0, (w.1 (wst m w a b k).2 (nxi m w (wst m w a b k).1 (wst m w a b k).2)).getD 0)
theorem wst_rd {n m : Nat} {w : aT} {a b r : Nat} (h : rd m w a b = some r) : ∀ k, k ≤ r → rd m w (wst m w a b k).1 (wst m w a b k).2 = some (r - k) := by
  intro k
  induction k with
  | zero => intro _; exact h
  | succ k ih =>
    intro hk
    have h1 := ih (by omega)
    rw [show r - k = (r - (k + 1)) + 1 from by omega] at h1
    obtain ⟨p, q, e1, e2, e3⟩ := dwn_step (n := n) h1
    unfold wst
    rw [e1, e2]
    exact e3
theorem wst_to {n m : Nat} {w : aT} {a b r : Nat} (h : rd m w a b = some r) {k : Nat} (hk : k < r) : w.1 (wst m w a b k).1 (nxi m w (wst m w a b k).1 (wst m w a b k).2) = some (wst m w a b (k + 1)).1 ∧ w.1 (wst m w a b k).2 (nxi m w (wst m w a b k).1 (wst m w a b k).2) = some (wst m w a b (k + 1)).2 := by
  have h1 := wst_rd (n := n) h k (by omega)
  rw [show r - k = (r - (k + 1)) + 1 from by omega] at h1
  obtain ⟨p, q, e1, e2, e3⟩ := dwn_step (n := n) h1
  have e4 : (wst m w a b (k + 1)).1 = p := by unfold wst; rw [e1]; rfl
  have e5 : (wst m w a b (k + 1)).2 = q := by unfold wst; rw [e2]; rfl
  rw [e1, e2, e4, e5]
  exact ⟨rfl, rfl⟩
def wdi (m : Nat) (w : aT) (a b k : Nat) : Nat := nxi m w (wst m w a b k).1 (wst m w a b k).2
theorem wdi_lt {n m : Nat} {w : aT} {a b r k : Nat} (h : rd m w a b = some r) (hk : k ≤ r) : wdi m w a b k < m := by
  obtain ⟨x, _, hx, he⟩ := dwn_ex (n := n) (wst_rd (n := n) h k hk)
  unfold wdi; rw [he]; exact hx
def wordR (n m : Nat) (w : aT) (x y i : Int32) : Int32 := if (isS n x && isS n y) = true then (match rd m w x.toNatClampNeg y.toNatClampNeg with
  | none => -2
  | some r => if i = -1 then nt (r + 1) else if isS (r + 1) i = true then nt (wdi m w x.toNatClampNeg y.toNatClampNeg i.toNatClampNeg) else -1) else -1
theorem wordInput_ok {n m : Nat} {w : aT} {I : xI} {J : xJ} (hn : n ≤ 6) (hm : m ≤ 4) (V : Vd n m w) (h : cMa n m w (I 1 0) (I 1 1) (I 2) (I 3) (I 4)) (hp : cPa m w (I 32 3) (I 33) (I 34)) {a b r i : Nat} (hr : rd m w a b = some r) (hi : i ≤ r) : f_X6_wordInput (nt a) (nt b) (nt i) I J = some (nt (wdi m w a b i), I, J) := by
  apply Ok.eq
  have hr15 := rdk_le m w hr
  simp (disch := omega) only [f_X6_wordInput, f_X6_wordInput_0, f_X6_wordInput_1, firstInput_ok hn hm V h hp hr, Option.bind_some]
  unfold f_X6_wordInput_2
  refine ok_loop (fun k s => s = (nt a, nt b, nt i, nt (wst m w a b k).1, nt (wst m w a b k).2, nt (wdi m w a b k), nt k, I, J)) i ?_ ?_ 5000 0 _ (by omega) (by omega) rfl
  · rintro k hk s rfl
    have hk1 := wst_rd (n := n) hr k (by omega)
    have hk2 := wst_rd (n := n) hr (k + 1) (by omega)
    have hg := rdk_rng V hk1
    have hto := wst_to (n := n) hr (show k < r from by omega)
    have hw := wdi_lt (n := n) hr (show k ≤ r from by omega)
    rw [show nxi m w (wst m w a b k).1 (wst m w a b k).2 = wdi m w a b k from rfl] at hto
    simp (disch := omega) only [b_X6_wordInput_2, f_X6_wordInput_3, f_X6_wordInput_4, f_X6_wordInput_5, f_X6_wordInput_6, nt_clamp, nt_le, nt_lt, nt_eq, lit_le, lit_lt, le_lit, lt_lit, eq_lit, lit_eq, nt_neg, nt_ge, nt_add, nt_mul, nt_addl, lit_add, nt_mull, lit_mul, nt_sub, nt_subl, lit_sub, nt_divl, nt_m1, nt_m2, nt_m1', nt_m2', if_neg, targetOf_ok hn hm V h, hto.1, hto.2, ov_s, Option.bind_some, firstInput_ok hn hm V h hp hk2]
    exact ok_some rfl
  · rintro s rfl
    simp (disch := omega) only [b_X6_wordInput_2, f_X6_wordInput_7, nt_clamp, nt_le, nt_lt, nt_eq, lit_le, lit_lt, le_lit, lt_lit, eq_lit, lit_eq, nt_neg, nt_ge, nt_add, nt_mul, nt_addl, lit_add, nt_mull, lit_mul, nt_sub, nt_subl, lit_sub, nt_divl, nt_m1, nt_m2, nt_m1', nt_m2', if_true, if_false, if_pos, if_neg, e01, e10, em12, em21, e0m1, e0m2, e1m1, e1m2, em10, em20, Int32.reduceLT, Int32.reduceLE, eq_self, Option.bind_some, Option.map_some, false_or, or_false, or_self, true_or, or_true, not_true_eq_false, not_false_eq_true, false_and, and_false, true_and, and_true]
    exact ok_some rfl
theorem cword_ok {n m : Nat} {w : aT} {I : xI} {J : xJ} (hn : n ≤ 6) (hm : m ≤ 4) (V : Vd n m w) (h : cMa n m w (I 1 0) (I 1 1) (I 2) (I 3) (I 4)) (hA : caA m w I) (x y i : Int32) : Ok (f_X11_word x y i I J) (fun o => o.2.2 = J ∧ o.1 = wordR n m w x y i ∧ caA m w o.2.1 ∧ ∀ c j, ¬ pReg c j → o.2.1 c j = I c j) := by
  unfold f_X11_word f_X11_word_0 wordR
  rw [hasState_ok h.1 (by omega), Option.bind_some]
  unfold f_X11_word_1
  dsimp only
  cases hx : isS n x with
  | false => exact ok_some ⟨rfl, rfl, hA, fun _ _ _ => rfl⟩
  | true =>
    show Ok (f_X11_word_2 x y i I J) _
    unfold f_X11_word_2
    rw [hasState_ok h.1 (by omega), Option.bind_some]
    unfold f_X11_word_3
    dsimp only
    cases hy : isS n y with
    | false => exact ok_some ⟨rfl, rfl, hA, fun _ _ _ => rfl⟩
    | true =>
      show Ok (f_X11_word_5 x y i I J) _
      unfold f_X11_word_5
      apply ok_bind
      refine (pairsNow_ok hn hm V h hA).imp ?_
      rintro ⟨_, I1, J1⟩ ⟨rfl, a1, a2⟩
      dsimp only at a1 a2 ⊢
      have hM1 := cMa_fr h (fun c j h1 h2 => a2 c j (by unfold pReg; omega))
      obtain ⟨a, ha, rfl⟩ := isS_ex (by omega) hx
      obtain ⟨b, hb, rfl⟩ := isS_ex (by omega) hy
      rw [nt_clamp (by omega), nt_clamp (by omega)]
      simp (disch := omega) only [f_X11_word_6, f_X11_word_7, f_X11_word_8, f_X11_word_9, f_X11_word_10, roundOf_ok a1 (show a < 6 from by omega) (show b < 6 from by omega), Option.bind_some, Bool.and_self, if_true]
      cases er : rd m w a b with
      | none =>
        simp only [ov_n, if_true]
        exact ok_some ⟨rfl, rfl, fun _ => a1, a2⟩
      | some r =>
        have hr15 := rdk_le m w er
        simp (disch := omega) only [ov_s, nt_clamp, nt_le, nt_lt, nt_eq, lit_le, lit_lt, le_lit, lt_lit, eq_lit, lit_eq, nt_neg, nt_ge, nt_add, nt_mul, nt_addl, lit_add, nt_mull, lit_mul, nt_sub, nt_subl, lit_sub, nt_divl, nt_m1, nt_m2, nt_m1', nt_m2', if_false]
        by_cases hi1 : i = -1
        · rw [if_pos hi1, if_pos hi1]
          exact ok_some ⟨rfl, rfl, fun _ => a1, a2⟩
        · rw [if_neg hi1, if_neg hi1]
          unfold f_X11_word_11
          rcases nt_all i with hz | ⟨k, hk, rfl⟩
          · rw [if_pos hz, isS_neg hz]
            exact ok_some ⟨rfl, rfl, fun _ => a1, a2⟩
          · rw [isS_nt (by omega) hk, nt_clamp hk]
            unfold f_X11_word_12
            simp (disch := omega) only [nt_clamp, nt_le, nt_lt, nt_eq, lit_le, lit_lt, le_lit, lt_lit, eq_lit, lit_eq, nt_neg, nt_ge, nt_add, nt_mul, nt_addl, lit_add, nt_mull, lit_mul, nt_sub, nt_subl, lit_sub, nt_divl, nt_m1, nt_m2, nt_m1', nt_m2', if_false]
            by_cases hkr : r + 1 ≤ k
            · rw [if_pos hkr, decide_eq_false (by omega)]
              exact ok_some ⟨rfl, rfl, fun _ => a1, a2⟩
            · rw [if_neg hkr, decide_eq_true (by omega)]
              simp (disch := omega) only [f_X11_word_13, f_X11_word_14, f_X11_word_16, wordInput_ok hn hm V hM1 a1 er (show k ≤ r from by omega), Option.bind_some]
              exact ok_some ⟨rfl, rfl, fun _ => a1, a2⟩
theorem rword_ok {n m : Nat} {w : aT} {I : xI} {J : xJ} (hn : n ≤ 6) (hm : m ≤ 4) (V : Vd n m w) (h0 : I 61 17 = nt n) (h1 : I 61 18 = nt m) (h : rMa n m w (I 70) 0) (hc : rCa n m w I) (x y i : Int32) : Ok (f_X12_word x y i I J) (fun o => o.2.2 = J ∧ o.1 = wordR n m w x y i ∧ rCa n m w o.2.1 ∧ ∀ c j, ¬ kReg c j → o.2.1 c j = I c j) := by
  unfold f_X12_word f_X12_word_0 wordR
  rw [isState_ok h0 (by omega), Option.bind_some]
  unfold f_X12_word_1
  dsimp only
  cases hx : isS n x with
  | false => exact ok_some ⟨rfl, rfl, hc, fun _ _ _ => rfl⟩
  | true =>
    show Ok (f_X12_word_2 x y i I J) _
    unfold f_X12_word_2
    rw [isState_ok h0 (by omega), Option.bind_some]
    unfold f_X12_word_3
    dsimp only
    cases hy : isS n y with
    | false => exact ok_some ⟨rfl, rfl, hc, fun _ _ _ => rfl⟩
    | true =>
      show Ok (f_X12_word_5 x y i I J) _
      unfold f_X12_word_5
      apply ok_bind
      refine (knows_ok hn hm V h0 h1 h hc).imp ?_
      rintro ⟨_, I1, J1⟩ ⟨rfl, a1, a2, a3⟩
      dsimp only at a1 a2 a3 ⊢
      obtain ⟨a, ha, rfl⟩ := isS_ex (by omega) hx
      obtain ⟨b, hb, rfl⟩ := isS_ex (by omega) hy
      have e76 := a1.1 a b (by omega) (by omega)
      have e70 : I1 70 = I 70 := funext fun j => a3 70 j (by unfold kReg; omega)
      have hM1 : rMa n m w (I1 70) 0 := by rw [e70]; exact h
      rw [nt_clamp (by omega), nt_clamp (by omega)]
      simp (disch := omega) only [f_X12_word_6, f_X12_word_7, nt_clamp, nt_le, nt_lt, nt_eq, lit_le, lit_lt, le_lit, lt_lit, eq_lit, lit_eq, nt_neg, nt_ge, nt_add, nt_mul, nt_addl, lit_add, nt_mull, lit_mul, nt_sub, nt_subl, lit_sub, nt_divl, nt_m1, nt_m2, nt_m1', nt_m2', false_or, if_neg, e76, Bool.and_self, if_true]
      cases er : rd m w a b with
      | none =>
        simp only [ov_n, Int32.reduceLE, if_false]
        exact ok_some ⟨rfl, rfl, fun _ => ⟨a1, a2⟩, a3⟩
      | some r =>
        have hr15 := rdk_le m w er
        simp (disch := omega) only [ov_s, nt_clamp, nt_le, nt_lt, nt_eq, lit_le, lit_lt, le_lit, lt_lit, eq_lit, lit_eq, nt_neg, nt_ge, nt_add, nt_mul, nt_addl, lit_add, nt_mull, lit_mul, nt_sub, nt_subl, lit_sub, nt_divl, nt_m1, nt_m2, nt_m1', nt_m2', if_true, f_X12_word_8, f_X12_word_9]
        by_cases hi1 : i = -1
        · rw [if_pos hi1, if_pos hi1]
          exact ok_some ⟨rfl, rfl, fun _ => ⟨a1, a2⟩, a3⟩
        · rw [if_neg hi1, if_neg hi1]
          unfold f_X12_word_10
          have ein : f_X12_in i 0 (nt r) I1 J1 = some (bi (isS (r + 1) i), I1, J1) := by
            have := rin_ok (v := i) (n := r + 1) (I := I1) (J := J1) (by omega)
            rw [nt_m1s (by omega)] at this
            exact this
          rw [ein, Option.bind_some]
          unfold f_X12_word_11
          dsimp only
          cases hi : isS (r + 1) i with
          | false => exact ok_some ⟨rfl, rfl, fun _ => ⟨a1, a2⟩, a3⟩
          | true =>
            obtain ⟨k, hk, rfl⟩ := isS_ex (by omega) hi
            rw [nt_clamp (by omega)]
            show Ok (f_X12_word_13 (nt a) (nt b) (nt k) (nt a) (nt b) (nt r) I1 J1) _
            unfold f_X12_word_13 f_X12_word_14
            refine ok_loop (fun l s => ∃ z8 z9, s = (nt a, nt b, nt k, nt (wst m w a b l).1, nt (wst m w a b l).2, nt r, nt l, z8, z9, I1, J1)) k ?_ ?_ 5000 0 _ (by omega) (by omega) ⟨none, none, rfl⟩
            · rintro l hl s ⟨z8, z9, rfl⟩
              have hk1 := wst_rd (n := n) er l (by omega)
              have hg := rdk_rng V hk1
              have hto := wst_to (n := n) er (show l < r from by omega)
              have hw := wdi_lt (n := n) er (show l ≤ r from by omega)
              rw [show nxi m w (wst m w a b l).1 (wst m w a b l).2 = wdi m w a b l from rfl] at hto
              have hni := nextInput_ok (J := J1) hn hm V hM1 a1.1 hk1
              rw [show nxi m w (wst m w a b l).1 (wst m w a b l).2 = wdi m w a b l from rfl] at hni
              simp (disch := omega) only [b_X12_word_14, f_X12_word_15, f_X12_word_16, f_X12_word_17, f_X12_word_18, nt_clamp, nt_le, nt_lt, nt_eq, lit_le, lit_lt, le_lit, lt_lit, eq_lit, lit_eq, nt_neg, nt_ge, nt_add, nt_mul, nt_addl, lit_add, nt_mull, lit_mul, nt_sub, nt_subl, lit_sub, nt_divl, nt_m1, nt_m2, nt_m1', nt_m2', if_neg, hni, Option.bind_some, to_ok hn hm hM1 hg.1 hw, to_ok hn hm hM1 hg.2 hw, hto.1, hto.2, ov_s]
              exact ok_some ⟨_, _, rfl⟩
            · rintro s ⟨z8, z9, rfl⟩
              have hk1 := wst_rd (n := n) er k (by omega)
              have hni := nextInput_ok (J := J1) hn hm V hM1 a1.1 hk1
              simp (disch := omega) only [b_X12_word_14, f_X12_word_19, f_X12_word_20, nt_clamp, nt_le, nt_lt, nt_eq, lit_le, lit_lt, le_lit, lt_lit, eq_lit, lit_eq, nt_neg, nt_ge, nt_add, nt_mul, nt_addl, lit_add, nt_mull, lit_mul, nt_sub, nt_subl, lit_sub, nt_divl, nt_m1, nt_m2, nt_m1', nt_m2', if_pos, hni, Option.bind_some, Option.map_some]
              exact ok_some ⟨rfl, rfl, fun _ => ⟨a1, a2⟩, a3⟩
