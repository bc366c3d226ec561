/-! classes of the class -/
def bcf (x : Int32) : Int32 := ((f_J6_bitCount_0f7a4 x (fun _ _ => 0) (fun _ _ => 0)).getD (0, (fun _ _ => 0), (fun _ _ => 0))).1
theorem bitCount_ok {I : xI} {J : xJ} (x : Int32) : f_J6_bitCount_0f7a4 x I J = some (bcf x, I, J) := rfl
def pcn (S : Nat) : Nat := cn 6 (fun i => S.testBit i)
theorem bcf_64 : ∀ S, S < 64 → bcf (nt S) = nt (pcn S) := by decide +kernel
theorem has2_bi {x y : Int32} {a b : Nat} (ha : a < 32) (hb : b < 32) : ((x >>> nt a) &&& (y >>> nt b)) &&& 1 = bi (bt x a && bt y b) := by
  rw [Int32.and_assoc, has_bi hb]
  apply bt_ext
  intro k hk
  rw [bt_and]
  cases eb : bt y b with
  | false => rw [show bi false = 0 from rfl, bt_zero, Bool.and_false, Bool.and_false, show bi false = 0 from rfl, bt_zero]
  | true =>
    rw [Bool.and_true, show bi true = 1 from rfl, bt_one]
    by_cases h0 : k = 0
    · rw [h0, bt_shr ha (by omega), Nat.add_zero, decide_eq_true rfl, Bool.and_true]
      cases bt x a <;> rfl
    · rw [decide_eq_false h0, Bool.and_false]
      cases bt x a with
      | false => exact (bt_zero k).symm
      | true => rw [show bi true = 1 from rfl, bt_one, decide_eq_false h0]
/-- the pairs in a set -/
def pin (n : Nat) (x : Int32) : Int32 := orf 15 (fun q => if (decide (pH q < n) && (bt x (pL q) && bt x (pH q))) = true then 1 <<< nt q else 0)
theorem pin_bt {n : Nat} {x : Int32} {q : Nat} (hq : q < 32) : bt (pin n x) q = (decide (q < 15) && (decide (pH q < n) && (bt x (pL q) && bt x (pH q)))) := by
  unfold pin
  rw [orf_bt]
  cases e : (decide (q < 15) && (decide (pH q < n) && (bt x (pL q) && bt x (pH q)))) with
  | true =>
    rw [Bool.and_eq_true] at e
    have h15 := of_decide_eq_true e.1
    refine ex_iff.mpr ⟨q, h15, ?_⟩
    rw [if_pos e.2, one_shl (by omega) hq, decide_eq_true rfl]
  | false =>
    refine ex_false.mpr ?_
    intro i hi
    by_cases c : i = q
    · rw [c] at hi ⊢
      rw [decide_eq_true hi, Bool.true_and] at e
      rw [e, if_neg (by decide), bt_zero]
    · split
      · rw [one_shl (by omega) hq, decide_eq_false (fun h => c h.symm)]
      · exact bt_zero q
theorem pairsIn_ok {n : Nat} {I : xI} {J : xJ} (hn : n ≤ 6) (h0 : I 1 0 = nt n) (x : Int32) : f_X1_pairsIn x I J = some (pin n x, I, J) := by
  apply Ok.eq
  unfold f_X1_pairsIn f_X1_pairsIn_0 f_X1_pairsIn_1
  refine ok_loop (fun a s => ∃ v z, s = (x, v, nt a, z, I, J) ∧ ∀ q, q < 32 → bt v q = (decide (q < 15) && (dn a 0 q && (decide (pH q < n) && (bt x (pL q) && bt x (pH q)))))) n ?_ ?_ 5000 0 _ (by omega) (by omega) ⟨0, none, rfl, ?_⟩
  · rintro a ha s ⟨v, z, rfl, g1⟩
    simp (disch := omega) only [b_X1_pairsIn_1, f_X1_pairsIn_2, h0, nt_clamp, nt_le, nt_lt, nt_eq, lit_le, lit_lt, le_lit, lt_lit, eq_lit, lit_eq, nt_neg, nt_ge, nt_add, nt_mul, nt_addl, lit_add, nt_mull, lit_mul, nt_sub, nt_subl, lit_sub, nt_divl, nt_m1, nt_m2, nt_m1', nt_m2', if_true, if_false, if_pos, if_neg, e01, e10, em12, em21, e0m1, e0m2, e1m1, e1m2, em10, em20, Int32.reduceLT, Int32.reduceLE, eq_self, Option.bind_some, Option.map_some, false_or, or_false, or_self, true_or, or_true, not_true_eq_false, not_false_eq_true, false_and, and_false, true_and, and_true]
    unfold f_X1_pairsIn_3
    refine ok_loop (fun b s => ∃ v, s = (x, v, nt a, nt b, I, J) ∧ a < b ∧ ∀ q, q < 32 → bt v q = (decide (q < 15) && (dn a b q && (decide (pH q < n) && (bt x (pL q) && bt x (pH q)))))) n ?_ ?_ 5000 (a + 1) _ (by omega) (by omega) ⟨v, rfl, by omega, ?_⟩
    · rintro b hb s ⟨v, rfl, hab, g2⟩
      simp (disch := omega) only [b_X1_pairsIn_3, f_X1_pairsIn_4, f_X1_pairsIn_5, f_X1_pairsIn_6, f_X1_pairsIn_7, h0, nt_clamp, nt_le, nt_lt, nt_eq, lit_le, lit_lt, le_lit, lt_lit, eq_lit, lit_eq, nt_neg, nt_ge, nt_add, nt_mul, nt_addl, lit_add, nt_mull, lit_mul, nt_sub, nt_subl, lit_sub, nt_divl, nt_m1, nt_m2, nt_m1', nt_m2', if_neg, nt_31, has2_bi, bi_1, pairOf_ok, Option.bind_some]
      have hst := dn_step a (by omega) b (by omega) hab
      have el := pX_inv a (by omega) b (by omega) hab
      have hpx := pX_lt a (by omega) b (by omega)
      cases e : (bt x a && bt x b) with
      | true =>
        rw [if_pos rfl]
        refine ok_some ⟨_, rfl, by omega, ?_⟩
        intro q hq
        rw [bt_or, g2 q hq, pm_bt (by omega) (by omega) hq, decide_eq_false (show ¬ a = b from by omega)]
        by_cases c15 : q < 15
        · rw [hst q c15]
          by_cases c : q = pX a b
          · rw [c, decide_eq_true rfl, decide_eq_true hpx, el.1, el.2, e, decide_eq_true hb]; simp
          · rw [decide_eq_false c]; simp
        · rw [decide_eq_false c15, decide_eq_false (show ¬ q = pX a b from by omega)]; simp
      | false =>
        rw [if_neg (by decide)]
        refine ok_some ⟨_, rfl, by omega, ?_⟩
        intro q hq
        rw [g2 q hq]
        by_cases c15 : q < 15
        · rw [hst q c15]
          by_cases c : q = pX a b
          · rw [c, el.1, el.2, e]; simp
          · rw [decide_eq_false c, Bool.or_false]
        · rw [decide_eq_false c15]; rfl
    · rintro s ⟨v, rfl, hab, g2⟩
      simp (disch := omega) only [b_X1_pairsIn_3, f_X1_pairsIn_8, h0, nt_clamp, nt_le, nt_lt, nt_eq, lit_le, lit_lt, le_lit, lt_lit, eq_lit, lit_eq, nt_neg, nt_ge, nt_add, nt_mul, nt_addl, lit_add, nt_mull, lit_mul, nt_sub, nt_subl, lit_sub, nt_divl, nt_m1, nt_m2, nt_m1', nt_m2', if_true, if_false, if_pos, if_neg, e01, e10, em12, em21, e0m1, e0m2, e1m1, e1m2, em10, em20, Int32.reduceLT, Int32.reduceLE, eq_self, Option.bind_some, Option.map_some, false_or, or_false, or_self, true_or, or_true, not_true_eq_false, not_false_eq_true, false_and, and_false, true_and, and_true]
      refine ok_some ⟨v, _, rfl, ?_⟩
      intro q hq
      rw [g2 q hq]
      by_cases c15 : q < 15
      · by_cases c : pH q < n
        · have : dn (a + 1) 0 q = dn a n q := by
            unfold dn
            rw [decide_eq_true c, decide_eq_false (show ¬ pH q < 0 from by omega), Bool.and_false, Bool.or_false, Bool.and_true]
            by_cases c1 : pL q < a
            · rw [decide_eq_true c1, decide_eq_true (show pL q < a + 1 from by omega)]; rfl
            · by_cases c2 : pL q = a
              · rw [decide_eq_true c2, decide_eq_true (show pL q < a + 1 from by omega), Bool.or_true]
              · rw [decide_eq_false c1, decide_eq_false c2, decide_eq_false (show ¬ pL q < a + 1 from by omega)]; rfl
          rw [this]
        · rw [decide_eq_false c]; simp
      · rw [decide_eq_false c15]; rfl
    · intro q hq
      rw [g1 q hq]
      by_cases c15 : q < 15
      · rw [dn_first a (by omega) q c15]
      · rw [decide_eq_false c15]; rfl
  · rintro s ⟨v, z, rfl, g1⟩
    simp (disch := omega) only [b_X1_pairsIn_1, f_X1_pairsIn_9, h0, nt_clamp, nt_le, nt_lt, nt_eq, lit_le, lit_lt, le_lit, lt_lit, eq_lit, lit_eq, nt_neg, nt_ge, nt_add, nt_mul, nt_addl, lit_add, nt_mull, lit_mul, nt_sub, nt_subl, lit_sub, nt_divl, nt_m1, nt_m2, nt_m1', nt_m2', if_true, if_false, if_pos, if_neg, e01, e10, em12, em21, e0m1, e0m2, e1m1, e1m2, em10, em20, Int32.reduceLT, Int32.reduceLE, eq_self, Option.bind_some, Option.map_some, false_or, or_false, or_self, true_or, or_true, not_true_eq_false, not_false_eq_true, false_and, and_false, true_and, and_true]
    refine ok_some ?_
    have : v = pin n x := by
      apply bt_ext
      intro q hq
      rw [g1 q hq, pin_bt hq]
      by_cases c15 : q < 15
      · by_cases c : pH q < n
        · have hlh := (pX_lh q c15).2.1
          unfold dn
          rw [decide_eq_true (show pL q < n from by omega)]; simp
        · rw [decide_eq_false c]; simp
      · rw [decide_eq_false c15]; rfl
    rw [this]; rfl
  · intro q hq
    rw [bt_zero]
    unfold dn
    simp
theorem pin_alk {n m : Nat} {w : aT} {v : Int32} {c33 c34 : Nat → Int32} (hn : n ≤ 6) (h : cPa m w v c33 c34) (x : Int32) : (pin n x &&& v = 0) = (alk n (rd m w) x = true) := by
  obtain ⟨_, _, h3⟩ := h
  apply propext
  rw [bt_0]
  unfold alk
  rw [al_iff]
  constructor
  · intro hz a ha
    rw [al_iff]
    intro b hb
    have hq := pX_lt b (by omega) a (by omega)
    have el := pX_inv b (by omega) a (by omega) hb
    have := hz (pX b a) (by omega)
    rw [bt_and, pin_bt (by omega), h3 _ (by omega), el.1, el.2, decide_eq_true hq, decide_eq_true ha] at this
    rw [show rdk m w 15 b a = rd m w a b from rdk_comm m w 15 b a] at this
    cases e1 : bt x a <;> cases e2 : bt x b <;> cases e3 : (rd m w a b).isSome <;> simp_all
  · intro hz q hq
    rw [bt_and, pin_bt hq, h3 q hq]
    by_cases c15 : q < 15
    · by_cases c : pH q < n
      · have hlh := pX_lh q c15
        have := al_iff.mp (hz (pH q) c) (pL q) hlh.2.1
        rw [show rd m w (pH q) (pL q) = rdk m w 15 (pL q) (pH q) from rdk_comm m w 15 _ _] at this
        cases e1 : bt x (pL q) <;> cases e2 : bt x (pH q) <;> cases e3 : (rdk m w 15 (pL q) (pH q)).isSome <;> simp_all
      · rw [decide_eq_false c]; simp
    · rw [decide_eq_false c15]; simp
theorem addClass_ok {n m : Nat} {w : aT} {I : xI} {J : xJ} (hn : n ≤ 6) (hm : m ≤ 4) (V : Vd n m w) (h : cMa n m w (I 1 0) (I 1 1) (I 2) (I 3) (I 4)) {S k W : Nat} (hS : S < 64) (hk : k < 64) (hW : W ≤ 6) (h4 : I 36 4 = nt k) (h5 : I 36 5 = nt W) : Ok (f_X1_addClass (nt S) I J) (fun o => o.2.2 = J ∧ (∀ j, o.2.1 38 j = if j = k then nt S else I 38 j) ∧ (∀ j, o.2.1 40 j = if k * 4 ≤ j ∧ j < k * 4 + m then ld n w (nt S) (j - k * 4) else I 40 j) ∧ o.2.1 36 4 = nt (k + 1) ∧ o.2.1 36 5 = nt (max W (pcn S)) ∧ ∀ c j, ¬ c = 38 → ¬ c = 40 → ¬ (c = 36 ∧ (j = 4 ∨ j = 5)) → o.2.1 c j = I c j) := by
  simp (disch := omega) only [f_X1_addClass, f_X1_addClass_0, h4, nt_clamp, nt_le, nt_lt, nt_eq, lit_le, lit_lt, le_lit, lt_lit, eq_lit, lit_eq, nt_neg, nt_ge, nt_add, nt_mul, nt_addl, lit_add, nt_mull, lit_mul, nt_sub, nt_subl, lit_sub, nt_divl, nt_m1, nt_m2, nt_m1', nt_m2', false_or, if_neg]
  unfold f_X1_addClass_1
  refine ok_loop (fun x s => ∃ I', s = (nt S, nt x, I', J) ∧ (∀ j, I' 40 j = if k * 4 ≤ j ∧ j < k * 4 + x then ld n w (nt S) (j - k * 4) else I 40 j) ∧ ∀ c j, ¬ c = 40 → I' c j = (xup I 38 k (nt S)) c j) m ?_ ?_ 5000 0 _ (by omega) (by omega) ⟨_, rfl, ?_, fun _ _ _ => rfl⟩
  · rintro x hx s ⟨I', rfl, g1, g2⟩
    have hM : cMa n m w (I' 1 0) (I' 1 1) (I' 2) (I' 3) (I' 4) := by
      have e : ∀ c, ¬ c = 40 → ¬ c = 38 → I' c = I c := fun c q1 q2 => funext fun j => by rw [g2 c j q1, xup_bj _ _ _ _ _ q2]
      rw [e 1 (by omega) (by omega), e 2 (by omega) (by omega), e 3 (by omega) (by omega), e 4 (by omega) (by omega)]
      exact h
    have hi1 : I' 1 1 = nt m := hM.2.1
    have hi4 : I' 36 4 = nt k := by rw [g2 36 4 (by omega), xup_bj _ _ _ _ _ (by omega)]; exact h4
    simp (disch := omega) only [b_X1_addClass_1, f_X1_addClass_2, f_X1_addClass_3, hi1, hi4, nt_clamp, nt_le, nt_lt, nt_eq, lit_le, lit_lt, le_lit, lt_lit, eq_lit, lit_eq, nt_neg, nt_ge, nt_add, nt_mul, nt_addl, lit_add, nt_mull, lit_mul, nt_sub, nt_subl, lit_sub, nt_divl, nt_m1, nt_m2, nt_m1', nt_m2', false_or, if_neg, leadOf_ok hn hm V hM, Option.bind_some]
    refine ok_some ⟨_, rfl, ?_, ?_⟩
    · intro j
      rw [xup_if, g1]
      by_cases c : j = k * 4 + x
      · rw [if_pos c, if_pos (by omega), show j - k * 4 = x from by omega]
      · rw [if_neg c]
        by_cases c2 : k * 4 ≤ j ∧ j < k * 4 + x
        · rw [if_pos c2, if_pos (by omega)]
        · rw [if_neg c2, if_neg (by omega)]
    · intro c j hc
      rw [xup_bj _ _ _ _ _ hc, g2 c j hc]
  · rintro s ⟨I', rfl, g1, g2⟩
    have hi1 : I' 1 1 = nt m := by rw [g2 1 1 (by omega), xup_bj _ _ _ _ _ (by omega)]; exact h.2.1
    have hi4 : I' 36 4 = nt k := by rw [g2 36 4 (by omega), xup_bj _ _ _ _ _ (by omega)]; exact h4
    have hi5 : I' 36 5 = nt W := by rw [g2 36 5 (by omega), xup_bj _ _ _ _ _ (by omega)]; exact h5
    have hp : pcn S ≤ 6 := cn_le
    simp (disch := omega) only [b_X1_addClass_1, f_X1_addClass_4, f_X1_addClass_5, hi1, hi4, hi5, nt_clamp, nt_le, nt_lt, nt_eq, lit_le, lit_lt, le_lit, lt_lit, eq_lit, lit_eq, nt_neg, nt_ge, nt_add, nt_mul, nt_addl, lit_add, nt_mull, lit_mul, nt_sub, nt_subl, lit_sub, nt_divl, nt_m1, nt_m2, nt_m1', nt_m2', if_pos, bitCount_ok, bcf_64, Option.bind_some, Option.map_some, xup_j]
    refine ok_some ?_
    show _ ∧ _
    dsimp only
    refine ⟨rfl, ?_, ?_, ?_, ?_, ?_⟩
    · intro j
      simp (disch := omega) only [xup_bj]
      rw [g2 38 j (by omega), xup_if]
    · intro j
      simp (disch := omega) only [xup_bj]
      exact g1 j
    · rw [xup_j _ _ _ _ (by omega), xup_at]
    · rw [xup_at]
      by_cases c : W < pcn S
      · rw [if_pos c, show max W (pcn S) = pcn S from by omega]
      · rw [if_neg c, show max W (pcn S) = W from by omega]
    · intro c j c1 c2 c3
      rw [xup_no _ _ _ _ (by omega), xup_no _ _ _ _ (by omega), g2 c j c2, xup_bj _ _ _ _ _ c1]
  · intro j
    rw [if_neg (by omega), xup_bj _ _ _ _ _ (by omega)]
theorem nt_or {a b : Nat} : nt a ||| nt b = nt (a ||| b) := by
  apply bt_ext
  intro k hk
  rw [bt_or, bt_nt, bt_nt, bt_nt, decide_eq_true hk, Bool.true_and, Bool.true_and, Bool.true_and, Nat.testBit_or]
theorem or_lt {n S s : Nat} (hS : S < 2 ^ n) (hs : s < n) : S ||| 2 ^ s < 2 ^ n := Nat.or_lt_two_pow hS (Nat.pow_lt_pow_right (by omega) hs)
/-- what the class's cover holds of classes -/
def cCo (n m : Nat) (w : aT) (v4 v5 v7 : Int32) (c37 c38 c39 c40 : Nat → Int32) : Prop := (∀ S, 0 < S → S < 2 ^ n → c37 S = bi (alk n (rd m w) (nt S))) ∧ v4 = nt (cls n m w).length ∧ Ls (cls n m w) c38 ∧ (∀ i S x, (cls n m w)[i]? = some S → x < m → c40 (i * 4 + x) = ld n w (nt S) x) ∧ (∃ W, v5 = nt W ∧ W ≤ 6 ∧ ∀ S, S ∈ cls n m w → pcn S ≤ W) ∧ v7 = nt (grs n m w).length ∧ Ls (grs n m w) c39
theorem cls_len {n m : Nat} {w : aT} (hn : n ≤ 6) : (cls n m w).length ≤ 63 := by
  have h64 := pow_le hn
  have hp := pow_pos2 n
  have := fl_len (pc_0 n (rd m w)) (k := 2 ^ n - 1)
  rw [show 2 ^ n - 1 + 1 = 2 ^ n from by omega] at this
  unfold cls; omega
theorem isGreatest_ok {n m : Nat} {w : aT} {I : xI} {J : xJ} (hn : n ≤ 6) (h0 : I 1 0 = nt n) (h37 : ∀ S, 0 < S → S < 2 ^ n → I 37 S = bi (alk n (rd m w) (nt S))) {S : Nat} (hS0 : 0 < S) (hS : S < 2 ^ n) : f_X1_isGreatest (nt S) I J = some (bi (!ex n (pgm n (rd m w) S)), I, J) := by
  apply Ok.eq
  have h64 := pow_le hn
  unfold f_X1_isGreatest f_X1_isGreatest_0 f_X1_isGreatest_1
  refine ok_loop (fun s t => t = (nt S, nt s, I, J) ∧ ex s (pgm n (rd m w) S) = false) n ?_ ?_ 5000 0 _ (by omega) (by omega) ⟨rfl, rfl⟩
  · rintro s hs t ⟨rfl, hg⟩
    have hlt := or_lt hS hs
    have hpos : 0 < S ||| 2 ^ s := by
      have : S ≤ S ||| 2 ^ s := Nat.left_le_or
      omega
    have h37' := h37 _ hpos hlt
    have eo : nt S ||| 1 <<< nt s = nt (S ||| 2 ^ s) := by rw [shl_nt s (by omega), nt_or]
    simp (disch := omega) only [b_X1_isGreatest_1, f_X1_isGreatest_2, f_X1_isGreatest_3, f_X1_isGreatest_5, h0, nt_clamp, nt_le, nt_lt, nt_eq, lit_le, lit_lt, le_lit, lt_lit, eq_lit, lit_eq, nt_neg, nt_ge, nt_add, nt_mul, nt_addl, lit_add, nt_mull, lit_mul, nt_sub, nt_subl, lit_sub, nt_divl, nt_m1, nt_m2, nt_m1', nt_m2', if_neg, nt_31, has_bi, bi_0, eo, false_or, h37']
    have epg : pgm n (rd m w) S s = (!bt (nt S) s && alk n (rd m w) (nt (S ||| 2 ^ s))) := by unfold pgm; rw [eo]
    cases ea : bt (nt S) s with
    | true =>
      simp only [Bool.true_eq_false, if_false]
      refine ok_some ⟨rfl, ?_⟩
      rw [ex, hg, epg, ea]; rfl
    | false =>
      simp only [if_true]
      cases eb : alk n (rd m w) (nt (S ||| 2 ^ s)) with
      | false =>
        simp only [if_true]
        refine ok_some ⟨rfl, ?_⟩
        rw [ex, hg, epg, eb, Bool.and_false]; rfl
      | true =>
        simp only [Bool.true_eq_false, if_false, f_X1_isGreatest_4, Option.map_some]
        refine ok_some ?_
        have : ex n (pgm n (rd m w) S) = true := ex_iff.mpr ⟨s, hs, by rw [epg, ea, eb]; rfl⟩
        rw [this]; rfl
  · rintro t ⟨rfl, hg⟩
    simp (disch := omega) only [b_X1_isGreatest_1, f_X1_isGreatest_6, h0, nt_clamp, nt_le, nt_lt, nt_eq, lit_le, lit_lt, le_lit, lt_lit, eq_lit, lit_eq, nt_neg, nt_ge, nt_add, nt_mul, nt_addl, lit_add, nt_mull, lit_mul, nt_sub, nt_subl, lit_sub, nt_divl, nt_m1, nt_m2, nt_m1', nt_m2', if_true, if_false, if_pos, if_neg, e01, e10, em12, em21, e0m1, e0m2, e1m1, e1m2, em10, em20, Int32.reduceLT, Int32.reduceLE, eq_self, Option.bind_some, Option.map_some, false_or, or_false, or_self, true_or, or_true, not_true_eq_false, not_false_eq_true, false_and, and_false, true_and, and_true]
    refine ok_some ?_
    rw [hg]; rfl
theorem filter_take {l : List Nat} {p : Nat → Bool} {i x : Nat} (h : l[i]? = some x) : (l.take (i + 1)).filter p = (l.take i).filter p ++ (if p x = true then [x] else []) := by
  rw [List.take_succ, h, List.filter_append]
  cases e : p x <;> simp [e]
theorem gather_ok {n m : Nat} {w : aT} {I : xI} {J : xJ} (hn : n ≤ 6) (h0 : I 1 0 = nt n) (h37 : ∀ S, 0 < S → S < 2 ^ n → I 37 S = bi (alk n (rd m w) (nt S))) (h4 : I 36 4 = nt (cls n m w).length) (h38 : Ls (cls n m w) (I 38)) : Ok (f_X1_gatherGreatest I J) (fun o => o.2.2 = J ∧ o.2.1 36 7 = nt (grs n m w).length ∧ Ls (grs n m w) (o.2.1 39) ∧ ∀ c j, ¬ c = 39 → ¬ (c = 36 ∧ j = 7) → o.2.1 c j = I c j) := by
  have hlen : (cls n m w).length ≤ 63 := cls_len hn
  unfold f_X1_gatherGreatest f_X1_gatherGreatest_0 f_X1_gatherGreatest_1
  refine ok_loop (fun i s => ∃ I', s = (nt i, I', J) ∧ I' 36 7 = nt (((cls n m w).take i).filter (fun S => !ex n (pgm n (rd m w) S))).length ∧ Ls (((cls n m w).take i).filter (fun S => !ex n (pgm n (rd m w) S))) (I' 39) ∧ ∀ c j, ¬ c = 39 → ¬ (c = 36 ∧ j = 7) → I' c j = I c j) (cls n m w).length ?_ ?_ 5000 0 _ (by omega) (by omega) ⟨_, rfl, by rw [xup_at]; rfl, fun i x hx => by simp at hx, fun c j c1 c2 => xup_no _ _ _ _ c2⟩
  · rintro i hi s ⟨I', rfl, g1, g2, g3⟩
    obtain ⟨S, hSi⟩ : ∃ S, (cls n m w)[i]? = some S := ⟨(cls n m w)[i], List.getElem?_eq_getElem hi⟩
    have hmem : S ∈ cls n m w := List.mem_of_getElem? hSi
    have hS := fl_mem.mp hmem
    have hS0 : 0 < S := by
      have := hS.2
      unfold pc at this
      rw [Bool.and_eq_true] at this
      exact of_decide_eq_true this.1
    have h0' : I' 1 0 = nt n := (g3 1 0 (by omega) (by omega)).trans h0
    have h4' : I' 36 4 = nt (cls n m w).length := (g3 36 4 (by omega) (by omega)).trans h4
    have h38' : I' 38 i = nt S := (g3 38 i (by omega) (by omega)).trans (h38 i S hSi)
    have h37' : ∀ S, 0 < S → S < 2 ^ n → I' 37 S = bi (alk n (rd m w) (nt S)) := fun S a b => (g3 37 S (by omega) (by omega)).trans (h37 S a b)
    have hlf : (((cls n m w).take i).filter (fun S => !ex n (pgm n (rd m w) S))).length ≤ i := by
      refine Nat.le_trans (List.length_filter_le _ _) ?_
      rw [List.length_take]; omega
    have hft := filter_take (p := fun S => !ex n (pgm n (rd m w) S)) hSi
    simp (disch := omega) only [b_X1_gatherGreatest_1, f_X1_gatherGreatest_2, f_X1_gatherGreatest_3, h4', nt_clamp, nt_le, nt_lt, nt_eq, lit_le, lit_lt, le_lit, lt_lit, eq_lit, lit_eq, nt_neg, nt_ge, nt_add, nt_mul, nt_addl, lit_add, nt_mull, lit_mul, nt_sub, nt_subl, lit_sub, nt_divl, nt_m1, nt_m2, nt_m1', nt_m2', false_or, if_neg, h38', isGreatest_ok hn h0' h37' hS0 hS.1, Option.bind_some, bi_0]
    cases ee : ex n (pgm n (rd m w) S) with
    | true =>
      rw [ee, if_neg (by decide), List.append_nil] at hft
      simp only [Bool.not_true, if_true, f_X1_gatherGreatest_5, nt_addl]
      refine ok_some ⟨I', rfl, ?_, ?_, g3⟩
      · rw [hft]; exact g1
      · rw [hft]; exact g2
    | false =>
      rw [ee, if_pos (by decide)] at hft
      simp (disch := omega) only [Bool.not_false, Bool.true_eq_false, if_false, f_X1_gatherGreatest_4, f_X1_gatherGreatest_5, g1, nt_clamp, nt_le, nt_lt, nt_eq, lit_le, lit_lt, le_lit, lt_lit, eq_lit, lit_eq, nt_neg, nt_ge, nt_add, nt_mul, nt_addl, lit_add, nt_mull, lit_mul, nt_sub, nt_subl, lit_sub, nt_divl, nt_m1, nt_m2, nt_m1', nt_m2', false_or, if_neg, h38', xup_bj]
      refine ok_some ⟨_, rfl, ?_, ?_, ?_⟩
      · rw [hft, xup_at, List.length_append]; rfl
      · rw [hft, xup_b _ _ _ _ (by omega)]
        exact Ls_add g2 (fun j => xup_if _ _ _ _ _)
      · intro c j c1 c2
        rw [xup_no _ _ _ _ c2, xup_bj _ _ _ _ _ c1, g3 c j c1 c2]
  · rintro s ⟨I', rfl, g1, g2, g3⟩
    have h4' : I' 36 4 = nt (cls n m w).length := (g3 36 4 (by omega) (by omega)).trans h4
    simp (disch := omega) only [b_X1_gatherGreatest_1, f_X1_gatherGreatest_6, h4', nt_clamp, nt_le, nt_lt, nt_eq, lit_le, lit_lt, le_lit, lt_lit, eq_lit, lit_eq, nt_neg, nt_ge, nt_add, nt_mul, nt_addl, lit_add, nt_mull, lit_mul, nt_sub, nt_subl, lit_sub, nt_divl, nt_m1, nt_m2, nt_m1', nt_m2', if_true, if_false, if_pos, if_neg, e01, e10, em12, em21, e0m1, e0m2, e1m1, e1m2, em10, em20, Int32.reduceLT, Int32.reduceLE, eq_self, Option.bind_some, Option.map_some, false_or, or_false, or_self, true_or, or_true, not_true_eq_false, not_false_eq_true, false_and, and_false, true_and, and_true]
    have e : ((cls n m w).take (cls n m w).length).filter (fun S => !ex n (pgm n (rd m w) S)) = grs n m w := by
      rw [List.take_length]
      unfold cls grs fl
      rw [List.filter_filter]
      congr 1
      funext S
      unfold pg
      rw [Bool.and_comm]
    rw [e] at g1 g2
    exact ok_some ⟨rfl, g1, g2, g3⟩
theorem nar_0 : vp_nar .boolean 0 = 0 := by decide
theorem nar_1 : vp_nar .boolean 1 = 1 := by decide
theorem crefr_ok {n m : Nat} {w : aT} {I : xI} {J : xJ} (hn : n ≤ 6) (hm : m ≤ 4) (V : Vd n m w) (h : cMa n m w (I 1 0) (I 1 1) (I 2) (I 3) (I 4)) (hp : cPa m w (I 32 3) (I 33) (I 34)) (hc : I 36 8 = I 1 2 → cCo n m w (I 36 4) (I 36 5) (I 36 7) (I 37) (I 38) (I 39) (I 40)) : Ok (f_X1_refresh I J) (fun o => o.2.2 = J ∧ cCo n m w (o.2.1 36 4) (o.2.1 36 5) (o.2.1 36 7) (o.2.1 37) (o.2.1 38) (o.2.1 39) (o.2.1 40) ∧ o.2.1 36 8 = I 1 2 ∧ ∀ c j, ¬ c = 37 → ¬ c = 38 → ¬ c = 39 → ¬ c = 40 → ¬ (c = 36 ∧ (j = 4 ∨ j = 5 ∨ j = 7 ∨ j = 8)) → o.2.1 c j = I c j) := by
  have h64 := pow_le hn
  have hpp := pow_pos2 n
  unfold f_X1_refresh f_X1_refresh_0
  by_cases hs : I 36 8 = I 1 2
  · rw [if_pos hs]
    exact ok_some ⟨rfl, hc hs, hs, fun _ _ _ _ _ _ _ => rfl⟩
  · rw [if_neg hs]
    unfold f_X1_refresh_2
    simp (disch := omega) only [xup_bj]
    unfold f_X1_refresh_3
    refine ok_loop (fun S s => 1 ≤ S ∧ ∃ I' W, s = (I 32 3, nt S, I', J) ∧ (∀ T, 0 < T → T < S → I' 37 T = bi (alk n (rd m w) (nt T))) ∧ I' 36 4 = nt (fl (pc n (rd m w)) S).length ∧ Ls (fl (pc n (rd m w)) S) (I' 38) ∧ (∀ i T x, (fl (pc n (rd m w)) S)[i]? = some T → x < m → I' 40 (i * 4 + x) = ld n w (nt T) x) ∧ I' 36 5 = nt W ∧ W ≤ 6 ∧ (∀ T, T ∈ fl (pc n (rd m w)) S → pcn T ≤ W) ∧ I' 36 8 = I 1 2 ∧ ∀ c j, ¬ c = 37 → ¬ c = 38 → ¬ c = 40 → ¬ (c = 36 ∧ (j = 4 ∨ j = 5 ∨ j = 8)) → I' c j = I c j) (2 ^ n) ?_ ?_ 5000 1 _ (by omega) (by omega) ⟨by omega, _, 0, rfl, ?_, ?_, ?_, ?_, ?_, by omega, ?_, ?_, ?_⟩
    · rintro S hS s ⟨hS1, I', W, rfl, g1, g2, g3, g4, g5, gW, g6, g7, g8⟩
      have h0' : I' 1 0 = nt n := (g8 1 0 (by omega) (by omega) (by omega) (by omega)).trans h.1
      have l1 : (fl (pc n (rd m w)) S).length ≤ S - 1 := by
        have := fl_len (pc_0 n (rd m w)) (k := S - 1)
        rwa [show S - 1 + 1 = S from by omega] at this
      have epc : pc n (rd m w) S = alk n (rd m w) (nt S) := by unfold pc; rw [decide_eq_true (by omega)]; rfl
      simp (disch := omega) only [b_X1_refresh_3, f_X1_refresh_4, f_X1_refresh_5, h0', nt_31, shl_nt, nt_clamp, nt_le, nt_lt, nt_eq, lit_le, lit_lt, le_lit, lt_lit, eq_lit, lit_eq, nt_neg, nt_ge, nt_add, nt_mul, nt_addl, lit_add, nt_mull, lit_mul, nt_sub, nt_subl, lit_sub, nt_divl, nt_m1, nt_m2, nt_m1', nt_m2', if_neg, pairsIn_ok hn h0', Option.bind_some, pin_alk hn hp]
      cases ea : alk n (rd m w) (nt S) with
      | false =>
        simp (disch := omega) only [Bool.false_eq_true, if_false, f_X1_refresh_7, f_X1_refresh_8, nt_clamp, nt_le, nt_lt, nt_eq, lit_le, lit_lt, le_lit, lt_lit, eq_lit, lit_eq, nt_neg, nt_ge, nt_add, nt_mul, nt_addl, lit_add, nt_mull, lit_mul, nt_sub, nt_subl, lit_sub, nt_divl, nt_m1, nt_m2, nt_m1', nt_m2', false_or, if_neg, nar_0, xup_at, if_true, f_X1_refresh_10]
        have e1 : pc n (rd m w) S = false := epc.trans ea
        refine ok_some ⟨by omega, _, W, rfl, ?_, ?_, ?_, ?_, ?_, gW, ?_, ?_, ?_⟩
        · intro T hT0 hT
          rw [xup_if]
          by_cases c : T = S
          · rw [if_pos c, c, ea]; rfl
          · rw [if_neg c]; exact g1 T hT0 (by omega)
        · rw [fl_f e1, xup_bj _ _ _ _ _ (by omega)]; exact g2
        · rw [fl_f e1, xup_b _ _ _ _ (by omega)]; exact g3
        · rw [fl_f e1, xup_b _ _ _ _ (by omega)]; exact g4
        · rw [xup_bj _ _ _ _ _ (by omega)]; exact g5
        · rw [fl_f e1]; exact g6
        · rw [xup_bj _ _ _ _ _ (by omega)]; exact g7
        · intro c j c1 c2 c3 c4
          rw [xup_bj _ _ _ _ _ c1]; exact g8 c j c1 c2 c3 c4
      | true =>
        simp (disch := omega) only [if_true, f_X1_refresh_6, f_X1_refresh_8, nt_clamp, nt_le, nt_lt, nt_eq, lit_le, lit_lt, le_lit, lt_lit, eq_lit, lit_eq, nt_neg, nt_ge, nt_add, nt_mul, nt_addl, lit_add, nt_mull, lit_mul, nt_sub, nt_subl, lit_sub, nt_divl, nt_m1, nt_m2, nt_m1', nt_m2', false_or, if_neg, nar_1, xup_at, e10, if_false, f_X1_refresh_9]
        have e1 : pc n (rd m w) S = true := epc.trans ea
        have hM : cMa n m w ((xup I' 37 S 1) 1 0) ((xup I' 37 S 1) 1 1) ((xup I' 37 S 1) 2) ((xup I' 37 S 1) 3) ((xup I' 37 S 1) 4) := by
          have e : ∀ c, ¬ c = 37 → ¬ c = 38 → ¬ c = 40 → ¬ c = 36 → I' c = I c := fun c q1 q2 q3 q4 => funext fun j => g8 c j q1 q2 q3 (by omega)
          simp (disch := omega) only [xup_b]
          rw [e 1 (by omega) (by omega) (by omega) (by omega), e 2 (by omega) (by omega) (by omega) (by omega), e 3 (by omega) (by omega) (by omega) (by omega), e 4 (by omega) (by omega) (by omega) (by omega)]
          exact h
        apply ok_bind
        refine (addClass_ok (S := S) (k := (fl (pc n (rd m w)) S).length) (W := W) hn hm V hM (by omega) (by omega) gW ?_ ?_).imp ?_
        · rw [xup_bj _ _ _ _ _ (by omega)]; exact g2
        · rw [xup_bj _ _ _ _ _ (by omega)]; exact g5
        · rintro ⟨_, I1, J1⟩ ⟨rfl, a1, a2, a3, a4, a5⟩
          dsimp only at a1 a2 a3 a4 a5 ⊢
          simp only [f_X1_refresh_10, nt_addl]
          have hpS : pcn S ≤ 6 := cn_le
          refine ok_some ⟨by omega, I1, max W (pcn S), rfl, ?_, ?_, ?_, ?_, a4, by omega, ?_, ?_, ?_⟩
          · intro T hT0 hT
            rw [a5 37 T (by omega) (by omega) (by omega), xup_if]
            by_cases c : T = S
            · rw [if_pos c, c, ea]; rfl
            · rw [if_neg c]; exact g1 T hT0 (by omega)
          · rw [fl_t e1, a3, List.length_append]; rfl
          · rw [fl_t e1]
            refine Ls_add g3 (fun j => ?_)
            rw [a1 j, xup_bj _ _ _ _ _ (by omega)]
          · rw [fl_t e1]
            intro i T x hi hx
            rw [a2]
            by_cases c : i = (fl (pc n (rd m w)) S).length
            · rw [if_pos (by omega), show i * 4 + x - (fl (pc n (rd m w)) S).length * 4 = x from by omega]
              rw [c, List.getElem?_append_right (by omega)] at hi
              simp at hi
              rw [hi]
            · have hl : i < (fl (pc n (rd m w)) S ++ [S]).length := by
                rw [List.getElem?_eq_some_iff] at hi
                exact hi.1
              rw [List.length_append] at hl
              simp at hl
              rw [List.getElem?_append_left (by omega)] at hi
              rw [if_neg (by omega), xup_bj _ _ _ _ _ (by omega)]
              exact g4 i T x hi hx
          · intro T hT
            rw [fl_t e1, List.mem_append] at hT
            rcases hT with hT | hT
            · have := g6 T hT; omega
            · rw [List.mem_singleton] at hT
              rw [hT]; omega
          · rw [a5 36 8 (by omega) (by omega) (by omega), xup_bj _ _ _ _ _ (by omega)]; exact g7
          · intro c j c1 c2 c3 c4
            rw [a5 c j c2 c3 (by omega), xup_bj _ _ _ _ _ c1]; exact g8 c j c1 c2 c3 c4
    · rintro s ⟨hS1, I', W, rfl, g1, g2, g3, g4, g5, gW, g6, g7, g8⟩
      have h0' : I' 1 0 = nt n := (g8 1 0 (by omega) (by omega) (by omega) (by omega)).trans h.1
      simp (disch := omega) only [b_X1_refresh_3, f_X1_refresh_11, f_X1_refresh_12, h0', nt_31, shl_nt, nt_clamp, nt_le, nt_lt, nt_eq, lit_le, lit_lt, le_lit, lt_lit, eq_lit, lit_eq, nt_neg, nt_ge, nt_add, nt_mul, nt_addl, lit_add, nt_mull, lit_mul, nt_sub, nt_subl, lit_sub, nt_divl, nt_m1, nt_m2, nt_m1', nt_m2', if_pos]
      apply ok_map
      apply ok_bind
      refine (gather_ok hn h0' g1 g2 g3).imp ?_
      rintro ⟨_, I1, J1⟩ ⟨rfl, a1, a2, a3⟩
      dsimp only at a1 a2 a3 ⊢
      refine ok_some ?_
      show _ ∧ _
      dsimp only
      have f37 : I1 37 = I' 37 := funext fun j => a3 37 j (by omega) (by omega)
      have f38 : I1 38 = I' 38 := funext fun j => a3 38 j (by omega) (by omega)
      have f40 : I1 40 = I' 40 := funext fun j => a3 40 j (by omega) (by omega)
      refine ⟨rfl, ⟨?_, ?_, ?_, ?_, ⟨W, ?_, gW, g6⟩, a1, a2⟩, ?_, ?_⟩
      · rw [f37]; exact g1
      · rw [a3 36 4 (by omega) (by omega)]; exact g2
      · rw [f38]; exact g3
      · rw [f40]; exact g4
      · rw [a3 36 5 (by omega) (by omega)]; exact g5
      · rw [a3 36 8 (by omega) (by omega)]; exact g7
      · intro c j c1 c2 c3 c4 c5
        rw [a3 c j c3 (by omega)]; exact g8 c j c1 c2 c4 (by omega)
    · intro T hT0 hT; omega
    · rw [fl_f (pc_0 n _), xup_j _ _ _ _ (by omega), xup_at]; rfl
    · rw [fl_f (pc_0 n _)]; intro i x hx; cases hx
    · rw [fl_f (pc_0 n _)]; intro i T x hx; cases hx
    · rw [xup_at]; rfl
    · rw [fl_f (pc_0 n _)]; intro T hT; cases hT
    · rw [xup_j _ _ _ _ (by omega), xup_j _ _ _ _ (by omega), xup_at]
    · intro c j c1 c2 c3 c4
      rw [xup_no _ _ _ _ (by omega), xup_no _ _ _ _ (by omega), xup_no _ _ _ _ (by omega)]
