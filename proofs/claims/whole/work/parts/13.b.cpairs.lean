/-! pairs of the class -/
theorem fill33_ok {I : xI} {J : xJ} (v : Int32) : Ok (f_J7_fill_53178_33 v I J) (fun o => o.2.2 = J ∧ (∀ j, o.2.1 33 j = if j < 15 then v else I 33 j) ∧ ∀ a j, ¬ a = 33 → o.2.1 a j = I a j) := by
  unfold f_J7_fill_53178_33 f_J7_fill_53178_33_0 f_J7_fill_53178_33_1
  refine ok_loop (fun k s => ∃ I', s = (v, nt k, nt 15, I', J) ∧ (∀ j, I' 33 j = if j < k then v else I 33 j) ∧ ∀ a j, ¬ a = 33 → I' a j = I a j) 15 ?_ ?_ 5000 0 _ (by omega) (by omega) ⟨I, rfl, fun j => by rw [if_neg (by omega)], fun _ _ _ => rfl⟩
  · rintro k hk s ⟨I', rfl, h1, h2⟩
    simp (disch := omega) only [f_J7_fill_53178_33_3, f_J7_fill_53178_33_2, b_J7_fill_53178_33_1, f_J7_fill_53178_33_0, f_J7_fill_53178_33, nt_clamp, nt_le, nt_lt, nt_eq, lit_le, lit_lt, le_lit, lt_lit, eq_lit, lit_eq, nt_neg, nt_ge, nt_add, nt_mul, nt_addl, lit_add, nt_mull, lit_mul, nt_sub, nt_subl, lit_sub, nt_divl, nt_m1, nt_m2, nt_m1', nt_m2', if_true, if_false, if_pos, if_neg, e01, e10, em12, em21, e0m1, e0m2, e1m1, e1m2, em10, em20, Int32.reduceLT, Int32.reduceLE, eq_self, Option.bind_some, Option.map_some, false_or, or_false, or_self, true_or, or_true, not_true_eq_false, not_false_eq_true, false_and, and_false, true_and, and_true]
    refine ok_some ⟨_, rfl, ?_, ?_⟩
    · intro j
      rw [xup_if, h1]
      by_cases hj : j = k
      · rw [if_pos hj, if_pos (by omega)]
      · rw [if_neg hj]
        by_cases hc : j < k
        · rw [if_pos hc, if_pos (by omega)]
        · rw [if_neg hc, if_neg (by omega)]
    · intro a j ha
      rw [xup_bj _ _ _ _ _ ha, h2 a j ha]
  · rintro s ⟨I', rfl, h1, h2⟩
    simp (disch := omega) only [f_J7_fill_53178_33_3, f_J7_fill_53178_33_2, b_J7_fill_53178_33_1, f_J7_fill_53178_33_0, f_J7_fill_53178_33, nt_clamp, nt_le, nt_lt, nt_eq, lit_le, lit_lt, le_lit, lt_lit, eq_lit, lit_eq, nt_neg, nt_ge, nt_add, nt_mul, nt_addl, lit_add, nt_mull, lit_mul, nt_sub, nt_subl, lit_sub, nt_divl, nt_m1, nt_m2, nt_m1', nt_m2', if_true, if_false, if_pos, if_neg, e01, e10, em12, em21, e0m1, e0m2, e1m1, e1m2, em10, em20, Int32.reduceLT, Int32.reduceLE, eq_self, Option.bind_some, Option.map_some, false_or, or_false, or_self, true_or, or_true, not_true_eq_false, not_false_eq_true, false_and, and_false, true_and, and_true]
    exact ok_some ⟨rfl, h1, h2⟩
theorem fill34_ok {I : xI} {J : xJ} (v : Int32) : Ok (f_J7_fill_53178_34 v I J) (fun o => o.2.2 = J ∧ (∀ j, o.2.1 34 j = if j < 15 then v else I 34 j) ∧ ∀ a j, ¬ a = 34 → o.2.1 a j = I a j) := by
  unfold f_J7_fill_53178_34 f_J7_fill_53178_34_0 f_J7_fill_53178_34_1
  refine ok_loop (fun k s => ∃ I', s = (v, nt k, nt 15, I', J) ∧ (∀ j, I' 34 j = if j < k then v else I 34 j) ∧ ∀ a j, ¬ a = 34 → I' a j = I a j) 15 ?_ ?_ 5000 0 _ (by omega) (by omega) ⟨I, rfl, fun j => by rw [if_neg (by omega)], fun _ _ _ => rfl⟩
  · rintro k hk s ⟨I', rfl, h1, h2⟩
    simp (disch := omega) only [f_J7_fill_53178_34_3, f_J7_fill_53178_34_2, b_J7_fill_53178_34_1, f_J7_fill_53178_34_0, f_J7_fill_53178_34, nt_clamp, nt_le, nt_lt, nt_eq, lit_le, lit_lt, le_lit, lt_lit, eq_lit, lit_eq, nt_neg, nt_ge, nt_add, nt_mul, nt_addl, lit_add, nt_mull, lit_mul, nt_sub, nt_subl, lit_sub, nt_divl, nt_m1, nt_m2, nt_m1', nt_m2', if_true, if_false, if_pos, if_neg, e01, e10, em12, em21, e0m1, e0m2, e1m1, e1m2, em10, em20, Int32.reduceLT, Int32.reduceLE, eq_self, Option.bind_some, Option.map_some, false_or, or_false, or_self, true_or, or_true, not_true_eq_false, not_false_eq_true, false_and, and_false, true_and, and_true]
    refine ok_some ⟨_, rfl, ?_, ?_⟩
    · intro j
      rw [xup_if, h1]
      by_cases hj : j = k
      · rw [if_pos hj, if_pos (by omega)]
      · rw [if_neg hj]
        by_cases hc : j < k
        · rw [if_pos hc, if_pos (by omega)]
        · rw [if_neg hc, if_neg (by omega)]
    · intro a j ha
      rw [xup_bj _ _ _ _ _ ha, h2 a j ha]
  · rintro s ⟨I', rfl, h1, h2⟩
    simp (disch := omega) only [f_J7_fill_53178_34_3, f_J7_fill_53178_34_2, b_J7_fill_53178_34_1, f_J7_fill_53178_34_0, f_J7_fill_53178_34, nt_clamp, nt_le, nt_lt, nt_eq, lit_le, lit_lt, le_lit, lt_lit, eq_lit, lit_eq, nt_neg, nt_ge, nt_add, nt_mul, nt_addl, lit_add, nt_mull, lit_mul, nt_sub, nt_subl, lit_sub, nt_divl, nt_m1, nt_m2, nt_m1', nt_m2', if_true, if_false, if_pos, if_neg, e01, e10, em12, em21, e0m1, e0m2, e1m1, e1m2, em10, em20, Int32.reduceLT, Int32.reduceLE, eq_self, Option.bind_some, Option.map_some, false_or, or_false, or_self, true_or, or_true, not_true_eq_false, not_false_eq_true, false_and, and_false, true_and, and_true]
    exact ok_some ⟨rfl, h1, h2⟩
theorem fill2_ok {I : xI} {J : xJ} (v : Int32) : Ok (f_J7_fill_53178_2 v I J) (fun o => o.2.2 = J ∧ (∀ j, o.2.1 2 j = if j < 24 then v else I 2 j) ∧ ∀ a j, ¬ a = 2 → o.2.1 a j = I a j) := by
  unfold f_J7_fill_53178_2 f_J7_fill_53178_2_0 f_J7_fill_53178_2_1
  refine ok_loop (fun k s => ∃ I', s = (v, nt k, nt 24, I', J) ∧ (∀ j, I' 2 j = if j < k then v else I 2 j) ∧ ∀ a j, ¬ a = 2 → I' a j = I a j) 24 ?_ ?_ 5000 0 _ (by omega) (by omega) ⟨I, rfl, fun j => by rw [if_neg (by omega)], fun _ _ _ => rfl⟩
  · rintro k hk s ⟨I', rfl, h1, h2⟩
    simp (disch := omega) only [f_J7_fill_53178_2_3, f_J7_fill_53178_2_2, b_J7_fill_53178_2_1, f_J7_fill_53178_2_0, f_J7_fill_53178_2, nt_clamp, nt_le, nt_lt, nt_eq, lit_le, lit_lt, le_lit, lt_lit, eq_lit, lit_eq, nt_neg, nt_ge, nt_add, nt_mul, nt_addl, lit_add, nt_mull, lit_mul, nt_sub, nt_subl, lit_sub, nt_divl, nt_m1, nt_m2, nt_m1', nt_m2', if_true, if_false, if_pos, if_neg, e01, e10, em12, em21, e0m1, e0m2, e1m1, e1m2, em10, em20, Int32.reduceLT, Int32.reduceLE, eq_self, Option.bind_some, Option.map_some, false_or, or_false, or_self, true_or, or_true, not_true_eq_false, not_false_eq_true, false_and, and_false, true_and, and_true]
    refine ok_some ⟨_, rfl, ?_, ?_⟩
    · intro j
      rw [xup_if, h1]
      by_cases hj : j = k
      · rw [if_pos hj, if_pos (by omega)]
      · rw [if_neg hj]
        by_cases hc : j < k
        · rw [if_pos hc, if_pos (by omega)]
        · rw [if_neg hc, if_neg (by omega)]
    · intro a j ha
      rw [xup_bj _ _ _ _ _ ha, h2 a j ha]
  · rintro s ⟨I', rfl, h1, h2⟩
    simp (disch := omega) only [f_J7_fill_53178_2_3, f_J7_fill_53178_2_2, b_J7_fill_53178_2_1, f_J7_fill_53178_2_0, f_J7_fill_53178_2, nt_clamp, nt_le, nt_lt, nt_eq, lit_le, lit_lt, le_lit, lt_lit, eq_lit, lit_eq, nt_neg, nt_ge, nt_add, nt_mul, nt_addl, lit_add, nt_mull, lit_mul, nt_sub, nt_subl, lit_sub, nt_divl, nt_m1, nt_m2, nt_m1', nt_m2', if_true, if_false, if_pos, if_neg, e01, e10, em12, em21, e0m1, e0m2, e1m1, e1m2, em10, em20, Int32.reduceLT, Int32.reduceLE, eq_self, Option.bind_some, Option.map_some, false_or, or_false, or_self, true_or, or_true, not_true_eq_false, not_false_eq_true, false_and, and_false, true_and, and_true]
    exact ok_some ⟨rfl, h1, h2⟩
theorem fill3_ok {I : xI} {J : xJ} (v : Int32) : Ok (f_J7_fill_53178_3 v I J) (fun o => o.2.2 = J ∧ (∀ j, o.2.1 3 j = if j < 24 then v else I 3 j) ∧ ∀ a j, ¬ a = 3 → o.2.1 a j = I a j) := by
  unfold f_J7_fill_53178_3 f_J7_fill_53178_3_0 f_J7_fill_53178_3_1
  refine ok_loop (fun k s => ∃ I', s = (v, nt k, nt 24, I', J) ∧ (∀ j, I' 3 j = if j < k then v else I 3 j) ∧ ∀ a j, ¬ a = 3 → I' a j = I a j) 24 ?_ ?_ 5000 0 _ (by omega) (by omega) ⟨I, rfl, fun j => by rw [if_neg (by omega)], fun _ _ _ => rfl⟩
  · rintro k hk s ⟨I', rfl, h1, h2⟩
    simp (disch := omega) only [f_J7_fill_53178_3_3, f_J7_fill_53178_3_2, b_J7_fill_53178_3_1, f_J7_fill_53178_3_0, f_J7_fill_53178_3, nt_clamp, nt_le, nt_lt, nt_eq, lit_le, lit_lt, le_lit, lt_lit, eq_lit, lit_eq, nt_neg, nt_ge, nt_add, nt_mul, nt_addl, lit_add, nt_mull, lit_mul, nt_sub, nt_subl, lit_sub, nt_divl, nt_m1, nt_m2, nt_m1', nt_m2', if_true, if_false, if_pos, if_neg, e01, e10, em12, em21, e0m1, e0m2, e1m1, e1m2, em10, em20, Int32.reduceLT, Int32.reduceLE, eq_self, Option.bind_some, Option.map_some, false_or, or_false, or_self, true_or, or_true, not_true_eq_false, not_false_eq_true, false_and, and_false, true_and, and_true]
    refine ok_some ⟨_, rfl, ?_, ?_⟩
    · intro j
      rw [xup_if, h1]
      by_cases hj : j = k
      · rw [if_pos hj, if_pos (by omega)]
      · rw [if_neg hj]
        by_cases hc : j < k
        · rw [if_pos hc, if_pos (by omega)]
        · rw [if_neg hc, if_neg (by omega)]
    · intro a j ha
      rw [xup_bj _ _ _ _ _ ha, h2 a j ha]
  · rintro s ⟨I', rfl, h1, h2⟩
    simp (disch := omega) only [f_J7_fill_53178_3_3, f_J7_fill_53178_3_2, b_J7_fill_53178_3_1, f_J7_fill_53178_3_0, f_J7_fill_53178_3, nt_clamp, nt_le, nt_lt, nt_eq, lit_le, lit_lt, le_lit, lt_lit, eq_lit, lit_eq, nt_neg, nt_ge, nt_add, nt_mul, nt_addl, lit_add, nt_mull, lit_mul, nt_sub, nt_subl, lit_sub, nt_divl, nt_m1, nt_m2, nt_m1', nt_m2', if_true, if_false, if_pos, if_neg, e01, e10, em12, em21, e0m1, e0m2, e1m1, e1m2, em10, em20, Int32.reduceLT, Int32.reduceLE, eq_self, Option.bind_some, Option.map_some, false_or, or_false, or_self, true_or, or_true, not_true_eq_false, not_false_eq_true, false_and, and_false, true_and, and_true]
    exact ok_some ⟨rfl, h1, h2⟩
/-- the bit of two -/
def pm (a b : Nat) : Int32 := zst1000 (a * 6 + b)
theorem pm_ne : ∀ a, a < 6 → ∀ b, b < 6 → ¬ a = b → pm a b = 1 <<< nt (pX a b) := by decide
theorem pm_self : ∀ a, a < 6 → pm a a = 0 := by decide
theorem pm_bt {a b q : Nat} (ha : a < 6) (hb : b < 6) (hq : q < 32) : bt (pm a b) q = (!decide (a = b) && decide (q = pX a b)) := by
  by_cases e : a = b
  · rw [e, pm_self b hb, bt_zero, decide_eq_true rfl]; rfl
  · rw [pm_ne a ha b hb e, one_shl (by have := pX_lt a ha b hb; omega) hq, decide_eq_false e]; rfl
theorem pm_0 {a b : Nat} (ha : a < 6) (hb : b < 6) : (pm a b = 0) = (a = b) := by
  apply propext
  constructor
  · intro h
    by_cases e : a = b
    · exact e
    · have h1 := pm_bt (q := pX a b) ha hb (by have := pX_lt a ha b hb; omega)
      rw [h, bt_zero, decide_eq_false e, decide_eq_true rfl] at h1
      cases h1
  · intro e; rw [e]; exact pm_self b hb
theorem pairOf_ok {I : xI} {J : xJ} {a b : Nat} (ha : a < 6) (hb : b < 6) : f_X11_pairOf (nt a) (nt b) I J = some (pm a b, I, J) := by
  simp (disch := omega) only [f_X11_pairOf_4, f_X11_pairOf_3, f_X11_pairOf_2, f_X11_pairOf_1, f_X11_pairOf_0, f_X11_pairOf, nt_clamp, nt_le, nt_lt, nt_eq, lit_le, lit_lt, le_lit, lt_lit, eq_lit, lit_eq, nt_neg, nt_ge, nt_add, nt_mul, nt_addl, lit_add, nt_mull, lit_mul, nt_sub, nt_subl, lit_sub, nt_divl, nt_m1, nt_m2, nt_m1', nt_m2', if_true, if_false, if_pos, if_neg, e01, e10, em12, em21, e0m1, e0m2, e1m1, e1m2, em10, em20, Int32.reduceLT, Int32.reduceLE, eq_self, Option.bind_some, Option.map_some, false_or, or_false, or_self, true_or, or_true, not_true_eq_false, not_false_eq_true, false_and, and_false, true_and, and_true]
  rfl
theorem ntz_ok {I : xI} {J : xJ} : ∀ p, p < 15 → f_J6_numberOfTrailingZeros_0f7a4 (1 <<< nt p) I J = some (nt p, I, J) := by
  intro p hp
  match p, hp with
  | 0, _ => rfl
  | 1, _ => rfl
  | 2, _ => rfl
  | 3, _ => rfl
  | 4, _ => rfl
  | 5, _ => rfl
  | 6, _ => rfl
  | 7, _ => rfl
  | 8, _ => rfl
  | 9, _ => rfl
  | 10, _ => rfl
  | 11, _ => rfl
  | 12, _ => rfl
  | 13, _ => rfl
  | 14, _ => rfl
  | p + 15, h => exact absurd h (by omega)
theorem isUnlike_ok {n m : Nat} {w : aT} {I : xI} {J : xJ} (hn : n ≤ 6) (hm : m ≤ 4) (V : Vd n m w) (h : cMa n m w (I 1 0) (I 1 1) (I 2) (I 3) (I 4)) {a b x : Nat} (ha : a < 2147483648) (hb : b < 2147483648) (hx : x < 2147483648) : f_X6_isUnlike (nt a) (nt b) (nt x) I J = some (bi (unl w a b x), I, J) := by
  simp (disch := omega) only [f_X6_isUnlike_7, f_X6_isUnlike_6, f_X6_isUnlike_5, f_X6_isUnlike_4, f_X6_isUnlike_3, f_X6_isUnlike_2, f_X6_isUnlike_1, f_X6_isUnlike_0, f_X6_isUnlike, answerOf_ok hn hm V h, if_true, if_false, if_pos, if_neg, e01, e10, em12, em21, e0m1, e0m2, e1m1, e1m2, em10, em20, Int32.reduceLT, Int32.reduceLE, eq_self, Option.bind_some, Option.map_some, false_or, or_false, or_self, true_or, or_true, not_true_eq_false, not_false_eq_true, false_and, and_false, true_and, and_true]
  unfold unl
  cases ea : w.2.1 a x with
  | none => rfl
  | some p =>
    have hp := (V.2.1 a x p ea).2.2
    cases eb : w.2.1 b x with
    | none =>
      simp (disch := omega) only [ov, nt_clamp, nt_le, nt_lt, nt_eq, lit_le, lit_lt, le_lit, lt_lit, eq_lit, lit_eq, nt_neg, nt_ge, nt_add, nt_mul, nt_addl, lit_add, nt_mull, lit_mul, nt_sub, nt_subl, lit_sub, nt_divl, nt_m1, nt_m2, nt_m1', nt_m2', if_true, if_false, if_pos, if_neg, e01, e10, em12, em21, e0m1, e0m2, e1m1, e1m2, em10, em20, Int32.reduceLT, Int32.reduceLE, eq_self, Option.bind_some, Option.map_some, false_or, or_false, or_self, true_or, or_true, not_true_eq_false, not_false_eq_true, false_and, and_false, true_and, and_true]
      rfl
    | some q =>
      have hq := (V.2.1 b x q eb).2.2
      simp (disch := omega) only [ov, nt_clamp, nt_le, nt_lt, nt_eq, lit_le, lit_lt, le_lit, lt_lit, eq_lit, lit_eq, nt_neg, nt_ge, nt_add, nt_mul, nt_addl, lit_add, nt_mull, lit_mul, nt_sub, nt_subl, lit_sub, nt_divl, nt_m1, nt_m2, nt_m1', nt_m2', if_true, if_false, if_pos, if_neg, e01, e10, em12, em21, e0m1, e0m2, e1m1, e1m2, em10, em20, Int32.reduceLT, Int32.reduceLE, eq_self, Option.bind_some, Option.map_some, false_or, or_false, or_self, true_or, or_true, not_true_eq_false, not_false_eq_true, false_and, and_false, true_and, and_true]
      by_cases e : p = q
      · rw [if_pos e, decide_eq_true e]; rfl
      · rw [if_neg e, decide_eq_false e]; rfl
def sp (w : aT) (a b x : Nat) : Int32 := match w.1 a x, w.1 b x with
  | some p, some q => pm p q
  | _, _ => 0
theorem stepOf_ok {n m : Nat} {w : aT} {I : xI} {J : xJ} (hn : n ≤ 6) (hm : m ≤ 4) (V : Vd n m w) (h : cMa n m w (I 1 0) (I 1 1) (I 2) (I 3) (I 4)) {a b x : Nat} (ha : a < 2147483648) (hb : b < 2147483648) (hx : x < 2147483648) : f_X6_stepOf (nt a) (nt b) (nt x) I J = some (sp w a b x, I, J) := by
  simp (disch := omega) only [f_X6_stepOf, f_X6_stepOf_0, f_X6_stepOf_1, f_X6_stepOf_2, f_X6_stepOf_3, f_X6_stepOf_4, f_X6_stepOf_6, targetOf_ok hn hm V h, if_true, if_false, if_pos, if_neg, e01, e10, em12, em21, e0m1, e0m2, e1m1, e1m2, em10, em20, Int32.reduceLT, Int32.reduceLE, eq_self, Option.bind_some, Option.map_some, false_or, or_false, or_self, true_or, or_true, not_true_eq_false, not_false_eq_true, false_and, and_false, true_and, and_true]
  unfold sp
  cases ea : w.1 a x with
  | none => rfl
  | some p =>
    have hp := (V.1 a x p ea).2.2
    cases eb : w.1 b x with
    | none =>
      simp (disch := omega) only [ov, nt_clamp, nt_le, nt_lt, nt_eq, lit_le, lit_lt, le_lit, lt_lit, eq_lit, lit_eq, nt_neg, nt_ge, nt_add, nt_mul, nt_addl, lit_add, nt_mull, lit_mul, nt_sub, nt_subl, lit_sub, nt_divl, nt_m1, nt_m2, nt_m1', nt_m2', if_true, if_false, if_pos, if_neg, e01, e10, em12, em21, e0m1, e0m2, e1m1, e1m2, em10, em20, Int32.reduceLT, Int32.reduceLE, eq_self, Option.bind_some, Option.map_some, false_or, or_false, or_self, true_or, or_true, not_true_eq_false, not_false_eq_true, false_and, and_false, true_and, and_true]
    | some q =>
      have hq := (V.1 b x q eb).2.2
      simp (disch := omega) only [ov, nt_clamp, nt_le, nt_lt, nt_eq, lit_le, lit_lt, le_lit, lt_lit, eq_lit, lit_eq, nt_neg, nt_ge, nt_add, nt_mul, nt_addl, lit_add, nt_mull, lit_mul, nt_sub, nt_subl, lit_sub, nt_divl, nt_m1, nt_m2, nt_m1', nt_m2', if_true, if_false, if_pos, if_neg, e01, e10, em12, em21, e0m1, e0m2, e1m1, e1m2, em10, em20, Int32.reduceLT, Int32.reduceLE, eq_self, Option.bind_some, Option.map_some, false_or, or_false, or_self, true_or, or_true, not_true_eq_false, not_false_eq_true, false_and, and_false, true_and, and_true, f_X6_stepOf_5, pairOf_ok, f_X6_stepOf_6]
theorem sp_bt {n m : Nat} {w : aT} (hn : n ≤ 6) (V : Vd n m w) {a b x q : Nat} (hq : q < 32) : bt (sp w a b x) q = true ↔ ∃ p r, w.1 a x = some p ∧ w.1 b x = some r ∧ ¬ p = r ∧ q = pX p r := by
  unfold sp
  cases ea : w.1 a x with
  | none => simp [bt_zero]
  | some p =>
    have hp := (V.1 a x p ea).2.2
    cases eb : w.1 b x with
    | none => simp [bt_zero]
    | some r =>
      have hr := (V.1 b x r eb).2.2
      dsimp only
      rw [pm_bt (by omega) (by omega) hq]
      simp
/-- the pairs of p, p's found, once round K is through -/
def cPk (m : Nat) (w : aT) (K : Nat) (v : Int32) (c33 c34 : Nat → Int32) : Prop := (∀ p, p < 15 → ∀ q, q < 32 → bt (c33 p) q = ex m (fun x => bt (sp w (pL p) (pH p) x) q)) ∧ (∀ p, p < 15 → c34 p = ov (rdk m w K (pL p) (pH p))) ∧ ∀ q, q < 32 → bt v q = (decide (q < 15) && (rdk m w K (pL q) (pH q)).isSome)
theorem look_ok {n m : Nat} {w : aT} {I : xI} {J : xJ} (hn : n ≤ 6) (hm : m ≤ 4) (V : Vd n m w) (h : cMa n m w (I 1 0) (I 1 1) (I 2) (I 3) (I 4)) {a b : Nat} (hab : a < b) (hb : b < n) : Ok (f_X6_look (nt a) (nt b) I J) (fun o => o.2.2 = J ∧ (∀ j q, q < 32 → bt (o.2.1 33 j) q = (bt (I 33 j) q || (decide (j = pX a b) && ex m (fun x => bt (sp w a b x) q)))) ∧ (∀ j, o.2.1 34 j = if j = pX a b ∧ ex m (unl w a b) = true then 0 else I 34 j) ∧ (∀ q, q < 32 → bt (o.2.1 32 3) q = (bt (I 32 3) q || (decide (q = pX a b) && ex m (unl w a b)))) ∧ ∀ c j, ¬ c = 33 → ¬ c = 34 → ¬ (c = 32 ∧ j = 3) → o.2.1 c j = I c j) := by
  have hp := pX_lt a (by omega) b (by omega)
  simp (disch := omega) only [f_X6_look, f_X6_look_0, f_X6_look_1, f_X6_look_2, f_X6_look_4, pairOf_ok, pm_ne, ntz_ok, nt_clamp, nt_le, nt_lt, nt_eq, lit_le, lit_lt, le_lit, lt_lit, eq_lit, lit_eq, nt_neg, nt_ge, nt_add, nt_mul, nt_addl, lit_add, nt_mull, lit_mul, nt_sub, nt_subl, lit_sub, nt_divl, nt_m1, nt_m2, nt_m1', nt_m2', if_true, if_false, if_pos, if_neg, e01, e10, em12, em21, e0m1, e0m2, e1m1, e1m2, em10, em20, Int32.reduceLT, Int32.reduceLE, eq_self, Option.bind_some, Option.map_some, false_or, or_false, or_self, true_or, or_true, not_true_eq_false, not_false_eq_true, false_and, and_false, true_and, and_true]
  unfold f_X6_look_5
  refine ok_loop (fun k s => ∃ I', s = (nt a, nt b, nt (pX a b), nt k, I', J) ∧ (∀ j q, q < 32 → bt (I' 33 j) q = (bt (I 33 j) q || (decide (j = pX a b) && ex k (fun x => bt (sp w a b x) q)))) ∧ (∀ j, I' 34 j = if j = pX a b ∧ ex k (unl w a b) = true then 0 else I 34 j) ∧ (∀ q, q < 32 → bt (I' 32 3) q = (bt (I 32 3) q || (decide (q = pX a b) && ex k (unl w a b)))) ∧ ∀ c j, ¬ c = 33 → ¬ c = 34 → ¬ (c = 32 ∧ j = 3) → I' c j = I c j) m ?_ ?_ 5000 0 _ (by omega) (by omega) ⟨I, rfl, ?_, ?_, ?_, fun _ _ _ _ _ => rfl⟩
  · rintro k hk s ⟨I', rfl, h1, h2, h3, h4⟩
    have hM : cMa n m w (I' 1 0) (I' 1 1) (I' 2) (I' 3) (I' 4) := by
      have e : ∀ c, ¬ c = 33 → ¬ c = 34 → ¬ c = 32 → I' c = I c := fun c g1 g2 g3 => funext fun j => h4 c j g1 g2 (by omega)
      rw [e 1 (by omega) (by omega) (by omega), e 2 (by omega) (by omega) (by omega), e 3 (by omega) (by omega) (by omega), e 4 (by omega) (by omega) (by omega)]
      exact h
    have hM2 : ∀ v, cMa n m w ((xup I' 33 (pX a b) v) 1 0) ((xup I' 33 (pX a b) v) 1 1) ((xup I' 33 (pX a b) v) 2) ((xup I' 33 (pX a b) v) 3) ((xup I' 33 (pX a b) v) 4) := by
      intro v
      simp (disch := omega) only [xup_b]
      exact hM
    have hi1 : I' 1 1 = nt m := hM.2.1
    simp (disch := omega) only [b_X6_look_5, f_X6_look_6, hi1, nt_clamp, nt_le, nt_lt, nt_eq, lit_le, lit_lt, le_lit, lt_lit, eq_lit, lit_eq, nt_neg, nt_ge, nt_add, nt_mul, nt_addl, lit_add, nt_mull, lit_mul, nt_sub, nt_subl, lit_sub, nt_divl, nt_m1, nt_m2, nt_m1', nt_m2', if_true, if_false, if_pos, if_neg, e01, e10, em12, em21, e0m1, e0m2, e1m1, e1m2, em10, em20, Int32.reduceLT, Int32.reduceLE, eq_self, Option.bind_some, Option.map_some, false_or, or_false, or_self, true_or, or_true, not_true_eq_false, not_false_eq_true, false_and, and_false, true_and, and_true, stepOf_ok hn hm V hM, f_X6_look_7, isUnlike_ok hn hm V (hM2 _)]
    unfold f_X6_look_8
    cases hu : unl w a b k with
    | false =>
      simp only [bi_0, if_true, f_X6_look_10]
      refine ok_some ⟨_, by rw [nt_addl], ?_, ?_, ?_, ?_⟩
      · intro j q hq
        rw [xup_if, ex]
        by_cases hj : j = pX a b
        · rw [if_pos hj, bt_or, h1 _ q hq, hj, decide_eq_true rfl, Bool.true_and, Bool.true_and, Bool.or_assoc]
        · rw [if_neg hj, h1 j q hq, decide_eq_false hj, Bool.false_and, Bool.false_and]
      · intro j
        rw [xup_bj _ _ _ _ _ (by omega), h2, ex, hu, Bool.or_false]
      · intro q hq
        rw [xup_bj _ _ _ _ _ (by omega), h3 q hq, ex, hu, Bool.or_false]
      · intro c j g1 g2 g3
        rw [xup_bj _ _ _ _ _ g1, h4 c j g1 g2 g3]
    | true =>
      simp (disch := omega) only [bi_0, Bool.true_eq_false, if_false, f_X6_look_9, f_X6_look_10, nt_clamp, nt_le, nt_lt, nt_eq, lit_le, lit_lt, le_lit, lt_lit, eq_lit, lit_eq, nt_neg, nt_ge, nt_add, nt_mul, nt_addl, lit_add, nt_mull, lit_mul, nt_sub, nt_subl, lit_sub, nt_divl, nt_m1, nt_m2, nt_m1', nt_m2', if_true, if_false, if_pos, if_neg, e01, e10, em12, em21, e0m1, e0m2, e1m1, e1m2, em10, em20, Int32.reduceLT, Int32.reduceLE, eq_self, Option.bind_some, Option.map_some, false_or, or_false, or_self, true_or, or_true, not_true_eq_false, not_false_eq_true, false_and, and_false, true_and, and_true]
      refine ok_some ⟨_, rfl, ?_, ?_, ?_, ?_⟩
      · intro j q hq
        simp (disch := omega) only [xup_bj, xup_if, ex]
        by_cases hj : j = pX a b
        · rw [if_pos hj, bt_or, h1 _ q hq, hj, decide_eq_true rfl, Bool.true_and, Bool.true_and, Bool.or_assoc]
        · rw [if_neg hj, h1 j q hq, decide_eq_false hj, Bool.false_and, Bool.false_and]
      · intro j
        simp (disch := omega) only [xup_bj, xup_if, ex, hu, Bool.or_true]
        rw [h2]
        by_cases hj : j = pX a b
        · rw [if_pos hj, if_pos ⟨hj, trivial⟩]
        · rw [if_neg hj, if_neg (fun e => hj e.1), if_neg (fun e => hj e.1)]
      · intro q hq
        rw [xup_at]
        simp (disch := omega) only [xup_bj, nt_31, ex, hu, Bool.or_true]
        rw [bt_or, h3 q hq, one_shl (by omega) hq]
        by_cases hj : q = pX a b
        · rw [decide_eq_true hj, Bool.or_true, Bool.true_and, Bool.or_true]
        · rw [decide_eq_false hj, Bool.or_false, Bool.false_and, Bool.false_and]
      · intro c j g1 g2 g3
        rw [xup_no _ _ _ _ g3, xup_bj _ _ _ _ _ g2, xup_bj _ _ _ _ _ g1, h4 c j g1 g2 g3]
  · rintro s ⟨I', rfl, h1, h2, h3, h4⟩
    have hi1 : I' 1 1 = nt m := (h4 1 1 (by omega) (by omega) (by omega)).trans h.2.1
    simp (disch := omega) only [b_X6_look_5, f_X6_look_11, hi1, nt_clamp, nt_le, nt_lt, nt_eq, lit_le, lit_lt, le_lit, lt_lit, eq_lit, lit_eq, nt_neg, nt_ge, nt_add, nt_mul, nt_addl, lit_add, nt_mull, lit_mul, nt_sub, nt_subl, lit_sub, nt_divl, nt_m1, nt_m2, nt_m1', nt_m2', if_true, if_false, if_pos, if_neg, e01, e10, em12, em21, e0m1, e0m2, e1m1, e1m2, em10, em20, Int32.reduceLT, Int32.reduceLE, eq_self, Option.bind_some, Option.map_some, false_or, or_false, or_self, true_or, or_true, not_true_eq_false, not_false_eq_true, false_and, and_false, true_and, and_true]
    exact ok_some ⟨rfl, h1, h2, h3, h4⟩
  · intro j q _; simp [ex]
  · intro j; simp [ex]
  · intro q _; simp [ex]
