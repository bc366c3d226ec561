/-! set, code, undo, hold, restore, move of the reference -/
theorem rMa_copy {n m : Nat} {w : aT} {c c' : Nat → Int32} {o o' : Nat} (hn : n ≤ 6) (hm : m ≤ 4) (h : rMa n m w c o) (q : ∀ j, j < 54 → c' (o' + j) = c (o + j)) : rMa n m w c' o' := by
  obtain ⟨h1, h2, h3⟩ := h
  refine ⟨?_, ?_, ?_⟩
  · intro s x hs hx; rw [q _ (by omega)]; exact h1 s x hs hx
  · intro s x hs hx; rw [q _ (by omega)]; exact h2 s x hs hx
  · intro s hs; rw [q _ (by omega)]; exact h3 s hs
theorem to_ok {n m : Nat} {w : aT} {I : xI} {J : xJ} (hn : n ≤ 6) (hm : m ≤ 4) (h : rMa n m w (I 70) 0) {s x : Nat} (hs : s < n) (hx : x < m) : f_X12_to (nt s) (nt x) I J = some (ov (w.1 s x), I, J) := by
  have := h.1 s x hs hx
  rw [Nat.zero_add] at this
  simp (disch := omega) only [f_X12_to_0, f_X12_to, nt_clamp, nt_le, nt_lt, nt_eq, lit_le, lit_lt, le_lit, lt_lit, eq_lit, lit_eq, nt_neg, nt_ge, nt_add, nt_mul, nt_addl, lit_add, nt_mull, lit_mul, nt_sub, nt_subl, lit_sub, nt_divl, nt_m1, nt_m2, nt_m1', nt_m2', if_true, if_false, if_pos, if_neg, e01, e10, em12, em21, e0m1, e0m2, e1m1, e1m2, em10, em20, Int32.reduceLT, Int32.reduceLE, eq_self, Option.bind_some, Option.map_some, false_or, or_false, or_self, true_or, or_true, not_true_eq_false, not_false_eq_true, false_and, and_false, true_and, and_true, this]
theorem answer_ok {n m : Nat} {w : aT} {I : xI} {J : xJ} (hn : n ≤ 6) (hm : m ≤ 4) (h : rMa n m w (I 70) 0) {s x : Nat} (hs : s < n) (hx : x < m) : f_X12_answer (nt s) (nt x) I J = some (ov (w.2.1 s x), I, J) := by
  have := h.2.1 s x hs hx
  rw [Nat.zero_add] at this
  simp (disch := omega) only [f_X12_answer_0, f_X12_answer, nt_clamp, nt_le, nt_lt, nt_eq, lit_le, lit_lt, le_lit, lt_lit, eq_lit, lit_eq, nt_neg, nt_ge, nt_add, nt_mul, nt_addl, lit_add, nt_mull, lit_mul, nt_sub, nt_subl, lit_sub, nt_divl, nt_m1, nt_m2, nt_m1', nt_m2', if_true, if_false, if_pos, if_neg, e01, e10, em12, em21, e0m1, e0m2, e1m1, e1m2, em10, em20, Int32.reduceLT, Int32.reduceLE, eq_self, Option.bind_some, Option.map_some, false_or, or_false, or_self, true_or, or_true, not_true_eq_false, not_false_eq_true, false_and, and_false, true_and, and_true, this]
theorem codeOf_ok {n m : Nat} {w : aT} {I : xI} {J : xJ} (hn : n ≤ 6) (h : rMa n m w (I 70) 0) {s : Nat} (hs : s < n) : f_X12_codeOf (nt s) I J = some (nt (w.2.2 s), I, J) := by
  have := h.2.2 s hs
  rw [Nat.zero_add] at this
  simp (disch := omega) only [f_X12_codeOf_0, f_X12_codeOf, nt_clamp, nt_le, nt_lt, nt_eq, lit_le, lit_lt, le_lit, lt_lit, eq_lit, lit_eq, nt_neg, nt_ge, nt_add, nt_mul, nt_addl, lit_add, nt_mull, lit_mul, nt_sub, nt_subl, lit_sub, nt_divl, nt_m1, nt_m2, nt_m1', nt_m2', if_true, if_false, if_pos, if_neg, e01, e10, em12, em21, e0m1, e0m2, e1m1, e1m2, em10, em20, Int32.reduceLT, Int32.reduceLE, eq_self, Option.bind_some, Option.map_some, false_or, or_false, or_self, true_or, or_true, not_true_eq_false, not_false_eq_true, false_and, and_false, true_and, and_true, this]
theorem marks2_ok {I : xI} {J : xJ} {e k : Nat} (he : e < 40) (hk : k < 40) (h5 : I 61 25 = nt e) (h6 : I 61 26 = nt k) : Ok (f_X12_marks_2 I J) (fun o => o.2.2 = J ∧ (∀ j, o.2.1 72 j = if 54 * ((e + k) % 40) ≤ j ∧ j < 54 * ((e + k) % 40) + 54 then I 70 (j - 54 * ((e + k) % 40)) else I 72 j) ∧ o.2.1 61 26 = nt (k + 1) ∧ o.2.1 61 29 = 0 ∧ o.2.1 75 0 = 0 ∧ o.2.1 75 1 = 0 ∧ ∀ a j, ¬ a = 72 → ¬ (a = 75 ∧ j < 2) → ¬ (a = 61 ∧ (j = 26 ∨ j = 29)) → o.2.1 a j = I a j) := by
  have e1 : e + k - (e + k) / 40 * 40 = (e + k) % 40 := by omega
  have hq : (e + k) % 40 < 40 := by omega
  simp (disch := omega) only [f_X12_marks_2, h5, h6, nt_clamp, nt_le, nt_lt, nt_eq, lit_le, lit_lt, le_lit, lt_lit, eq_lit, lit_eq, nt_neg, nt_ge, nt_add, nt_mul, nt_addl, lit_add, nt_mull, lit_mul, nt_sub, nt_subl, lit_sub, nt_divl, nt_m1, nt_m2, nt_m1', nt_m2', e1]
  revert hq
  generalize (e + k) % 40 = q
  intro hq
  unfold f_X12_marks_3
  refine ok_loop (fun i s => ∃ I', s = (nt (54 * q), nt i, I', J) ∧ (∀ j, I' 72 j = if 54 * q ≤ j ∧ j < 54 * q + i then I 70 (j - 54 * q) else I 72 j) ∧ ∀ a j, ¬ a = 72 → I' a j = I a j) 54 ?_ ?_ 5000 0 _ (by omega) (by omega) ⟨I, rfl, ?_, fun _ _ _ => rfl⟩
  · rintro i hi s ⟨I', rfl, h1, h2⟩
    simp (disch := omega) only [b_X12_marks_3, f_X12_marks_4, nt_clamp, nt_le, nt_lt, nt_eq, lit_le, lit_lt, le_lit, lt_lit, eq_lit, lit_eq, nt_neg, nt_ge, nt_add, nt_mul, nt_addl, lit_add, nt_mull, lit_mul, nt_sub, nt_subl, lit_sub, nt_divl, nt_m1, nt_m2, nt_m1', nt_m2', if_true, if_false, if_pos, if_neg, e01, e10, em12, em21, e0m1, e0m2, e1m1, e1m2, em10, em20, Int32.reduceLT, Int32.reduceLE, eq_self, Option.bind_some, Option.map_some, false_or, or_false, or_self, true_or, or_true, not_true_eq_false, not_false_eq_true, false_and, and_false, true_and, and_true]
    refine ok_some ⟨_, rfl, ?_, ?_⟩
    · intro j
      rw [xup_if, h1]
      by_cases hj : j = 54 * q + i
      · rw [if_pos hj, if_pos (by omega), h2 70 _ (by omega), show j - 54 * q = i from by omega]
      · rw [if_neg hj]
        by_cases hc : 54 * q ≤ j ∧ j < 54 * q + i
        · rw [if_pos hc, if_pos (by omega)]
        · rw [if_neg hc, if_neg (by omega)]
    · intro a j ha
      rw [xup_bj _ _ _ _ _ ha, h2 a j ha]
  · rintro s ⟨I', rfl, h1, h2⟩
    simp (disch := omega) only [b_X12_marks_3, f_X12_marks_5, f_X12_marks_6, f_X12_changes_0, f_X12_changes, nt_clamp, nt_le, nt_lt, nt_eq, lit_le, lit_lt, le_lit, lt_lit, eq_lit, lit_eq, nt_neg, nt_ge, nt_add, nt_mul, nt_addl, lit_add, nt_mull, lit_mul, nt_sub, nt_subl, lit_sub, nt_divl, nt_m1, nt_m2, nt_m1', nt_m2', if_true, if_false, if_pos, if_neg, e01, e10, em12, em21, e0m1, e0m2, e1m1, e1m2, em10, em20, Int32.reduceLT, Int32.reduceLE, eq_self, Option.bind_some, Option.map_some, false_or, or_false, or_self, true_or, or_true, not_true_eq_false, not_false_eq_true, false_and, and_false, true_and, and_true]
    refine ok_some ?_
    show _ ∧ _
    dsimp only
    refine ⟨rfl, ?_, ?_, ?_, ?_, ?_, ?_⟩
    · intro j; simp (disch := omega) only [xup_bj]; exact h1 j
    · simp (disch := omega) only [xup_bj, xup_j, xup_at]
      rw [h2 61 26 (by omega), h6, nt_addl]
    · simp (disch := omega) only [xup_bj, xup_at]
    · simp (disch := omega) only [xup_j, xup_at]
    · rw [xup_at]
    · intro a j ha hb hc
      simp (disch := omega) only [xup_no]
      exact h2 a j ha
  · intro j; rw [if_neg (by omega)]
theorem rHi_push {n m k e : Nat} {g : Nat → aT} {w : aT} {v25 v26 : Int32} {c70 c72 c72' : Nat → Int32} (hn : n ≤ 6) (hm : m ≤ 4) (hk : k < 40) (he : e < 40) (h : ∀ i, i < k → rMa n m (g (i + 1)) c72 (54 * ((e + (k - 1 - i)) % 40))) (h0 : rMa n m (g 0) c70 0) (h5 : v25 = nt e) (h6 : v26 = nt (k + 1)) (hc : ∀ j, c72' j = if 54 * ((e + k) % 40) ≤ j ∧ j < 54 * ((e + k) % 40) + 54 then c70 (j - 54 * ((e + k) % 40)) else c72 j) : rHi n m (k + 1) (push w g) v25 v26 c72' := by
  refine ⟨h6, by omega, e, he, h5, ?_⟩
  intro i hi
  rcases i with _ | i
  · show rMa n m (g 0) c72' (54 * ((e + (k + 1 - 1 - 0)) % 40))
    rw [show e + (k + 1 - 1 - 0) = e + k from by omega]
    refine rMa_copy hn hm h0 ?_
    intro j hj
    rw [hc, if_pos (by omega)]
    congr 1; omega
  · show rMa n m (g (i + 1)) c72' (54 * ((e + (k + 1 - 1 - (i + 1))) % 40))
    rw [show e + (k + 1 - 1 - (i + 1)) = e + (k - 1 - i) from by omega]
    refine rMa_copy hn hm (h i (by omega)) ?_
    intro j hj
    rw [hc, if_neg]
    omega
theorem marks_ok {n m k : Nat} {g : Nat → aT} {I : xI} {J : xJ} (hn : n ≤ 6) (hm : m ≤ 4) (h : rMa n m (g 0) (I 70) 0) (hh : rHi n m k g (I 61 25) (I 61 26) (I 72)) (w : aT) : Ok (f_X12_marks I J) (fun o => o.2.2 = J ∧ rHi n m (min (k + 1) 40) (push w g) (o.2.1 61 25) (o.2.1 61 26) (o.2.1 72) ∧ o.2.1 61 29 = 0 ∧ o.2.1 75 0 = 0 ∧ o.2.1 75 1 = 0 ∧ ∀ a j, ¬ a = 72 → ¬ (a = 75 ∧ j < 2) → ¬ (a = 61 ∧ (j = 25 ∨ j = 26 ∨ j = 29)) → o.2.1 a j = I a j) := by
  obtain ⟨h6, hk, e, he, h5, hD⟩ := hh
  by_cases hk40 : k = 40
  · subst hk40
    have e1 : e + 1 - (e + 1) / 40 * 40 = (e + 1) % 40 := by omega
    simp (disch := omega) only [f_X12_marks, f_X12_marks_0, f_X12_marks_1, h6, h5, nt_clamp, nt_le, nt_lt, nt_eq, lit_le, lit_lt, le_lit, lt_lit, eq_lit, lit_eq, nt_neg, nt_ge, nt_add, nt_mul, nt_addl, lit_add, nt_mull, lit_mul, nt_sub, nt_subl, lit_sub, nt_divl, nt_m1, nt_m2, nt_m1', nt_m2', if_true, if_false, if_pos, if_neg, e01, e10, em12, em21, e0m1, e0m2, e1m1, e1m2, em10, em20, Int32.reduceLT, Int32.reduceLE, eq_self, Option.bind_some, Option.map_some, false_or, or_false, or_self, true_or, or_true, not_true_eq_false, not_false_eq_true, false_and, and_false, true_and, and_true, e1, xup_j]
    have k5 : (xup (xup I 61 25 (nt ((e + 1) % 40))) 61 26 (nt (40 - 1))) 61 25 = nt ((e + 1) % 40) := by
      simp (disch := omega) only [xup_j, xup_at]
    have k6 : (xup (xup I 61 25 (nt ((e + 1) % 40))) 61 26 (nt (40 - 1))) 61 26 = nt 39 := by
      rw [xup_at]
    refine (marks2_ok (k := 39) (by omega) (by omega) k5 k6).imp ?_
    rintro ⟨_, I1, J1⟩ ⟨rfl, q1, q2, q3, q4, q5, f1⟩
    dsimp only at q1 q2 q3 q4 q5 f1 ⊢
    refine ⟨rfl, ?_, q3, q4, q5, ?_⟩
    · refine rHi_push (c70 := I 70) (c72 := I 72) hn hm (k := 39) (by omega) (show (e + 1) % 40 < 40 from by omega) ?_ h ?_ q2 ?_
      · intro i hi
        have e2 : ((e + 1) % 40 + (39 - 1 - i)) % 40 = (e + (40 - 1 - i)) % 40 := by omega
        rw [e2]; exact hD i (by omega)
      · rw [f1 61 25 (by omega) (by omega) (by omega), k5]
      · intro j; rw [q1]; simp (disch := omega) only [xup_bj]
    · intro a j ha hb hc
      rw [f1 a j ha hb (by omega)]
      simp (disch := omega) only [xup_no]
  · have hk0 : ¬ (I 61 26 = 40) := by rw [h6, eq_lit (by omega) (by omega)]; exact hk40
    unfold f_X12_marks f_X12_marks_0
    rw [if_neg hk0]
    refine (marks2_ok he (by omega) h5 h6).imp ?_
    rintro ⟨_, I1, J1⟩ ⟨rfl, q1, q2, q3, q4, q5, f1⟩
    dsimp only at q1 q2 q3 q4 q5 f1 ⊢
    refine ⟨rfl, ?_, q3, q4, q5, ?_⟩
    · rw [show min (k + 1) 40 = k + 1 from by omega]
      refine rHi_push (c70 := I 70) (c72 := I 72) hn hm (by omega) he hD h ?_ q2 q1
      rw [f1 61 25 (by omega) (by omega) (by omega), h5]
    · intro a j ha hb hc
      exact f1 a j ha hb (by omega)
def rReg (a j : Nat) : Prop := a = 70 ∨ a = 72 ∨ (a = 75 ∧ j < 2) ∨ (a = 61 ∧ (j = 25 ∨ j = 26 ∨ j = 29))
theorem rset_9 {n m : Nat} {I : xI} {J : xJ} (hn : n ≤ 6) (hm : m ≤ 4) (h0 : I 61 17 = nt n) (h1 : I 61 18 = nt m) (a b c d : Int32) : f_X12_set a b c d I J = if setOk n m a b c d = true then f_X12_set_9 a b c d I J else some (0, I, J) := by
  have b5 : f_X12_set_5 a b c d I J = if (decide (d = -2) || isS 4 d) = true then f_X12_set_9 a b c d I J else some (0, I, J) := by
    unfold f_X12_set_5
    by_cases hd : d = -2
    · rw [if_pos hd, decide_eq_true hd]; rfl
    · rw [if_neg hd, decide_eq_false hd, Bool.false_or]
      unfold f_X12_set_6
      rw [show f_X12_in d 0 3 I J = some (bi (isS 4 d), I, J) from rin_ok (n := 4) (by omega), Option.bind_some]
      unfold f_X12_set_7
      dsimp only
      cases isS 4 d with
      | false => rfl
      | true => rfl
  have b2 : f_X12_set_2 a b c d I J = if ((decide (c = -2) || isS n c) && (decide (d = -2) || isS 4 d)) = true then f_X12_set_9 a b c d I J else some (0, I, J) := by
    unfold f_X12_set_2
    by_cases hc : c = -2
    · rw [if_pos hc, decide_eq_true hc, b5, Bool.true_or, Bool.true_and]
    · rw [if_neg hc, decide_eq_false hc, Bool.false_or]
      unfold f_X12_set_3
      rw [isState_ok h0 (by omega), Option.bind_some]
      unfold f_X12_set_4
      dsimp only
      cases isS n c with
      | false => rfl
      | true => exact b5
  unfold f_X12_set f_X12_set_0 setOk
  rw [isMove_ok h0 (by omega) h1 (by omega), Option.bind_some]
  unfold f_X12_set_1
  dsimp only
  cases isS n a with
  | false => rfl
  | true =>
    cases isS m b with
    | false => rfl
    | true => exact b2
theorem rset_ok {n m k : Nat} {g : Nat → aT} {I : xI} {J : xJ} (hn : n ≤ 6) (hm : m ≤ 4) (V : Vd n m (g 0)) (h0 : I 61 17 = nt n) (h1 : I 61 18 = nt m) (h : rMa n m (g 0) (I 70) 0) (hh : rHi n m k g (I 61 25) (I 61 26) (I 72)) (a b c d : Int32) : Ok (f_X12_set a b c d I J) (fun o => o.2.2 = J ∧ o.1 = bi (setR n m (g 0) a b c d) ∧ (setR n m (g 0) a b c d = false → o.2.1 = I) ∧ (setR n m (g 0) a b c d = true → rMa n m (aset (g 0) a.toNatClampNeg b.toNatClampNeg (po c) (po d)) (o.2.1 70) 0 ∧ rHi n m (min (k + 1) 40) (push (aset (g 0) a.toNatClampNeg b.toNatClampNeg (po c) (po d)) g) (o.2.1 61 25) (o.2.1 61 26) (o.2.1 72) ∧ o.2.1 61 29 = 0 ∧ o.2.1 75 0 = 0 ∧ o.2.1 75 1 = 0 ∧ ∀ a j, ¬ rReg a j → o.2.1 a j = I a j)) := by
  rw [rset_9 hn hm h0 h1]
  cases hs : setOk n m a b c d with
  | false =>
    have e : setR n m (g 0) a b c d = false := by unfold setR; rw [hs]; rfl
    rw [e, if_neg (by decide)]
    exact ok_some ⟨rfl, rfl, fun _ => rfl, fun h => absurd h (by decide)⟩
  | true =>
    rw [if_pos rfl]
    obtain ⟨⟨s, x, hs1, hx1, rfl, rfl⟩, ⟨ec, bc⟩, ed, bd⟩ := setOk_ex hn hm hs
    have hh1 : f_X12_set_9 (nt s) (nt x) c d I J = if ov ((g 0).1 s x) = c then (if ov ((g 0).2.1 s x) = d then some (0, I, J) else f_X12_set_14 (nt s) (nt x) c d I J) else f_X12_set_14 (nt s) (nt x) c d I J := by
      simp (disch := omega) only [f_X12_set_9, f_X12_set_10, f_X12_set_11, f_X12_set_12, f_X12_set_13, to_ok hn hm h hs1 hx1, answer_ok hn hm h hs1 hx1, Option.bind_some]
    have hb1 : ∀ k, (g 0).1 s x = some k → k < 2147483648 := fun k e => by have := (V.1 s x k e).2.2; omega
    have hb2 : ∀ k, (g 0).2.1 s x = some k → k < 2147483648 := fun k e => by have := (V.2.1 s x k e).2.2; omega
    have ee : (if ov ((g 0).1 s x) = c then (if ov ((g 0).2.1 s x) = d then some (0, I, J) else f_X12_set_14 (nt s) (nt x) c d I J) else f_X12_set_14 (nt s) (nt x) c d I J) = if setR n m (g 0) (nt s) (nt x) c d = false then some (0, I, J) else f_X12_set_14 (nt s) (nt x) c d I J := by
      unfold setR
      rw [hs, nt_clamp (by omega), nt_clamp (by omega), Bool.true_and]
      have e1 : (ov ((g 0).1 s x) = c) = ((g 0).1 s x = po c) := by
        rw [← ov_eq hb1 (fun k e => by have := bc k e; omega), ec]
      have e2 : (ov ((g 0).2.1 s x) = d) = ((g 0).2.1 s x = po d) := by
        rw [← ov_eq hb2 (fun k e => by have := bd k e; omega), ed]
      simp only [e1, e2]
      by_cases c1 : (g 0).1 s x = po c
      · by_cases c2 : (g 0).2.1 s x = po d
        · simp [c1, c2]
        · simp [c1, c2]
      · simp [c1]
    rw [hh1, ee, nt_clamp (by omega), nt_clamp (by omega)]
    cases hr : setR n m (g 0) (nt s) (nt x) c d with
    | false =>
      rw [if_pos rfl]
      exact ok_some ⟨rfl, rfl, fun _ => rfl, fun h => absurd h (by decide)⟩
    | true =>
      rw [if_neg (by decide)]
      unfold f_X12_set_14
      apply ok_bind
      refine (marks_ok hn hm h hh (aset (g 0) s x (po c) (po d))).imp ?_
      rintro ⟨_, I1, J1⟩ ⟨rfl, q1, q3, q4, q5, f1⟩
      dsimp only at q1 q3 q4 q5 f1 ⊢
      simp (disch := omega) only [f_X12_set_15, nt_clamp, nt_le, nt_lt, nt_eq, lit_le, lit_lt, le_lit, lt_lit, eq_lit, lit_eq, nt_neg, nt_ge, nt_add, nt_mul, nt_addl, lit_add, nt_mull, lit_mul, nt_sub, nt_subl, lit_sub, nt_divl, nt_m1, nt_m2, nt_m1', nt_m2', if_true, if_false, if_pos, if_neg, e01, e10, em12, em21, e0m1, e0m2, e1m1, e1m2, em10, em20, Int32.reduceLT, Int32.reduceLE, eq_self, Option.bind_some, Option.map_some, false_or, or_false, or_self, true_or, or_true, not_true_eq_false, not_false_eq_true, false_and, and_false, true_and, and_true]
      refine ok_some ?_
      dsimp only
      refine ⟨rfl, rfl, fun h => absurd h (by decide), fun _ => ⟨?_, ?_, ?_, ?_, ?_, ?_⟩⟩
      · have f70 : ∀ j, I1 70 j = I 70 j := fun j => f1 70 j (by omega) (by omega) (by omega)
        obtain ⟨r1, r2, r3⟩ := h
        refine ⟨?_, ?_, ?_⟩
        · intro s' x' hs' hx'
          show _ = ov (if s' = s ∧ x' = x then po c else (g 0).1 s' x')
          rw [xup_j _ _ _ _ (by omega), xup_if, f70]
          by_cases hc : s' = s ∧ x' = x
          · rw [if_pos hc, if_pos (by omega), ec]
          · rw [if_neg hc, if_neg (by omega)]; exact r1 s' x' hs' hx'
        · intro s' x' hs' hx'
          show _ = ov (if s' = s ∧ x' = x then po d else (g 0).2.1 s' x')
          rw [xup_if, xup_j _ _ _ _ (by omega), f70]
          by_cases hc : s' = s ∧ x' = x
          · rw [if_pos hc, if_pos (by omega), ed]
          · rw [if_neg hc, if_neg (by omega)]; exact r2 s' x' hs' hx'
        · intro s' hs'
          rw [xup_j _ _ _ _ (by omega), xup_j _ _ _ _ (by omega), f70]
          exact r3 s' hs'
      · simp (disch := omega) only [xup_b]
        exact q1
      · simp (disch := omega) only [xup_b]
        exact q3
      · simp (disch := omega) only [xup_b]
        exact q4
      · simp (disch := omega) only [xup_b]
        exact q5
      · intro a j hd
        unfold rReg at hd
        rw [xup_bj _ _ _ _ _ (by omega), xup_bj _ _ _ _ _ (by omega)]
        exact f1 a j (by omega) (by omega) (by omega)
