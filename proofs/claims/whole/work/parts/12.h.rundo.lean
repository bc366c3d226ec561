/-! code, undo, hold, restore, move of the reference -/
theorem rin7_ok {v : Int32} {I : xI} {J : xJ} : f_X12_in v 0 7 I J = some (bi (isS 8 v), I, J) := rin_ok (n := 8) (by omega)
theorem rin2_ok {v : Int32} {I : xI} {J : xJ} : f_X12_in v 0 2 I J = some (bi (isS 3 v), I, J) := rin_ok (n := 3) (by omega)
theorem rin1_ok {v : Int32} {I : xI} {J : xJ} : f_X12_in v 0 1 I J = some (bi (isS 2 v), I, J) := rin_ok (n := 2) (by omega)
theorem rcode_ok {n m k : Nat} {g : Nat → aT} {I : xI} {J : xJ} (hn : n ≤ 6) (hm : m ≤ 4) (V : Vd n m (g 0)) (h0 : I 61 17 = nt n) (h : rMa n m (g 0) (I 70) 0) (hh : rHi n m k g (I 61 25) (I 61 26) (I 72)) (a b : Int32) : Ok (f_X12_code a b I J) (fun o => o.2.2 = J ∧ o.1 = bi (codeR n (g 0) a b) ∧ (codeR n (g 0) a b = false → o.2.1 = I) ∧ (codeR n (g 0) a b = true → rMa n m (acode (g 0) a.toNatClampNeg b.toNatClampNeg) (o.2.1 70) 0 ∧ rHi n m (min (k + 1) 40) (push (acode (g 0) a.toNatClampNeg b.toNatClampNeg) g) (o.2.1 61 25) (o.2.1 61 26) (o.2.1 72) ∧ o.2.1 61 29 = 0 ∧ o.2.1 75 0 = 0 ∧ o.2.1 75 1 = 0 ∧ ∀ a j, ¬ rReg a j → o.2.1 a j = I a j)) := by
  unfold f_X12_code f_X12_code_0
  rw [isState_ok h0 (by omega), Option.bind_some]
  unfold f_X12_code_1
  dsimp only
  cases ha : isS n a with
  | false =>
    have e : codeR n (g 0) a b = false := by unfold codeR; rw [ha]; rfl
    rw [e]
    exact ok_some ⟨rfl, rfl, fun _ => rfl, fun h => absurd h (by decide)⟩
  | true =>
    simp only [bi_0, Bool.true_eq_false, if_false]
    unfold f_X12_code_2
    rw [rin7_ok, Option.bind_some]
    unfold f_X12_code_3
    dsimp only
    cases hb : isS 8 b with
    | false =>
      have e : codeR n (g 0) a b = false := by unfold codeR; rw [ha, hb]; rfl
      rw [e]
      exact ok_some ⟨rfl, rfl, fun _ => rfl, fun h => absurd h (by decide)⟩
    | true =>
      simp only [bi_0, Bool.true_eq_false, if_false]
      obtain ⟨s, hs, rfl⟩ := isS_ex (by omega) ha
      obtain ⟨c, hc, rfl⟩ := isS_ex (by omega) hb
      unfold f_X12_code_4
      rw [codeOf_ok hn h hs, Option.bind_some]
      unfold f_X12_code_5
      have hv := V.2.2 s
      dsimp only
      simp (disch := omega) only [nt_clamp, nt_le, nt_lt, nt_eq, lit_le, lit_lt, le_lit, lt_lit, eq_lit, lit_eq, nt_neg, nt_ge, nt_add, nt_mul, nt_addl, lit_add, nt_mull, lit_mul, nt_sub, nt_subl, lit_sub, nt_divl, nt_m1, nt_m2, nt_m1', nt_m2']
      have e : codeR n (g 0) (nt s) (nt c) = !decide ((g 0).2.2 s = c) := by
        unfold codeR
        rw [nt_clamp (by omega), nt_clamp (by omega), ha, hb]
        rfl
      rw [e]
      by_cases he : (g 0).2.2 s = c
      · rw [if_pos he, decide_eq_true he]
        exact ok_some ⟨rfl, rfl, fun _ => rfl, fun h => absurd h (by decide)⟩
      · rw [if_neg he, decide_eq_false he]
        unfold f_X12_code_7
        apply ok_bind
        refine (marks_ok hn hm h hh (acode (g 0) s c)).imp ?_
        rintro ⟨_, I1, J1⟩ ⟨rfl, q1, q3, q4, q5, f1⟩
        dsimp only at q1 q3 q4 q5 f1 ⊢
        simp (disch := omega) only [f_X12_code_8, nt_clamp, nt_le, nt_lt, nt_eq, lit_le, lit_lt, le_lit, lt_lit, eq_lit, lit_eq, nt_neg, nt_ge, nt_add, nt_mul, nt_addl, lit_add, nt_mull, lit_mul, nt_sub, nt_subl, lit_sub, nt_divl, nt_m1, nt_m2, nt_m1', nt_m2', if_true, if_false, if_pos, if_neg, e01, e10, em12, em21, e0m1, e0m2, e1m1, e1m2, em10, em20, Int32.reduceLT, Int32.reduceLE, eq_self, Option.bind_some, Option.map_some, false_or, or_false, or_self, true_or, or_true, not_true_eq_false, not_false_eq_true, false_and, and_false, true_and, and_true]
        refine ok_some ?_
        dsimp only
        refine ⟨rfl, rfl, fun h => absurd h (by decide), fun _ => ⟨?_, ?_, ?_, ?_, ?_, ?_⟩⟩
        · have f70 : ∀ j, I1 70 j = I 70 j := fun j => f1 70 j (by omega) (by omega) (by omega)
          obtain ⟨r1, r2, r3⟩ := h
          refine ⟨?_, ?_, ?_⟩
          · intro s' x' hs' hx'
            rw [xup_j _ _ _ _ (by omega), f70]
            exact r1 s' x' hs' hx'
          · intro s' x' hs' hx'
            rw [xup_j _ _ _ _ (by omega), f70]
            exact r2 s' x' hs' hx'
          · intro s' hs'
            show _ = nt (if s' = s then c else (g 0).2.2 s')
            rw [xup_if, f70]
            by_cases hc : s' = s
            · rw [if_pos hc, if_pos (by omega)]
            · rw [if_neg hc, if_neg (by omega)]; exact r3 s' hs'
        · simp (disch := omega) only [xup_b]
          exact q1
        · simp (disch := omega) only [xup_b]
          exact q3
        · simp (disch := omega) only [xup_b]
          exact q4
        · simp (disch := omega) only [xup_b]
          exact q5
        · intro a j hd
          unfold rReg at hd
          rw [xup_bj _ _ _ _ _ (by omega)]
          exact f1 a j (by omega) (by omega) (by omega)
theorem rundo_ok {n m k : Nat} {g : Nat → aT} {I : xI} {J : xJ} (hn : n ≤ 6) (hm : m ≤ 4) (hh : rHi n m k g (I 61 25) (I 61 26) (I 72)) : Ok (f_X12_undo I J) (fun o => o.2.2 = J ∧ o.1 = bi (decide (0 < k)) ∧ (k = 0 → o.2.1 = I) ∧ (0 < k → rMa n m (g 1) (o.2.1 70) 0 ∧ rHi n m (k - 1) (fun i => g (i + 1)) (o.2.1 61 25) (o.2.1 61 26) (o.2.1 72) ∧ o.2.1 61 29 = 0 ∧ o.2.1 75 0 = 0 ∧ o.2.1 75 1 = 0 ∧ ∀ a j, ¬ rReg a j → o.2.1 a j = I a j)) := by
  obtain ⟨h6, hk, e, he, h5, hD⟩ := hh
  by_cases hk0 : k = 0
  · subst hk0
    simp (disch := omega) only [f_X12_undo, f_X12_undo_0, f_X12_undo_1, h6, nt_clamp, nt_le, nt_lt, nt_eq, lit_le, lit_lt, le_lit, lt_lit, eq_lit, lit_eq, nt_neg, nt_ge, nt_add, nt_mul, nt_addl, lit_add, nt_mull, lit_mul, nt_sub, nt_subl, lit_sub, nt_divl, nt_m1, nt_m2, nt_m1', nt_m2', if_true, if_false, if_pos, if_neg, e01, e10, em12, em21, e0m1, e0m2, e1m1, e1m2, em10, em20, Int32.reduceLT, Int32.reduceLE, eq_self, Option.bind_some, Option.map_some, false_or, or_false, or_self, true_or, or_true, not_true_eq_false, not_false_eq_true, false_and, and_false, true_and, and_true]
    exact ok_some ⟨rfl, rfl, fun _ => rfl, fun h => absurd h (by omega)⟩
  · have e1 : e + (k - 1) - (e + (k - 1)) / 40 * 40 = (e + (k - 1 - 0)) % 40 := by omega
    have hq : (e + (k - 1 - 0)) % 40 < 40 := by omega
    have hD0 := hD 0 (by omega)
    simp (disch := omega) only [f_X12_undo, f_X12_undo_0, f_X12_undo_2, h6, h5, nt_clamp, nt_le, nt_lt, nt_eq, lit_le, lit_lt, le_lit, lt_lit, eq_lit, lit_eq, nt_neg, nt_ge, nt_add, nt_mul, nt_addl, lit_add, nt_mull, lit_mul, nt_sub, nt_subl, lit_sub, nt_divl, nt_m1, nt_m2, nt_m1', nt_m2', if_true, if_false, if_pos, if_neg, e01, e10, em12, em21, e0m1, e0m2, e1m1, e1m2, em10, em20, Int32.reduceLT, Int32.reduceLE, eq_self, Option.bind_some, Option.map_some, false_or, or_false, or_self, true_or, or_true, not_true_eq_false, not_false_eq_true, false_and, and_false, true_and, and_true, xup_at, xup_j, e1]
    revert hq hD0
    generalize (e + (k - 1 - 0)) % 40 = q
    intro hq hD0
    unfold f_X12_undo_3
    refine ok_loop (fun i s => ∃ I', s = (nt (54 * q), nt i, I', J) ∧ (∀ j, j < i → I' 70 j = I 72 (54 * q + j)) ∧ ∀ a j, ¬ a = 70 → I' a j = (xup I 61 26 (nt (k - 1))) a j) 54 ?_ ?_ 5000 0 _ (by omega) (by omega) ⟨_, rfl, fun j hj => absurd hj (by omega), fun _ _ _ => rfl⟩
    · rintro i hi s ⟨I', rfl, h1, h2⟩
      simp (disch := omega) only [b_X12_undo_3, f_X12_undo_4, nt_clamp, nt_le, nt_lt, nt_eq, lit_le, lit_lt, le_lit, lt_lit, eq_lit, lit_eq, nt_neg, nt_ge, nt_add, nt_mul, nt_addl, lit_add, nt_mull, lit_mul, nt_sub, nt_subl, lit_sub, nt_divl, nt_m1, nt_m2, nt_m1', nt_m2', if_true, if_false, if_pos, if_neg, e01, e10, em12, em21, e0m1, e0m2, e1m1, e1m2, em10, em20, Int32.reduceLT, Int32.reduceLE, eq_self, Option.bind_some, Option.map_some, false_or, or_false, or_self, true_or, or_true, not_true_eq_false, not_false_eq_true, false_and, and_false, true_and, and_true]
      refine ok_some ⟨_, rfl, ?_, ?_⟩
      · intro j hj
        rw [xup_if]
        by_cases hj : j = i
        · rw [if_pos hj, h2 72 _ (by omega), xup_bj _ _ _ _ _ (by omega), hj]
        · rw [if_neg hj, h1 j (by omega)]
      · intro a j ha
        rw [xup_bj _ _ _ _ _ ha, h2 a j ha]
    · rintro s ⟨I', rfl, h1, h2⟩
      simp (disch := omega) only [b_X12_undo_3, f_X12_undo_5, f_X12_undo_6, f_X12_changes_0, f_X12_changes, nt_clamp, nt_le, nt_lt, nt_eq, lit_le, lit_lt, le_lit, lt_lit, eq_lit, lit_eq, nt_neg, nt_ge, nt_add, nt_mul, nt_addl, lit_add, nt_mull, lit_mul, nt_sub, nt_subl, lit_sub, nt_divl, nt_m1, nt_m2, nt_m1', nt_m2', if_true, if_false, if_pos, if_neg, e01, e10, em12, em21, e0m1, e0m2, e1m1, e1m2, em10, em20, Int32.reduceLT, Int32.reduceLE, eq_self, Option.bind_some, Option.map_some, false_or, or_false, or_self, true_or, or_true, not_true_eq_false, not_false_eq_true, false_and, and_false, true_and, and_true]
      refine ok_some ?_
      show _ ∧ _
      dsimp only
      refine ⟨rfl, ?_, fun h => absurd h hk0, fun _ => ⟨?_, ?_, ?_, ?_, ?_, ?_⟩⟩
      · rw [decide_eq_true (by omega)]; rfl
      · simp (disch := omega) only [xup_b]
        refine rMa_copy hn hm hD0 ?_
        intro j hj
        rw [Nat.zero_add, h1 j hj]
      · refine ⟨?_, by omega, e, he, ?_, ?_⟩
        · simp (disch := omega) only [xup_bj, xup_j]
          rw [h2 61 26 (by omega), xup_at]
        · simp (disch := omega) only [xup_bj, xup_j]
          rw [h2 61 25 (by omega), xup_j _ _ _ _ (by omega)]
          exact h5
        · intro i hi
          have c72 : ∀ j, (xup (xup (xup I' 61 29 0) 75 0 0) 75 1 0) 72 j = I 72 j := by
            intro j
            simp (disch := omega) only [xup_bj]
            rw [h2 72 j (by omega), xup_bj _ _ _ _ _ (by omega)]
          rw [show e + (k - 1 - 1 - i) = e + (k - 1 - (i + 1)) from by omega]
          exact rMa_copy hn hm (hD (i + 1) (by omega)) (fun j _ => c72 _)
      · simp (disch := omega) only [xup_bj, xup_at]
      · simp (disch := omega) only [xup_j, xup_at]
      · rw [xup_at]
      · intro a j hd
        unfold rReg at hd
        simp (disch := omega) only [xup_no]
        rw [h2 a j (by omega), xup_no _ _ _ _ (by omega)]
/-- the reference's slots -/
def rSl (n m : Nat) (sl : Nat → Option aT) (c73 c74 : Nat → Int32) : Prop := ∀ q, q < 3 → c74 q = bi (sl q).isSome ∧ ∀ w, sl q = some w → rMa n m w c73 (54 * q)
theorem rhold_ok {n m : Nat} {w : aT} {sl : Nat → Option aT} {I : xI} {J : xJ} (hn : n ≤ 6) (hm : m ≤ 4) (h : rMa n m w (I 70) 0) (hs : rSl n m sl (I 73) (I 74)) (x : Int32) : Ok (f_X12_hold x I J) (fun o => o.2.2 = J ∧ o.1 = bi (isS 3 x) ∧ (isS 3 x = false → o.2.1 = I) ∧ (isS 3 x = true → rSl n m (slup sl x.toNatClampNeg w) (o.2.1 73) (o.2.1 74)) ∧ ∀ a j, ¬ a = 73 → ¬ a = 74 → o.2.1 a j = I a j) := by
  unfold f_X12_hold f_X12_hold_0
  rw [rin2_ok, Option.bind_some]
  unfold f_X12_hold_1
  dsimp only
  cases hx : isS 3 x with
  | false => exact ok_some ⟨rfl, rfl, fun _ => rfl, fun h => absurd h (by decide), fun _ _ _ _ => rfl⟩
  | true =>
    obtain ⟨q, hq, rfl⟩ := isS_ex (by omega) hx
    simp only [bi_0, Bool.true_eq_false, if_false]
    rw [nt_clamp (by omega)]
    unfold f_X12_hold_3 f_X12_hold_4
    refine ok_loop (fun i s => ∃ I', s = (nt q, nt i, I', J) ∧ (∀ j, I' 73 j = if 54 * q ≤ j ∧ j < 54 * q + i then I 70 (j - 54 * q) else I 73 j) ∧ ∀ a j, ¬ a = 73 → I' a j = I a j) 54 ?_ ?_ 5000 0 _ (by omega) (by omega) ⟨I, rfl, ?_, fun _ _ _ => rfl⟩
    · rintro i hi s ⟨I', rfl, h1, h2⟩
      simp (disch := omega) only [b_X12_hold_4, f_X12_hold_5, nt_clamp, nt_le, nt_lt, nt_eq, lit_le, lit_lt, le_lit, lt_lit, eq_lit, lit_eq, nt_neg, nt_ge, nt_add, nt_mul, nt_addl, lit_add, nt_mull, lit_mul, nt_sub, nt_subl, lit_sub, nt_divl, nt_m1, nt_m2, nt_m1', nt_m2', if_true, if_false, if_pos, if_neg, e01, e10, em12, em21, e0m1, e0m2, e1m1, e1m2, em10, em20, Int32.reduceLT, Int32.reduceLE, eq_self, Option.bind_some, Option.map_some, false_or, or_false, or_self, true_or, or_true, not_true_eq_false, not_false_eq_true, false_and, and_false, true_and, and_true]
      refine ok_some ⟨_, rfl, ?_, ?_⟩
      · intro j
        rw [xup_if, h1]
        by_cases hj : j = 54 * q + i
        · rw [if_pos hj, if_pos (by omega), h2 70 _ (by omega), show j - 54 * q = i from by omega]
        · rw [if_neg hj]
          by_cases hc : 54 * q ≤ j ∧ j < 54 * q + i
          · rw [if_pos hc, if_pos (by omega)]
          · rw [if_neg hc, if_neg (by omega)]
      · intro a j ha
        rw [xup_bj _ _ _ _ _ ha, h2 a j ha]
    · rintro s ⟨I', rfl, h1, h2⟩
      simp (disch := omega) only [b_X12_hold_4, f_X12_hold_6, nt_clamp, nt_le, nt_lt, nt_eq, lit_le, lit_lt, le_lit, lt_lit, eq_lit, lit_eq, nt_neg, nt_ge, nt_add, nt_mul, nt_addl, lit_add, nt_mull, lit_mul, nt_sub, nt_subl, lit_sub, nt_divl, nt_m1, nt_m2, nt_m1', nt_m2', if_true, if_false, if_pos, if_neg, e01, e10, em12, em21, e0m1, e0m2, e1m1, e1m2, em10, em20, Int32.reduceLT, Int32.reduceLE, eq_self, Option.bind_some, Option.map_some, false_or, or_false, or_self, true_or, or_true, not_true_eq_false, not_false_eq_true, false_and, and_false, true_and, and_true]
      refine ok_some ?_
      show _ ∧ _
      dsimp only
      refine ⟨rfl, rfl, fun h => absurd h (by decide), fun _ => ?_, ?_⟩
      · simp (disch := omega) only [xup_b]
        intro r hr
        rw [xup_if]
        unfold slup
        by_cases hrq : r = q
        · rw [if_pos hrq, if_pos hrq]
          refine ⟨rfl, ?_⟩
          intro w' hw'
          cases hw'
          refine rMa_copy hn hm h ?_
          intro j hj
          rw [h1, if_pos (by omega)]
          congr 1; omega
        · rw [if_neg hrq, if_neg hrq, h2 74 r (by omega)]
          refine ⟨(hs r hr).1, ?_⟩
          intro w' hw'
          refine rMa_copy hn hm ((hs r hr).2 w' hw') ?_
          intro j hj
          rw [h1, if_neg (by omega)]
      · intro a j ha hb
        rw [xup_bj _ _ _ _ _ (by omega)]
        exact h2 a j ha
    · intro j; rw [if_neg (by omega)]
theorem rrest_ok {n m k : Nat} {g : Nat → aT} {sl : Nat → Option aT} {I : xI} {J : xJ} (hn : n ≤ 6) (hm : m ≤ 4) (hs : rSl n m sl (I 73) (I 74)) (hh : rHi n m k g (I 61 25) (I 61 26) (I 72)) (x : Int32) : Ok (f_X12_restore x I J) (fun o => o.2.2 = J ∧ o.1 = bi (slR sl x) ∧ (slR sl x = false → o.2.1 = I) ∧ (slR sl x = true → ∃ w, sl x.toNatClampNeg = some w ∧ rMa n m w (o.2.1 70) 0 ∧ rHi n m 0 (fun _ => w) (o.2.1 61 25) (o.2.1 61 26) (o.2.1 72) ∧ o.2.1 61 29 = 0 ∧ o.2.1 75 0 = 0 ∧ o.2.1 75 1 = 0 ∧ ∀ a j, ¬ rReg a j → o.2.1 a j = I a j)) := by
  obtain ⟨h6, hk, e, he, h5, hD⟩ := hh
  unfold f_X12_restore f_X12_restore_0
  rw [rin2_ok, Option.bind_some]
  unfold f_X12_restore_1 slR
  dsimp only
  cases hx : isS 3 x with
  | false =>
    rw [Bool.false_and]
    exact ok_some ⟨rfl, rfl, fun _ => rfl, fun h => absurd h (by decide)⟩
  | true =>
    obtain ⟨q, hq, rfl⟩ := isS_ex (by omega) hx
    simp only [bi_0, Bool.true_eq_false, if_false, Bool.true_and]
    unfold f_X12_restore_2
    simp (disch := omega) only [nt_clamp, nt_le, nt_lt, nt_eq, lit_le, lit_lt, le_lit, lt_lit, eq_lit, lit_eq, nt_neg, nt_ge, nt_add, nt_mul, nt_addl, lit_add, nt_mull, lit_mul, nt_sub, nt_subl, lit_sub, nt_divl, nt_m1, nt_m2, nt_m1', nt_m2', if_true, if_false, if_pos, if_neg, e01, e10, em12, em21, e0m1, e0m2, e1m1, e1m2, em10, em20, Int32.reduceLT, Int32.reduceLE, eq_self, Option.bind_some, Option.map_some, false_or, or_false, or_self, true_or, or_true, not_true_eq_false, not_false_eq_true, false_and, and_false, true_and, and_true, (hs q (by omega)).1, bi_0]
    cases hw : sl q with
    | none => exact ok_some ⟨rfl, rfl, fun _ => rfl, fun h => absurd h (by decide)⟩
    | some w =>
      simp only [Option.isSome_some, Bool.true_eq_false, if_false]
      have hmw := (hs q (by omega)).2 w hw
      unfold f_X12_restore_4 f_X12_restore_5
      refine ok_loop (fun i s => ∃ I', s = (nt q, nt i, I', J) ∧ (∀ j, j < i → I' 70 j = I 73 (54 * q + j)) ∧ ∀ a j, ¬ a = 70 → I' a j = I a j) 54 ?_ ?_ 5000 0 _ (by omega) (by omega) ⟨I, rfl, fun j hj => absurd hj (by omega), fun _ _ _ => rfl⟩
      · rintro i hi s ⟨I', rfl, h1, h2⟩
        simp (disch := omega) only [b_X12_restore_5, f_X12_restore_6, nt_clamp, nt_le, nt_lt, nt_eq, lit_le, lit_lt, le_lit, lt_lit, eq_lit, lit_eq, nt_neg, nt_ge, nt_add, nt_mul, nt_addl, lit_add, nt_mull, lit_mul, nt_sub, nt_subl, lit_sub, nt_divl, nt_m1, nt_m2, nt_m1', nt_m2', if_true, if_false, if_pos, if_neg, e01, e10, em12, em21, e0m1, e0m2, e1m1, e1m2, em10, em20, Int32.reduceLT, Int32.reduceLE, eq_self, Option.bind_some, Option.map_some, false_or, or_false, or_self, true_or, or_true, not_true_eq_false, not_false_eq_true, false_and, and_false, true_and, and_true]
        refine ok_some ⟨_, rfl, ?_, ?_⟩
        · intro j hj
          rw [xup_if]
          by_cases hj : j = i
          · rw [if_pos hj, h2 73 _ (by omega), hj]
          · rw [if_neg hj, h1 j (by omega)]
        · intro a j ha
          rw [xup_bj _ _ _ _ _ ha, h2 a j ha]
      · rintro s ⟨I', rfl, h1, h2⟩
        simp (disch := omega) only [b_X12_restore_5, f_X12_restore_7, f_X12_restore_8, f_X12_changes_0, f_X12_changes, nt_clamp, nt_le, nt_lt, nt_eq, lit_le, lit_lt, le_lit, lt_lit, eq_lit, lit_eq, nt_neg, nt_ge, nt_add, nt_mul, nt_addl, lit_add, nt_mull, lit_mul, nt_sub, nt_subl, lit_sub, nt_divl, nt_m1, nt_m2, nt_m1', nt_m2', if_true, if_false, if_pos, if_neg, e01, e10, em12, em21, e0m1, e0m2, e1m1, e1m2, em10, em20, Int32.reduceLT, Int32.reduceLE, eq_self, Option.bind_some, Option.map_some, false_or, or_false, or_self, true_or, or_true, not_true_eq_false, not_false_eq_true, false_and, and_false, true_and, and_true]
        refine ok_some ?_
        show _ ∧ _
        dsimp only
        refine ⟨rfl, rfl, fun h => absurd h (by decide), fun _ => ⟨w, rfl, ?_, ?_, ?_, ?_, ?_, ?_⟩⟩
        · simp (disch := omega) only [xup_b]
          refine rMa_copy hn hm hmw ?_
          intro j hj
          rw [Nat.zero_add, h1 j hj]
        · refine ⟨?_, by omega, e, he, ?_, fun i hi => absurd hi (by omega)⟩
          · simp (disch := omega) only [xup_bj, xup_j, xup_at]
            rfl
          · simp (disch := omega) only [xup_bj, xup_j]
            rw [h2 61 25 (by omega)]
            exact h5
        · simp (disch := omega) only [xup_bj, xup_at]
        · simp (disch := omega) only [xup_j, xup_at]
        · rw [xup_at]
        · intro a j hd
          unfold rReg at hd
          simp (disch := omega) only [xup_no]
          rw [h2 a j (by omega)]
theorem rmove_ok {n m : Nat} {w : aT} {I : xI} {J : xJ} (hn : n ≤ 6) (hm : m ≤ 4) (h0 : I 61 17 = nt n) (h1 : I 61 18 = nt m) (h : rMa n m w (I 70) 0) (a b c : Int32) : f_X12_move a b c I J = some (moveR n m w a b c, I, J) := by
  unfold f_X12_move f_X12_move_0 moveR
  rw [isMove_ok h0 (by omega) h1 (by omega), Option.bind_some]
  unfold f_X12_move_1
  dsimp only
  cases ha : isS n a with
  | false => rfl
  | true =>
    cases hb : isS m b with
    | false => rfl
    | true =>
      show f_X12_move_2 a b c I J = _
      unfold f_X12_move_2
      rw [rin1_ok, Option.bind_some]
      unfold f_X12_move_3
      dsimp only
      cases hc : isS 2 c with
      | false => rfl
      | true =>
        show f_X12_move_5 a b c I J = _
        obtain ⟨s, hs, rfl⟩ := isS_ex (by omega) ha
        obtain ⟨x, hx, rfl⟩ := isS_ex (by omega) hb
        simp (disch := omega) only [f_X12_move_5, f_X12_move_6, f_X12_move_7, f_X12_move_8, f_X12_move_9, nt_clamp, nt_le, nt_lt, nt_eq, lit_le, lit_lt, le_lit, lt_lit, eq_lit, lit_eq, nt_neg, nt_ge, nt_add, nt_mul, nt_addl, lit_add, nt_mull, lit_mul, nt_sub, nt_subl, lit_sub, nt_divl, nt_m1, nt_m2, nt_m1', nt_m2', to_ok hn hm h hs hx, answer_ok hn hm h hs hx, Option.bind_some, Bool.and_self, if_true]
        by_cases h0 : c = 0
        · rw [if_pos h0, if_pos h0]
        · rw [if_neg h0, if_neg h0]
