/-! set, code, undo, hold, restore, move of the class -/
/-- the cells of the class that a deed may change -/
def dReg (a j : Nat) : Prop := a = 2 ∨ a = 3 ∨ a = 4 ∨ (a = 1 ∧ j = 2) ∨ a = 6 ∨ a = 7 ∨ a = 8 ∨ a = 9 ∨ (a = 5 ∧ (j = 5 ∨ j = 6))
theorem keepMove_ok {n m k : Nat} {g : Nat → aT} {I : xI} {J : xJ} (hn : n ≤ 6) (hm : m ≤ 4) (V : Vd n m (g 0)) (h : cMa n m (g 0) (I 1 0) (I 1 1) (I 2) (I 3) (I 4)) (hh : cHi n m k g (I 5 5) (I 5 6) (I 6) (I 7) (I 8) (I 9)) {s x : Nat} (hs : s < n) (hx : x < m) (t a : Option Nat) : Ok (f_X4_keepMove (nt s) (nt x) I J) (fun o => o.2.2 = J ∧ cHi n m (min (k + 1) 40) (push (aset (g 0) s x t a) g) (o.2.1 5 5) (o.2.1 5 6) (o.2.1 6) (o.2.1 7) (o.2.1 8) (o.2.1 9) ∧ ∀ a j, ¬ a = 6 → ¬ a = 7 → ¬ a = 8 → ¬ a = 9 → ¬ (a = 5 ∧ (j = 5 ∨ j = 6)) → o.2.1 a j = I a j) := by
  obtain ⟨h6, hk, p, hp, h5, hD⟩ := hh
  simp (disch := omega) only [f_X4_keepMove_3, f_X4_keepMove_2, f_X4_keepMove_1, f_X4_keepMove_0, f_X4_keepMove, targetOf_ok hn hm V h, answerOf_ok hn hm V h, if_true, if_false, if_pos, if_neg, e01, e10, em12, em21, e0m1, e0m2, e1m1, e1m2, em10, em20, Int32.reduceLT, Int32.reduceLE, eq_self, Option.bind_some, Option.map_some, false_or, or_false, or_self, true_or, or_true, not_true_eq_false, not_false_eq_true, false_and, and_false, true_and, and_true]
  apply ok_bind
  refine (keep_ok hp hk h5 h6).imp ?_
  rintro ⟨_, I1, J1⟩ ⟨rfl, k5, k6, q6, q7, q8, q9, fr⟩
  refine ok_some ⟨rfl, ?_, fr⟩
  refine cHi_push hp h5 ⟨h6, hk, p, hp, h5, hD⟩ k5 k6 q6 q7 q8 q9 ?_
  exact Or.inr ⟨s, x, (g 0).1 s x, (g 0).2.1 s x, hs, hx, rfl, rfl, rfl, rfl, fun t' e => (V.1 s x t' e).2.2, fun u e => (V.2.1 s x u e).2.2, (aset_back (g 0) s x t a).symm⟩
theorem keepCode_ok {n m k : Nat} {g : Nat → aT} {I : xI} {J : xJ} (hn : n ≤ 6) (V : Vd n m (g 0)) (h : cMa n m (g 0) (I 1 0) (I 1 1) (I 2) (I 3) (I 4)) (hh : cHi n m k g (I 5 5) (I 5 6) (I 6) (I 7) (I 8) (I 9)) {s : Nat} (hs : s < n) (c : Nat) : Ok (f_X4_keepCode (nt s) I J) (fun o => o.2.2 = J ∧ cHi n m (min (k + 1) 40) (push (acode (g 0) s c) g) (o.2.1 5 5) (o.2.1 5 6) (o.2.1 6) (o.2.1 7) (o.2.1 8) (o.2.1 9) ∧ ∀ a j, ¬ a = 6 → ¬ a = 7 → ¬ a = 8 → ¬ a = 9 → ¬ (a = 5 ∧ (j = 5 ∨ j = 6)) → o.2.1 a j = I a j) := by
  obtain ⟨h6, hk, p, hp, h5, hD⟩ := hh
  simp (disch := omega) only [f_X4_keepCode_3, f_X4_keepCode_2, f_X4_keepCode_1, f_X4_keepCode_0, f_X4_keepCode, hasState_ok h.1, isS_nt, decide_eq_true, bi_0, nt_clamp, nt_le, nt_lt, nt_eq, lit_le, lit_lt, le_lit, lt_lit, eq_lit, lit_eq, nt_neg, nt_ge, nt_add, nt_mul, nt_addl, lit_add, nt_mull, lit_mul, nt_sub, nt_subl, lit_sub, nt_divl, nt_m1, nt_m2, nt_m1', nt_m2', if_true, if_false, if_pos, if_neg, e01, e10, em12, em21, e0m1, e0m2, e1m1, e1m2, em10, em20, Int32.reduceLT, Int32.reduceLE, eq_self, Option.bind_some, Option.map_some, false_or, or_false, or_self, true_or, or_true, not_true_eq_false, not_false_eq_true, false_and, and_false, true_and, and_true]
  simp (disch := omega) only [Bool.true_eq_false, if_true, if_false, if_pos, if_neg, e01, e10, em12, em21, e0m1, e0m2, e1m1, e1m2, em10, em20, Int32.reduceLT, Int32.reduceLE, eq_self, Option.bind_some, Option.map_some, false_or, or_false, or_self, true_or, or_true, not_true_eq_false, not_false_eq_true, false_and, and_false, true_and, and_true, h.2.2.2.2 s (by omega)]
  apply ok_bind
  refine (keep_ok hp hk h5 h6).imp ?_
  rintro ⟨_, I1, J1⟩ ⟨rfl, k5, k6, q6, q7, q8, q9, fr⟩
  refine ok_some ⟨rfl, ?_, fr⟩
  refine cHi_push hp h5 ⟨h6, hk, p, hp, h5, hD⟩ k5 k6 q6 q7 q8 q9 ?_
  exact Or.inl ⟨s, (g 0).2.2 s, hs, rfl, rfl, rfl, V.2.2 s, (acode_back (g 0) s c).symm⟩
theorem setOk_ex {n m : Nat} {a b c d : Int32} (hn : n ≤ 6) (hm : m ≤ 4) (h : setOk n m a b c d = true) : (∃ s x, s < n ∧ x < m ∧ a = nt s ∧ b = nt x) ∧ (ov (po c) = c ∧ ∀ k, po c = some k → k < n) ∧ (ov (po d) = d ∧ ∀ k, po d = some k → k < 4) := by
  unfold setOk at h
  rw [Bool.and_eq_true, Bool.and_eq_true, Bool.and_eq_true] at h
  obtain ⟨s, hs, rfl⟩ := isS_ex (by omega) h.1.1.1
  obtain ⟨x, hx, rfl⟩ := isS_ex (by omega) h.1.1.2
  exact ⟨⟨s, x, hs, hx, rfl, rfl⟩, ov_po (by omega) h.1.2, ov_po (by omega) h.2⟩
theorem cset_12 {n m : Nat} {I : xI} {J : xJ} (hn : n ≤ 6) (hm : m ≤ 4) (h0 : I 1 0 = nt n) (h1 : I 1 1 = nt m) (a b c d : Int32) : f_X11_set a b c d I J = f_X11_set_12 a b c d (bi (setOk n m a b c d)) I J := by
  have b7 : f_X11_set_7 a b c d I J = f_X11_set_12 a b c d (bi (decide (d = -2) || isS 4 d)) I J := by
    unfold f_X11_set_7
    by_cases hd : d = -2
    · rw [if_pos hd, decide_eq_true hd]; rfl
    · rw [if_neg hd, decide_eq_false hd, Bool.false_or]
      unfold f_X11_set_8
      rcases nt_all d with hx | ⟨j, hj, rfl⟩
      · rw [if_pos hx, isS_neg hx]; rfl
      · rw [isS_nt (by omega) hj]
        unfold f_X11_set_9
        simp (disch := omega) only [nt_clamp, nt_le, nt_lt, nt_eq, lit_le, lit_lt, le_lit, lt_lit, eq_lit, lit_eq, nt_neg, nt_ge, nt_add, nt_mul, nt_addl, lit_add, nt_mull, lit_mul, nt_sub, nt_subl, lit_sub, nt_divl, nt_m1, nt_m2, nt_m1', nt_m2', if_true, if_false, if_pos, if_neg, e01, e10, em12, em21, e0m1, e0m2, e1m1, e1m2, em10, em20, Int32.reduceLT, Int32.reduceLE, eq_self, Option.bind_some, Option.map_some, false_or, or_false, or_self, true_or, or_true, not_true_eq_false, not_false_eq_true, false_and, and_false, true_and, and_true]
        by_cases hc : 3 < j
        · rw [if_pos hc, decide_eq_false (by omega)]; rfl
        · rw [if_neg hc, decide_eq_true (by omega)]; rfl
  have b4 : f_X11_set_4 a b c d I J = f_X11_set_12 a b c d (bi ((decide (c = -2) || isS n c) && (decide (d = -2) || isS 4 d))) I J := by
    unfold f_X11_set_4
    by_cases hc : c = -2
    · rw [if_pos hc, decide_eq_true hc, b7]; rfl
    · rw [if_neg hc, decide_eq_false hc, Bool.false_or]
      unfold f_X11_set_5
      rw [hasState_ok h0 (by omega), Option.bind_some]
      unfold f_X11_set_6
      dsimp only
      cases isS n c with
      | false => rfl
      | true => exact b7
  unfold f_X11_set f_X11_set_0
  rw [hasState_ok h0 (by omega), Option.bind_some]
  unfold f_X11_set_1 setOk
  dsimp only
  cases isS n a with
  | false => rfl
  | true =>
    show f_X11_set_2 a b c d I J = _
    unfold f_X11_set_2
    rw [hasInput_ok h1 (by omega), Option.bind_some]
    unfold f_X11_set_3
    dsimp only
    cases isS m b with
    | false => rfl
    | true => exact b4
theorem cset_ok {n m k : Nat} {g : Nat → aT} {I : xI} {J : xJ} (hn : n ≤ 6) (hm : m ≤ 4) (V : Vd n m (g 0)) (h : cMa n m (g 0) (I 1 0) (I 1 1) (I 2) (I 3) (I 4)) (hh : cHi n m k g (I 5 5) (I 5 6) (I 6) (I 7) (I 8) (I 9)) (a b c d : Int32) : Ok (f_X11_set a b c d I J) (fun o => o.2.2 = J ∧ o.1 = bi (setR n m (g 0) a b c d) ∧ (setR n m (g 0) a b c d = false → o.2.1 = I) ∧ (setR n m (g 0) a b c d = true → cMa n m (aset (g 0) a.toNatClampNeg b.toNatClampNeg (po c) (po d)) (o.2.1 1 0) (o.2.1 1 1) (o.2.1 2) (o.2.1 3) (o.2.1 4) ∧ cHi n m (min (k + 1) 40) (push (aset (g 0) a.toNatClampNeg b.toNatClampNeg (po c) (po d)) g) (o.2.1 5 5) (o.2.1 5 6) (o.2.1 6) (o.2.1 7) (o.2.1 8) (o.2.1 9) ∧ o.2.1 1 2 = I 1 2 + 1 ∧ ∀ a j, ¬ dReg a j → o.2.1 a j = I a j)) := by
  have hf : setOk n m a b c d = false → f_X11_set a b c d I J = some (0, I, J) := by
    intro hs
    rw [cset_12 hn hm h.1 h.2.1, hs]; rfl
  cases hs : setOk n m a b c d with
  | false =>
    refine ok_of (hf hs) ?_
    have e : setR n m (g 0) a b c d = false := by unfold setR; rw [hs]; rfl
    rw [e]
    exact ⟨rfl, rfl, fun _ => rfl, fun h => absurd h (by decide)⟩
  | true =>
    obtain ⟨⟨s, x, hs1, hx1, rfl, rfl⟩, ⟨ec, bc⟩, ed, bd⟩ := setOk_ex hn hm hs
    have hh1 : f_X11_set (nt s) (nt x) c d I J = if ov ((g 0).1 s x) = c then (if ov ((g 0).2.1 s x) = d then some (0, I, J) else f_X11_set_18 (nt s) (nt x) c d 1 I J) else f_X11_set_18 (nt s) (nt x) c d 1 I J := by
      rw [cset_12 hn hm h.1 h.2.1, hs]
      show f_X11_set_13 (nt s) (nt x) c d 1 I J = _
      simp (disch := omega) only [f_X11_set_13, f_X11_set_14, f_X11_set_15, f_X11_set_16, f_X11_set_17, targetOf_ok hn hm V h, answerOf_ok hn hm V h, Option.bind_some]
    have hb1 : ∀ k, (g 0).1 s x = some k → k < 2147483648 := fun k e => by have := (V.1 s x k e).2.2; omega
    have hb2 : ∀ k, (g 0).2.1 s x = some k → k < 2147483648 := fun k e => by have := (V.2.1 s x k e).2.2; omega
    have ee : (if ov ((g 0).1 s x) = c then (if ov ((g 0).2.1 s x) = d then some (0, I, J) else f_X11_set_18 (nt s) (nt x) c d 1 I J) else f_X11_set_18 (nt s) (nt x) c d 1 I J) = if setR n m (g 0) (nt s) (nt x) c d = false then some (0, I, J) else f_X11_set_18 (nt s) (nt x) c d 1 I J := by
      unfold setR
      rw [hs, nt_clamp (by omega), nt_clamp (by omega), Bool.true_and]
      have e1 : (ov ((g 0).1 s x) = c) = ((g 0).1 s x = po c) := by
        rw [← ov_eq hb1 (fun k e => by have := bc k e; omega), ec]
      have e2 : (ov ((g 0).2.1 s x) = d) = ((g 0).2.1 s x = po d) := by
        rw [← ov_eq hb2 (fun k e => by have := bd k e; omega), ed]
      simp only [e1, e2]
      by_cases c1 : (g 0).1 s x = po c
      · by_cases c2 : (g 0).2.1 s x = po d
        · simp [c1, c2]
        · simp [c1, c2]
      · simp [c1]
    rw [hh1, ee, nt_clamp (by omega), nt_clamp (by omega)]
    cases hr : setR n m (g 0) (nt s) (nt x) c d with
    | false =>
      rw [if_pos rfl]
      exact ok_some ⟨rfl, rfl, fun _ => rfl, fun h => absurd h (by decide)⟩
    | true =>
      rw [if_neg (by decide)]
      simp only [f_X11_set_18, f_X11_set_19, f_X11_set_20]
      apply ok_bind
      refine (keepMove_ok hn hm V h hh hs1 hx1 (po c) (po d)).imp ?_
      rintro ⟨_, I1, J1⟩ ⟨rfl, q1, f1⟩
      dsimp only at q1 f1 ⊢
      apply ok_bind
      refine (putMove_ok (I := I1) hn hm ((f1 1 0 (by omega) (by omega) (by omega) (by omega) (by omega)).trans h.1) ((f1 1 1 (by omega) (by omega) (by omega) (by omega) (by omega)).trans h.2.1) hs1 hx1).imp ?_
      rintro ⟨_, I2, J2⟩ ⟨rfl, p1, p2, p3, f2⟩
      dsimp only at p1 p2 p3 f2 ⊢
      refine ok_some ⟨rfl, rfl, fun h => absurd h (by decide), fun _ => ⟨?_, ?_, ?_, ?_⟩⟩
      · refine cMa_set h (by omega) (by omega) ?_ ?_ ?_ ?_ ?_
        · exact (f2 1 0 (by omega) (by omega) (by omega)).trans (f1 1 0 (by omega) (by omega) (by omega) (by omega) (by omega))
        · exact (f2 1 1 (by omega) (by omega) (by omega)).trans (f1 1 1 (by omega) (by omega) (by omega) (by omega) (by omega))
        · intro j; dsimp only; rw [p2, f1 2 j (by omega) (by omega) (by omega) (by omega) (by omega), ec]
        · intro j; dsimp only; rw [p3, f1 3 j (by omega) (by omega) (by omega) (by omega) (by omega), ed]
        · funext j; exact (f2 4 j (by omega) (by omega) (by omega)).trans (f1 4 j (by omega) (by omega) (by omega) (by omega) (by omega))
      · have e5 : I2 5 5 = I1 5 5 := f2 5 5 (by omega) (by omega) (by omega)
        have e6 : I2 5 6 = I1 5 6 := f2 5 6 (by omega) (by omega) (by omega)
        have g6 : I2 6 = I1 6 := funext fun j => f2 6 j (by omega) (by omega) (by omega)
        have g7 : I2 7 = I1 7 := funext fun j => f2 7 j (by omega) (by omega) (by omega)
        have g8 : I2 8 = I1 8 := funext fun j => f2 8 j (by omega) (by omega) (by omega)
        have g9 : I2 9 = I1 9 := funext fun j => f2 9 j (by omega) (by omega) (by omega)
        dsimp only
        rw [e5, e6, g6, g7, g8, g9]
        exact q1
      · dsimp only
        rw [p1, f1 1 2 (by omega) (by omega) (by omega) (by omega) (by omega)]
      · intro a j hd
        unfold dReg at hd
        exact (f2 a j (by omega) (by omega) (by omega)).trans (f1 a j (by omega) (by omega) (by omega) (by omega) (by omega))
