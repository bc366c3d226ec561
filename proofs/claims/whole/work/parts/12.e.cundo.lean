/-! code, undo, hold, restore, move of the class -/
def codeR (n : Nat) (w : aT) (a b : Int32) : Bool := isS n a && isS 8 b && !decide (w.2.2 a.toNatClampNeg = b.toNatClampNeg)
theorem ccode_ok {n m k : Nat} {g : Nat → aT} {I : xI} {J : xJ} (hn : n ≤ 6) (V : Vd n m (g 0)) (h : cMa n m (g 0) (I 1 0) (I 1 1) (I 2) (I 3) (I 4)) (hh : cHi n m k g (I 5 5) (I 5 6) (I 6) (I 7) (I 8) (I 9)) (a b : Int32) : Ok (f_X11_code a b I J) (fun o => o.2.2 = J ∧ o.1 = bi (codeR n (g 0) a b) ∧ (codeR n (g 0) a b = false → o.2.1 = I) ∧ (codeR n (g 0) a b = true → cMa n m (acode (g 0) a.toNatClampNeg b.toNatClampNeg) (o.2.1 1 0) (o.2.1 1 1) (o.2.1 2) (o.2.1 3) (o.2.1 4) ∧ cHi n m (min (k + 1) 40) (push (acode (g 0) a.toNatClampNeg b.toNatClampNeg) g) (o.2.1 5 5) (o.2.1 5 6) (o.2.1 6) (o.2.1 7) (o.2.1 8) (o.2.1 9) ∧ o.2.1 1 2 = I 1 2 ∧ ∀ a j, ¬ dReg a j → o.2.1 a j = I a j)) := by
  unfold f_X11_code f_X11_code_0
  rw [hasState_ok h.1 (by omega), Option.bind_some]
  unfold f_X11_code_1
  dsimp only
  cases ha : isS n a with
  | false =>
    have e : codeR n (g 0) a b = false := by unfold codeR; rw [ha]; rfl
    rw [e]
    exact ok_some ⟨rfl, rfl, fun _ => rfl, fun h => absurd h (by decide)⟩
  | true =>
    obtain ⟨s, hs, rfl⟩ := isS_ex (by omega) ha
    simp only [bi_0, Bool.true_eq_false, if_false]
    unfold f_X11_code_2 f_X11_code_3
    rcases nt_all b with hx | ⟨c, hc, rfl⟩
    · have e : codeR n (g 0) (nt s) b = false := by unfold codeR; rw [isS_neg hx, Bool.and_false]; rfl
      rw [if_pos hx, e]
      exact ok_some ⟨rfl, rfl, fun _ => rfl, fun h => absurd h (by decide)⟩
    · simp (disch := omega) only [nt_clamp, nt_le, nt_lt, nt_eq, lit_le, lit_lt, le_lit, lt_lit, eq_lit, lit_eq, nt_neg, nt_ge, nt_add, nt_mul, nt_addl, lit_add, nt_mull, lit_mul, nt_sub, nt_subl, lit_sub, nt_divl, nt_m1, nt_m2, nt_m1', nt_m2', if_true, if_false, if_pos, if_neg, e01, e10, em12, em21, e0m1, e0m2, e1m1, e1m2, em10, em20, Int32.reduceLT, Int32.reduceLE, eq_self, Option.bind_some, Option.map_some, false_or, or_false, or_self, true_or, or_true, not_true_eq_false, not_false_eq_true, false_and, and_false, true_and, and_true]
      by_cases hc8 : 8 ≤ c
      · have e : codeR n (g 0) (nt s) (nt c) = false := by unfold codeR; rw [isS_nt (n := 8) (by omega) hc, decide_eq_false (by omega), Bool.and_false]; rfl
        rw [if_pos hc8, e]
        exact ok_some ⟨rfl, rfl, fun _ => rfl, fun h => absurd h (by decide)⟩
      · rw [if_neg hc8]
        unfold f_X11_code_4
        have hv := V.2.2 s
        simp (disch := omega) only [nt_clamp, nt_le, nt_lt, nt_eq, lit_le, lit_lt, le_lit, lt_lit, eq_lit, lit_eq, nt_neg, nt_ge, nt_add, nt_mul, nt_addl, lit_add, nt_mull, lit_mul, nt_sub, nt_subl, lit_sub, nt_divl, nt_m1, nt_m2, nt_m1', nt_m2', if_true, if_false, if_pos, if_neg, e01, e10, em12, em21, e0m1, e0m2, e1m1, e1m2, em10, em20, Int32.reduceLT, Int32.reduceLE, eq_self, Option.bind_some, Option.map_some, false_or, or_false, or_self, true_or, or_true, not_true_eq_false, not_false_eq_true, false_and, and_false, true_and, and_true, h.2.2.2.2 s (by omega)]
        by_cases he : (g 0).2.2 s = c
        · have e : codeR n (g 0) (nt s) (nt c) = false := by unfold codeR; rw [nt_clamp (by omega), nt_clamp hc, decide_eq_true he, Bool.not_true, Bool.and_false]
          rw [if_pos he, e]
          exact ok_some ⟨rfl, rfl, fun _ => rfl, fun h => absurd h (by decide)⟩
        · have e : codeR n (g 0) (nt s) (nt c) = true := by
            unfold codeR
            rw [nt_clamp (by omega), nt_clamp hc, decide_eq_false he, ha, isS_nt (n := 8) (by omega) hc, decide_eq_true (by omega)]
            rfl
          rw [if_neg he, e]
          unfold f_X11_code_6
          apply ok_bind
          refine (keepCode_ok hn V h hh hs c).imp ?_
          rintro ⟨_, I1, J1⟩ ⟨rfl, q1, f1⟩
          dsimp only at q1 f1 ⊢
          unfold f_X11_code_7
          rw [putCode_ok hn ((f1 1 0 (by omega) (by omega) (by omega) (by omega) (by omega)).trans h.1) hs, Option.bind_some]
          refine ok_some ⟨rfl, rfl, fun h => absurd h (by decide), fun _ => ⟨?_, ?_, ?_, ?_⟩⟩
          · dsimp only
            refine cMa_code h ?_ ?_ ?_ ?_ ?_
            · rw [xup_bj _ _ _ _ _ (by omega), f1 1 0 (by omega) (by omega) (by omega) (by omega) (by omega)]
            · rw [xup_bj _ _ _ _ _ (by omega), f1 1 1 (by omega) (by omega) (by omega) (by omega) (by omega)]
            · rw [xup_b _ _ _ _ (by omega)]
              exact funext fun j => f1 2 j (by omega) (by omega) (by omega) (by omega) (by omega)
            · rw [xup_b _ _ _ _ (by omega)]
              exact funext fun j => f1 3 j (by omega) (by omega) (by omega) (by omega) (by omega)
            · intro j; rw [xup_if, f1 4 j (by omega) (by omega) (by omega) (by omega) (by omega)]
          · dsimp only
            simp (disch := omega) only [xup_b]
            exact q1
          · dsimp only
            rw [xup_bj _ _ _ _ _ (by omega), f1 1 2 (by omega) (by omega) (by omega) (by omega) (by omega)]
          · intro a j hd
            unfold dReg at hd
            dsimp only
            rw [xup_bj _ _ _ _ _ (by omega), f1 a j (by omega) (by omega) (by omega) (by omega) (by omega)]
theorem ov_m1 {t : Option Nat} (h : ∀ k, t = some k → k < 2147483648) : ¬ (ov t = -1) := by
  cases t with
  | none => decide
  | some k => show ¬ (nt k = -1); rw [nt_m1 (h k rfl)]; exact id
theorem cundo_ok {n m k : Nat} {g : Nat → aT} {I : xI} {J : xJ} (hn : n ≤ 6) (hm : m ≤ 4) (h : cMa n m (g 0) (I 1 0) (I 1 1) (I 2) (I 3) (I 4)) (hh : cHi n m k g (I 5 5) (I 5 6) (I 6) (I 7) (I 8) (I 9)) : Ok (f_X11_undo I J) (fun o => o.2.2 = J ∧ o.1 = bi (decide (0 < k)) ∧ (k = 0 → o.2.1 = I) ∧ (0 < k → cMa n m (g 1) (o.2.1 1 0) (o.2.1 1 1) (o.2.1 2) (o.2.1 3) (o.2.1 4) ∧ cHi n m (k - 1) (fun i => g (i + 1)) (o.2.1 5 5) (o.2.1 5 6) (o.2.1 6) (o.2.1 7) (o.2.1 8) (o.2.1 9) ∧ ((o.2.1 1 2 = I 1 2 ∧ (g 1).1 = (g 0).1 ∧ (g 1).2.1 = (g 0).2.1) ∨ o.2.1 1 2 = I 1 2 + 1) ∧ ∀ a j, ¬ dReg a j → o.2.1 a j = I a j)) := by
  obtain ⟨h6, hk, p, hp, h5, hD⟩ := hh
  unfold f_X11_undo f_X11_undo_0
  by_cases hk0 : k = 0
  · subst hk0
    simp (disch := omega) only [f_X4_takeBack_6, f_X4_takeBack_5, f_X4_takeBack_4, f_X4_takeBack_3, f_X4_takeBack_2, f_X4_takeBack_1, f_X4_takeBack_0, f_X4_takeBack, f_X11_undo_1, f_X11_undo_0, f_X11_undo, h6, nt_clamp, nt_le, nt_lt, nt_eq, lit_le, lit_lt, le_lit, lt_lit, eq_lit, lit_eq, nt_neg, nt_ge, nt_add, nt_mul, nt_addl, lit_add, nt_mull, lit_mul, nt_sub, nt_subl, lit_sub, nt_divl, nt_m1, nt_m2, nt_m1', nt_m2', if_true, if_false, if_pos, if_neg, e01, e10, em12, em21, e0m1, e0m2, e1m1, e1m2, em10, em20, Int32.reduceLT, Int32.reduceLE, eq_self, Option.bind_some, Option.map_some, false_or, or_false, or_self, true_or, or_true, not_true_eq_false, not_false_eq_true, false_and, and_false, true_and, and_true]
    exact ok_some ⟨rfl, rfl, fun _ => rfl, fun h => absurd h (by omega)⟩
  · have e1 : (p + 40 - 1 - (p + 40 - 1) / 40 * 40) = (p + 79 - 0) % 40 := by omega
    have hD0 := hD 0 (by omega)
    have hq : (p + 79 - 0) % 40 < 40 := by omega
    have hki : ∀ i, i < k - 1 → Dd n m (I 6 (((p + 79 - 0) % 40 + 79 - i) % 40)) (I 7 (((p + 79 - 0) % 40 + 79 - i) % 40)) (I 8 (((p + 79 - 0) % 40 + 79 - i) % 40)) (I 9 (((p + 79 - 0) % 40 + 79 - i) % 40)) (g (i + 1)) (g (i + 1 + 1)) := by
      intro i hi
      have e : ((p + 79 - 0) % 40 + 79 - i) % 40 = (p + 79 - (i + 1)) % 40 := by omega
      rw [e]
      exact hD (i + 1) (by omega)
    revert hD0 hq hki e1
    generalize (p + 79 - 0) % 40 = q
    intro e1 hD0 hq hki
    have tb : f_X4_takeBack I J = if I 7 q = -1 then f_X4_takeBack_3 (xup (xup I 5 6 (nt (k - 1))) 5 5 (nt q)) J else f_X4_takeBack_5 (xup (xup I 5 6 (nt (k - 1))) 5 5 (nt q)) J := by
      simp (disch := omega) only [f_X4_takeBack, f_X4_takeBack_0, f_X4_takeBack_2, h6, h5, nt_clamp, nt_le, nt_lt, nt_eq, lit_le, lit_lt, le_lit, lt_lit, eq_lit, lit_eq, nt_neg, nt_ge, nt_add, nt_mul, nt_addl, lit_add, nt_mull, lit_mul, nt_sub, nt_subl, lit_sub, nt_divl, nt_m1, nt_m2, nt_m1', nt_m2', if_true, if_false, if_pos, if_neg, e01, e10, em12, em21, e0m1, e0m2, e1m1, e1m2, em10, em20, Int32.reduceLT, Int32.reduceLE, eq_self, Option.bind_some, Option.map_some, false_or, or_false, or_self, true_or, or_true, not_true_eq_false, not_false_eq_true, false_and, and_false, true_and, and_true, xup_at, xup_j, xup_bj, e1]
    rw [tb]
    rcases hD0 with ⟨s, c, hs, a1, a2, a3, hc, hw⟩ | ⟨s, x, t, u, hs, hx, a1, a2, a3, a4, ht, hu, hw⟩
    · rw [if_pos a2]
      have hp0 : (xup (xup I 5 6 (nt (k - 1))) 5 5 (nt q)) 1 0 = nt n := by simp (disch := omega) only [xup_bj]; exact h.1
      have hc2 := putCode_ok (J := J) (c := nt c) hn hp0 hs
      simp (disch := omega) only [f_X4_takeBack_3, f_X4_takeBack_4, f_X4_takeBack_6, xup_at, xup_bj, a1, a3, nt_clamp, nt_le, nt_lt, nt_eq, lit_le, lit_lt, le_lit, lt_lit, eq_lit, lit_eq, nt_neg, nt_ge, nt_add, nt_mul, nt_addl, lit_add, nt_mull, lit_mul, nt_sub, nt_subl, lit_sub, nt_divl, nt_m1, nt_m2, nt_m1', nt_m2', if_true, if_false, if_pos, if_neg, e01, e10, em12, em21, e0m1, e0m2, e1m1, e1m2, em10, em20, Int32.reduceLT, Int32.reduceLE, eq_self, Option.bind_some, Option.map_some, false_or, or_false, or_self, true_or, or_true, not_true_eq_false, not_false_eq_true, false_and, and_false, true_and, and_true, hc2, f_X11_undo_1]
      refine ok_some ⟨rfl, ?_, fun h => absurd h hk0, fun _ => ⟨?_, ?_, ?_, ?_⟩⟩
      · rw [decide_eq_true (by omega)]; rfl
      · dsimp only
        rw [show g 1 = acode (g 0) s c from hw]
        refine cMa_code h ?_ ?_ ?_ ?_ ?_
        · simp (disch := omega) only [xup_bj]
        · simp (disch := omega) only [xup_bj]
        · simp (disch := omega) only [xup_b]
        · simp (disch := omega) only [xup_b]
        · intro j; rw [xup_if]; simp (disch := omega) only [xup_bj]
      · dsimp only
        refine ⟨?_, by omega, q, hq, ?_, ?_⟩
        · simp (disch := omega) only [xup_bj, xup_j, xup_at]
        · simp (disch := omega) only [xup_bj, xup_at]
        · simp (disch := omega) only [xup_b]
          exact hki
      · left
        rw [show g 1 = acode (g 0) s c from hw]
        refine ⟨?_, rfl, rfl⟩
        dsimp only
        simp (disch := omega) only [xup_bj]
      · intro a j hd
        unfold dReg at hd
        dsimp only
        simp (disch := omega) only [xup_no]
    · have hne : ¬ (I 7 q = -1) := by rw [a2, nt_m1 (by omega)]; exact id
      rw [if_neg hne]
      have hp0 : (xup (xup I 5 6 (nt (k - 1))) 5 5 (nt q)) 1 0 = nt n := by simp (disch := omega) only [xup_bj]; exact h.1
      have hp1 : (xup (xup I 5 6 (nt (k - 1))) 5 5 (nt q)) 1 1 = nt m := by simp (disch := omega) only [xup_bj]; exact h.2.1
      simp (disch := omega) only [f_X4_takeBack_5, xup_at, xup_bj, a1, a2, a3, a4, nt_clamp, nt_le, nt_lt, nt_eq, lit_le, lit_lt, le_lit, lt_lit, eq_lit, lit_eq, nt_neg, nt_ge, nt_add, nt_mul, nt_addl, lit_add, nt_mull, lit_mul, nt_sub, nt_subl, lit_sub, nt_divl, nt_m1, nt_m2, nt_m1', nt_m2', if_true, if_false, if_pos, if_neg, e01, e10, em12, em21, e0m1, e0m2, e1m1, e1m2, em10, em20, Int32.reduceLT, Int32.reduceLE, eq_self, Option.bind_some, Option.map_some, false_or, or_false, or_self, true_or, or_true, not_true_eq_false, not_false_eq_true, false_and, and_false, true_and, and_true]
      rw [Option.bind_assoc]
      apply ok_bind
      refine (putMove_ok (J := J) (c := ov t) (d := ov u) hn hm hp0 hp1 hs hx).imp ?_
      rintro ⟨_, I2, J2⟩ ⟨rfl, p1, p2, p3, f2⟩
      dsimp only at p1 p2 p3 f2 ⊢
      simp (disch := omega) only [f_X4_takeBack_6, f_X11_undo_1, if_true, if_false, if_pos, if_neg, e01, e10, em12, em21, e0m1, e0m2, e1m1, e1m2, em10, em20, Int32.reduceLT, Int32.reduceLE, eq_self, Option.bind_some, Option.map_some, false_or, or_false, or_self, true_or, or_true, not_true_eq_false, not_false_eq_true, false_and, and_false, true_and, and_true]
      refine ok_some ⟨rfl, ?_, fun h => absurd h hk0, fun _ => ⟨?_, ?_, ?_, ?_⟩⟩
      · rw [decide_eq_true (by omega)]; rfl
      · dsimp only
        rw [show g 1 = aset (g 0) s x t u from hw]
        refine cMa_set h (by omega) (by omega) ?_ ?_ ?_ ?_ ?_
        · rw [f2 1 0 (by omega) (by omega) (by omega)]; simp (disch := omega) only [xup_bj]
        · rw [f2 1 1 (by omega) (by omega) (by omega)]; simp (disch := omega) only [xup_bj]
        · intro j; rw [p2]; simp (disch := omega) only [xup_bj]
        · intro j; rw [p3]; simp (disch := omega) only [xup_bj]
        · funext j; rw [f2 4 j (by omega) (by omega) (by omega)]; simp (disch := omega) only [xup_bj]
      · dsimp only
        have g6 : I2 6 = I 6 := funext fun j => by rw [f2 6 j (by omega) (by omega) (by omega)]; simp (disch := omega) only [xup_bj]
        have g7 : I2 7 = I 7 := funext fun j => by rw [f2 7 j (by omega) (by omega) (by omega)]; simp (disch := omega) only [xup_bj]
        have g8 : I2 8 = I 8 := funext fun j => by rw [f2 8 j (by omega) (by omega) (by omega)]; simp (disch := omega) only [xup_bj]
        have g9 : I2 9 = I 9 := funext fun j => by rw [f2 9 j (by omega) (by omega) (by omega)]; simp (disch := omega) only [xup_bj]
        rw [g6, g7, g8, g9]
        refine ⟨?_, by omega, q, hq, ?_, hki⟩
        · rw [f2 5 6 (by omega) (by omega) (by omega)]; simp (disch := omega) only [xup_j, xup_at]
        · rw [f2 5 5 (by omega) (by omega) (by omega)]; simp (disch := omega) only [xup_at]
      · right
        dsimp only
        rw [p1]; simp (disch := omega) only [xup_bj]
      · intro a j hd
        unfold dReg at hd
        dsimp only
        rw [f2 a j (by omega) (by omega) (by omega)]
        simp (disch := omega) only [xup_no]
