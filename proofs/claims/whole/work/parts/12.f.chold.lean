/-! hold, restore, move of the class -/
theorem xcp_at {α : Type} (f : Nat → Nat → α) (a b sp dp n j : Nat) : xcp f a b sp dp n b j = if dp ≤ j ∧ j < dp + n then f a (sp + (j - dp)) else f b j := by
  show (if b = b then va_cpy (f a) (f b) sp dp n else f b) j = _
  rw [if_pos rfl]; rfl
theorem xcp_b {α : Type} (f : Nat → Nat → α) (a b sp dp n : Nat) {c : Nat} (h : ¬ c = b) : xcp f a b sp dp n c = f c := if_neg h
theorem xcp_bj {α : Type} (f : Nat → Nat → α) (a b sp dp n : Nat) {c : Nat} (j : Nat) (h : ¬ c = b) : xcp f a b sp dp n c j = f c j := congrFun (xcp_b f a b sp dp n h) j
/-- the class's slots -/
def cSl (n m : Nat) (sl : Nat → Option aT) (I : xI) : Prop := ∀ q, q < 3 → I 11 q = bi (sl q).isSome ∧ ∀ w, sl q = some w → cMa n m w (I (12 + 4 * q) 0) (I (12 + 4 * q) 1) (I (13 + 4 * q)) (I (14 + 4 * q)) (I (15 + 4 * q))
theorem cSl_fr {n m : Nat} {sl : Nat → Option aT} {I I' : xI} (h : cSl n m sl I) (hf : ∀ a j, 11 ≤ a → a ≤ 23 → I' a j = I a j) : cSl n m sl I' := by
  intro q hq
  have e : ∀ a, 11 ≤ a → a ≤ 23 → I' a = I a := fun a h1 h2 => funext fun j => hf a j h1 h2
  rw [e 11 (by omega) (by omega), e (12 + 4 * q) (by omega) (by omega), e (13 + 4 * q) (by omega) (by omega), e (14 + 4 * q) (by omega) (by omega), e (15 + 4 * q) (by omega) (by omega)]
  exact h q hq
theorem cMa_copy {n m : Nat} {w : aT} {v0 v1 u0 u1 : Int32} {c2 c3 c4 e2 e3 e4 : Nat → Int32} (h : cMa n m w v0 v1 c2 c3 c4) (k0 : u0 = v0) (k1 : u1 = v1) (q2 : ∀ j, j < 24 → e2 j = c2 j) (q3 : ∀ j, j < 24 → e3 j = c3 j) (q4 : ∀ j, j < 6 → e4 j = c4 j) : cMa n m w u0 u1 e2 e3 e4 := by
  obtain ⟨h0, h1, h2, h3, h4⟩ := h
  refine ⟨k0.trans h0, k1.trans h1, ?_, ?_, ?_⟩
  · intro s x hs hx; rw [q2 _ (by omega)]; exact h2 s x hs hx
  · intro s x hs hx; rw [q3 _ (by omega)]; exact h3 s x hs hx
  · intro s hs; rw [q4 _ (by omega)]; exact h4 s hs
theorem cpo0_ok {n m : Nat} {w : aT} {I : xI} {J : xJ} (h : cMa n m w (I 1 0) (I 1 1) (I 2) (I 3) (I 4)) : Ok (f_X5_copyFrom_12_1 I J) (fun o => o.2.2 = J ∧ cMa n m w (o.2.1 12 0) (o.2.1 12 1) (o.2.1 13) (o.2.1 14) (o.2.1 15) ∧ o.2.1 12 2 = I 12 2 + 1 ∧ ∀ a j, ¬ a = 13 → ¬ a = 14 → ¬ a = 15 → ¬ (a = 12 ∧ j < 3) → o.2.1 a j = I a j) := by
  simp (disch := omega) only [f_X5_copyFrom_12_1, f_X5_copyFrom_12_1_0, xcp_bj, xup_bj, xup_j]
  refine ok_some ⟨rfl, ?_, ?_, ?_⟩
  · dsimp only
    refine cMa_copy h ?_ ?_ ?_ ?_ ?_
    · simp (disch := omega) only [xcp_bj, xup_bj, xup_j, xup_at]
    · simp (disch := omega) only [xcp_bj, xup_bj, xup_j, xup_at]
    · intro j hj
      simp (disch := omega) only [xcp_bj, xup_bj, xcp_at]
      rw [if_pos (by omega), show 0 + (j - 0) = j from by omega]
    · intro j hj
      simp (disch := omega) only [xcp_bj, xup_bj, xcp_at]
      rw [if_pos (by omega), show 0 + (j - 0) = j from by omega]
    · intro j hj
      simp (disch := omega) only [xcp_bj, xup_bj, xcp_at]
      rw [if_pos (by omega), show 0 + (j - 0) = j from by omega]
  · dsimp only
    simp (disch := omega) only [xcp_bj, xup_bj, xup_j, xup_at]
  · intro a j h2 h3 h4 h1
    dsimp only
    simp (disch := omega) only [xcp_bj, xup_no]
theorem cpi0_ok {n m : Nat} {w : aT} {I : xI} {J : xJ} (h : cMa n m w (I 12 0) (I 12 1) (I 13) (I 14) (I 15)) : Ok (f_X5_copyFrom_12 I J) (fun o => o.2.2 = J ∧ cMa n m w (o.2.1 1 0) (o.2.1 1 1) (o.2.1 2) (o.2.1 3) (o.2.1 4) ∧ o.2.1 1 2 = I 1 2 + 1 ∧ ∀ a j, ¬ a = 2 → ¬ a = 3 → ¬ a = 4 → ¬ (a = 1 ∧ j < 3) → o.2.1 a j = I a j) := by
  simp (disch := omega) only [f_X5_copyFrom_12, f_X5_copyFrom_12_0, xcp_bj, xup_bj, xup_j]
  refine ok_some ⟨rfl, ?_, ?_, ?_⟩
  · dsimp only
    refine cMa_copy h ?_ ?_ ?_ ?_ ?_
    · simp (disch := omega) only [xcp_bj, xup_bj, xup_j, xup_at]
    · simp (disch := omega) only [xcp_bj, xup_bj, xup_j, xup_at]
    · intro j hj
      simp (disch := omega) only [xcp_bj, xup_bj, xcp_at]
      rw [if_pos (by omega), show 0 + (j - 0) = j from by omega]
    · intro j hj
      simp (disch := omega) only [xcp_bj, xup_bj, xcp_at]
      rw [if_pos (by omega), show 0 + (j - 0) = j from by omega]
    · intro j hj
      simp (disch := omega) only [xcp_bj, xup_bj, xcp_at]
      rw [if_pos (by omega), show 0 + (j - 0) = j from by omega]
  · dsimp only
    simp (disch := omega) only [xcp_bj, xup_bj, xup_j, xup_at]
  · intro a j h2 h3 h4 h1
    dsimp only
    simp (disch := omega) only [xcp_bj, xup_no]
theorem cpo1_ok {n m : Nat} {w : aT} {I : xI} {J : xJ} (h : cMa n m w (I 1 0) (I 1 1) (I 2) (I 3) (I 4)) : Ok (f_X5_copyFrom_16_1 I J) (fun o => o.2.2 = J ∧ cMa n m w (o.2.1 16 0) (o.2.1 16 1) (o.2.1 17) (o.2.1 18) (o.2.1 19) ∧ o.2.1 16 2 = I 16 2 + 1 ∧ ∀ a j, ¬ a = 17 → ¬ a = 18 → ¬ a = 19 → ¬ (a = 16 ∧ j < 3) → o.2.1 a j = I a j) := by
  simp (disch := omega) only [f_X5_copyFrom_16_1, f_X5_copyFrom_16_1_0, xcp_bj, xup_bj, xup_j]
  refine ok_some ⟨rfl, ?_, ?_, ?_⟩
  · dsimp only
    refine cMa_copy h ?_ ?_ ?_ ?_ ?_
    · simp (disch := omega) only [xcp_bj, xup_bj, xup_j, xup_at]
    · simp (disch := omega) only [xcp_bj, xup_bj, xup_j, xup_at]
    · intro j hj
      simp (disch := omega) only [xcp_bj, xup_bj, xcp_at]
      rw [if_pos (by omega), show 0 + (j - 0) = j from by omega]
    · intro j hj
      simp (disch := omega) only [xcp_bj, xup_bj, xcp_at]
      rw [if_pos (by omega), show 0 + (j - 0) = j from by omega]
    · intro j hj
      simp (disch := omega) only [xcp_bj, xup_bj, xcp_at]
      rw [if_pos (by omega), show 0 + (j - 0) = j from by omega]
  · dsimp only
    simp (disch := omega) only [xcp_bj, xup_bj, xup_j, xup_at]
  · intro a j h2 h3 h4 h1
    dsimp only
    simp (disch := omega) only [xcp_bj, xup_no]
theorem cpi1_ok {n m : Nat} {w : aT} {I : xI} {J : xJ} (h : cMa n m w (I 16 0) (I 16 1) (I 17) (I 18) (I 19)) : Ok (f_X5_copyFrom_16 I J) (fun o => o.2.2 = J ∧ cMa n m w (o.2.1 1 0) (o.2.1 1 1) (o.2.1 2) (o.2.1 3) (o.2.1 4) ∧ o.2.1 1 2 = I 1 2 + 1 ∧ ∀ a j, ¬ a = 2 → ¬ a = 3 → ¬ a = 4 → ¬ (a = 1 ∧ j < 3) → o.2.1 a j = I a j) := by
  simp (disch := omega) only [f_X5_copyFrom_16, f_X5_copyFrom_16_0, xcp_bj, xup_bj, xup_j]
  refine ok_some ⟨rfl, ?_, ?_, ?_⟩
  · dsimp only
    refine cMa_copy h ?_ ?_ ?_ ?_ ?_
    · simp (disch := omega) only [xcp_bj, xup_bj, xup_j, xup_at]
    · simp (disch := omega) only [xcp_bj, xup_bj, xup_j, xup_at]
    · intro j hj
      simp (disch := omega) only [xcp_bj, xup_bj, xcp_at]
      rw [if_pos (by omega), show 0 + (j - 0) = j from by omega]
    · intro j hj
      simp (disch := omega) only [xcp_bj, xup_bj, xcp_at]
      rw [if_pos (by omega), show 0 + (j - 0) = j from by omega]
    · intro j hj
      simp (disch := omega) only [xcp_bj, xup_bj, xcp_at]
      rw [if_pos (by omega), show 0 + (j - 0) = j from by omega]
  · dsimp only
    simp (disch := omega) only [xcp_bj, xup_bj, xup_j, xup_at]
  · intro a j h2 h3 h4 h1
    dsimp only
    simp (disch := omega) only [xcp_bj, xup_no]
theorem cpo2_ok {n m : Nat} {w : aT} {I : xI} {J : xJ} (h : cMa n m w (I 1 0) (I 1 1) (I 2) (I 3) (I 4)) : Ok (f_X5_copyFrom_20_1 I J) (fun o => o.2.2 = J ∧ cMa n m w (o.2.1 20 0) (o.2.1 20 1) (o.2.1 21) (o.2.1 22) (o.2.1 23) ∧ o.2.1 20 2 = I 20 2 + 1 ∧ ∀ a j, ¬ a = 21 → ¬ a = 22 → ¬ a = 23 → ¬ (a = 20 ∧ j < 3) → o.2.1 a j = I a j) := by
  simp (disch := omega) only [f_X5_copyFrom_20_1, f_X5_copyFrom_20_1_0, xcp_bj, xup_bj, xup_j]
  refine ok_some ⟨rfl, ?_, ?_, ?_⟩
  · dsimp only
    refine cMa_copy h ?_ ?_ ?_ ?_ ?_
    · simp (disch := omega) only [xcp_bj, xup_bj, xup_j, xup_at]
    · simp (disch := omega) only [xcp_bj, xup_bj, xup_j, xup_at]
    · intro j hj
      simp (disch := omega) only [xcp_bj, xup_bj, xcp_at]
      rw [if_pos (by omega), show 0 + (j - 0) = j from by omega]
    · intro j hj
      simp (disch := omega) only [xcp_bj, xup_bj, xcp_at]
      rw [if_pos (by omega), show 0 + (j - 0) = j from by omega]
    · intro j hj
      simp (disch := omega) only [xcp_bj, xup_bj, xcp_at]
      rw [if_pos (by omega), show 0 + (j - 0) = j from by omega]
  · dsimp only
    simp (disch := omega) only [xcp_bj, xup_bj, xup_j, xup_at]
  · intro a j h2 h3 h4 h1
    dsimp only
    simp (disch := omega) only [xcp_bj, xup_no]
theorem cpi2_ok {n m : Nat} {w : aT} {I : xI} {J : xJ} (h : cMa n m w (I 20 0) (I 20 1) (I 21) (I 22) (I 23)) : Ok (f_X5_copyFrom_20 I J) (fun o => o.2.2 = J ∧ cMa n m w (o.2.1 1 0) (o.2.1 1 1) (o.2.1 2) (o.2.1 3) (o.2.1 4) ∧ o.2.1 1 2 = I 1 2 + 1 ∧ ∀ a j, ¬ a = 2 → ¬ a = 3 → ¬ a = 4 → ¬ (a = 1 ∧ j < 3) → o.2.1 a j = I a j) := by
  simp (disch := omega) only [f_X5_copyFrom_20, f_X5_copyFrom_20_0, xcp_bj, xup_bj, xup_j]
  refine ok_some ⟨rfl, ?_, ?_, ?_⟩
  · dsimp only
    refine cMa_copy h ?_ ?_ ?_ ?_ ?_
    · simp (disch := omega) only [xcp_bj, xup_bj, xup_j, xup_at]
    · simp (disch := omega) only [xcp_bj, xup_bj, xup_j, xup_at]
    · intro j hj
      simp (disch := omega) only [xcp_bj, xup_bj, xcp_at]
      rw [if_pos (by omega), show 0 + (j - 0) = j from by omega]
    · intro j hj
      simp (disch := omega) only [xcp_bj, xup_bj, xcp_at]
      rw [if_pos (by omega), show 0 + (j - 0) = j from by omega]
    · intro j hj
      simp (disch := omega) only [xcp_bj, xup_bj, xcp_at]
      rw [if_pos (by omega), show 0 + (j - 0) = j from by omega]
  · dsimp only
    simp (disch := omega) only [xcp_bj, xup_bj, xup_j, xup_at]
  · intro a j h2 h3 h4 h1
    dsimp only
    simp (disch := omega) only [xcp_bj, xup_no]
/-- a slot more -/
def slup (sl : Nat → Option aT) (q : Nat) (w : aT) : Nat → Option aT := fun i => if i = q then some w else sl i
theorem chold_ok {n m : Nat} {w : aT} {sl : Nat → Option aT} {I : xI} {J : xJ} (h : cMa n m w (I 1 0) (I 1 1) (I 2) (I 3) (I 4)) (hs : cSl n m sl I) (x : Int32) : Ok (f_X11_hold x I J) (fun o => o.2.2 = J ∧ o.1 = bi (isS 3 x) ∧ (isS 3 x = false → o.2.1 = I) ∧ (isS 3 x = true → cSl n m (slup sl x.toNatClampNeg w) o.2.1) ∧ ∀ a j, a < 11 ∨ 23 < a → o.2.1 a j = I a j) := by
  unfold f_X11_hold f_X11_hold_0
  apply ok_bind
  unfold f_X4_keepSlot f_X4_keepSlot_0
  rcases nt_all x with hx | ⟨q, hq, rfl⟩
  · rw [if_pos hx, isS_neg hx]
    exact ok_some (ok_some ⟨rfl, rfl, fun _ => rfl, fun h => absurd h (by decide), fun _ _ _ => rfl⟩)
  · rw [isS_nt (by omega) hq, nt_clamp hq]
    unfold f_X4_keepSlot_1
    simp (disch := omega) only [nt_clamp, nt_le, nt_lt, nt_eq, lit_le, lit_lt, le_lit, lt_lit, eq_lit, lit_eq, nt_neg, nt_ge, nt_add, nt_mul, nt_addl, lit_add, nt_mull, lit_mul, nt_sub, nt_subl, lit_sub, nt_divl, nt_m1, nt_m2, nt_m1', nt_m2', if_true, if_false, if_pos, if_neg, e01, e10, em12, em21, e0m1, e0m2, e1m1, e1m2, em10, em20, Int32.reduceLT, Int32.reduceLE, eq_self, Option.bind_some, Option.map_some, false_or, or_false, or_self, true_or, or_true, not_true_eq_false, not_false_eq_true, false_and, and_false, true_and, and_true]
    by_cases hq3 : q < 3
    · rw [if_pos hq3, decide_eq_true hq3]
      unfold f_X4_keepSlot_3
      simp (disch := omega) only [nt_clamp, nt_le, nt_lt, nt_eq, lit_le, lit_lt, le_lit, lt_lit, eq_lit, lit_eq, nt_neg, nt_ge, nt_add, nt_mul, nt_addl, lit_add, nt_mull, lit_mul, nt_sub, nt_subl, lit_sub, nt_divl, nt_m1, nt_m2, nt_m1', nt_m2']
      have hq : q = 0 ∨ q = 1 ∨ q = 2 := by omega
      rcases hq with rfl | rfl | rfl
      · simp (disch := omega) only [if_true, if_false, if_pos, if_neg, e01, e10, em12, em21, e0m1, e0m2, e1m1, e1m2, em10, em20, Int32.reduceLT, Int32.reduceLE, eq_self, Option.bind_some, Option.map_some, false_or, or_false, or_self, true_or, or_true, not_true_eq_false, not_false_eq_true, false_and, and_false, true_and, and_true]
        unfold f_X4_keepSlot_4
        apply ok_bind
        refine (cpo0_ok h).imp ?_
        rintro ⟨_, I1, J1⟩ ⟨rfl, q1, q2, f1⟩
        dsimp only at q1 q2 f1 ⊢
        simp (disch := omega) only [f_X4_keepSlot_7, f_X11_hold_1, nt_clamp, nt_le, nt_lt, nt_eq, lit_le, lit_lt, le_lit, lt_lit, eq_lit, lit_eq, nt_neg, nt_ge, nt_add, nt_mul, nt_addl, lit_add, nt_mull, lit_mul, nt_sub, nt_subl, lit_sub, nt_divl, nt_m1, nt_m2, nt_m1', nt_m2', if_true, if_false, if_pos, if_neg, e01, e10, em12, em21, e0m1, e0m2, e1m1, e1m2, em10, em20, Int32.reduceLT, Int32.reduceLE, eq_self, Option.bind_some, Option.map_some, false_or, or_false, or_self, true_or, or_true, not_true_eq_false, not_false_eq_true, false_and, and_false, true_and, and_true]
        refine ok_some (ok_some ?_)
        dsimp only
        refine ⟨rfl, rfl, fun h => absurd h (by decide), fun _ => ?_, ?_⟩
        · intro r hr
          have hr3 : r = 0 ∨ r = 1 ∨ r = 2 := by omega
          rcases hr3 with rfl | rfl | rfl
          · refine ⟨xup_at _ _ _ _, ?_⟩
            intro w' hw'
            have e : w = w' := Option.some.inj hw'
            subst e
            simp (disch := omega) only [xup_b]
            exact q1
          · refine ⟨?_, ?_⟩
            · rw [xup_j _ _ _ _ (by omega), f1 11 1 (by omega) (by omega) (by omega) (by omega)]
              exact (hs 1 (by omega)).1
            · intro w' hw'
              simp (disch := omega) only [xup_b]
              have e : ∀ a, 16 ≤ a → a ≤ 19 → I1 a = I a := fun a h1 h2 => funext fun j => f1 a j (by omega) (by omega) (by omega) (by omega)
              have := (hs 1 (by omega)).2 w' hw'
              rw [e (12 + 4 * 1) (by omega) (by omega), e (13 + 4 * 1) (by omega) (by omega), e (14 + 4 * 1) (by omega) (by omega), e (15 + 4 * 1) (by omega) (by omega)]
              exact this
          · refine ⟨?_, ?_⟩
            · rw [xup_j _ _ _ _ (by omega), f1 11 2 (by omega) (by omega) (by omega) (by omega)]
              exact (hs 2 (by omega)).1
            · intro w' hw'
              simp (disch := omega) only [xup_b]
              have e : ∀ a, 20 ≤ a → a ≤ 23 → I1 a = I a := fun a h1 h2 => funext fun j => f1 a j (by omega) (by omega) (by omega) (by omega)
              have := (hs 2 (by omega)).2 w' hw'
              rw [e (12 + 4 * 2) (by omega) (by omega), e (13 + 4 * 2) (by omega) (by omega), e (14 + 4 * 2) (by omega) (by omega), e (15 + 4 * 2) (by omega) (by omega)]
              exact this
        · intro a j ha
          simp (disch := omega) only [xup_bj]
          exact f1 a j (by omega) (by omega) (by omega) (by omega)
      · simp (disch := omega) only [if_true, if_false, if_pos, if_neg, e01, e10, em12, em21, e0m1, e0m2, e1m1, e1m2, em10, em20, Int32.reduceLT, Int32.reduceLE, eq_self, Option.bind_some, Option.map_some, false_or, or_false, or_self, true_or, or_true, not_true_eq_false, not_false_eq_true, false_and, and_false, true_and, and_true]
        unfold f_X4_keepSlot_5
        apply ok_bind
        refine (cpo1_ok h).imp ?_
        rintro ⟨_, I1, J1⟩ ⟨rfl, q1, q2, f1⟩
        dsimp only at q1 q2 f1 ⊢
        simp (disch := omega) only [f_X4_keepSlot_7, f_X11_hold_1, nt_clamp, nt_le, nt_lt, nt_eq, lit_le, lit_lt, le_lit, lt_lit, eq_lit, lit_eq, nt_neg, nt_ge, nt_add, nt_mul, nt_addl, lit_add, nt_mull, lit_mul, nt_sub, nt_subl, lit_sub, nt_divl, nt_m1, nt_m2, nt_m1', nt_m2', if_true, if_false, if_pos, if_neg, e01, e10, em12, em21, e0m1, e0m2, e1m1, e1m2, em10, em20, Int32.reduceLT, Int32.reduceLE, eq_self, Option.bind_some, Option.map_some, false_or, or_false, or_self, true_or, or_true, not_true_eq_false, not_false_eq_true, false_and, and_false, true_and, and_true]
        refine ok_some (ok_some ?_)
        dsimp only
        refine ⟨rfl, rfl, fun h => absurd h (by decide), fun _ => ?_, ?_⟩
        · intro r hr
          have hr3 : r = 0 ∨ r = 1 ∨ r = 2 := by omega
          rcases hr3 with rfl | rfl | rfl
          · refine ⟨?_, ?_⟩
            · rw [xup_j _ _ _ _ (by omega), f1 11 0 (by omega) (by omega) (by omega) (by omega)]
              exact (hs 0 (by omega)).1
            · intro w' hw'
              simp (disch := omega) only [xup_b]
              have e : ∀ a, 12 ≤ a → a ≤ 15 → I1 a = I a := fun a h1 h2 => funext fun j => f1 a j (by omega) (by omega) (by omega) (by omega)
              have := (hs 0 (by omega)).2 w' hw'
              rw [e (12 + 4 * 0) (by omega) (by omega), e (13 + 4 * 0) (by omega) (by omega), e (14 + 4 * 0) (by omega) (by omega), e (15 + 4 * 0) (by omega) (by omega)]
              exact this
          · refine ⟨xup_at _ _ _ _, ?_⟩
            intro w' hw'
            have e : w = w' := Option.some.inj hw'
            subst e
            simp (disch := omega) only [xup_b]
            exact q1
          · refine ⟨?_, ?_⟩
            · rw [xup_j _ _ _ _ (by omega), f1 11 2 (by omega) (by omega) (by omega) (by omega)]
              exact (hs 2 (by omega)).1
            · intro w' hw'
              simp (disch := omega) only [xup_b]
              have e : ∀ a, 20 ≤ a → a ≤ 23 → I1 a = I a := fun a h1 h2 => funext fun j => f1 a j (by omega) (by omega) (by omega) (by omega)
              have := (hs 2 (by omega)).2 w' hw'
              rw [e (12 + 4 * 2) (by omega) (by omega), e (13 + 4 * 2) (by omega) (by omega), e (14 + 4 * 2) (by omega) (by omega), e (15 + 4 * 2) (by omega) (by omega)]
              exact this
        · intro a j ha
          simp (disch := omega) only [xup_bj]
          exact f1 a j (by omega) (by omega) (by omega) (by omega)
      · simp (disch := omega) only [if_true, if_false, if_pos, if_neg, e01, e10, em12, em21, e0m1, e0m2, e1m1, e1m2, em10, em20, Int32.reduceLT, Int32.reduceLE, eq_self, Option.bind_some, Option.map_some, false_or, or_false, or_self, true_or, or_true, not_true_eq_false, not_false_eq_true, false_and, and_false, true_and, and_true]
        unfold f_X4_keepSlot_6
        apply ok_bind
        refine (cpo2_ok h).imp ?_
        rintro ⟨_, I1, J1⟩ ⟨rfl, q1, q2, f1⟩
        dsimp only at q1 q2 f1 ⊢
        simp (disch := omega) only [f_X4_keepSlot_7, f_X11_hold_1, nt_clamp, nt_le, nt_lt, nt_eq, lit_le, lit_lt, le_lit, lt_lit, eq_lit, lit_eq, nt_neg, nt_ge, nt_add, nt_mul, nt_addl, lit_add, nt_mull, lit_mul, nt_sub, nt_subl, lit_sub, nt_divl, nt_m1, nt_m2, nt_m1', nt_m2', if_true, if_false, if_pos, if_neg, e01, e10, em12, em21, e0m1, e0m2, e1m1, e1m2, em10, em20, Int32.reduceLT, Int32.reduceLE, eq_self, Option.bind_some, Option.map_some, false_or, or_false, or_self, true_or, or_true, not_true_eq_false, not_false_eq_true, false_and, and_false, true_and, and_true]
        refine ok_some (ok_some ?_)
        dsimp only
        refine ⟨rfl, rfl, fun h => absurd h (by decide), fun _ => ?_, ?_⟩
        · intro r hr
          have hr3 : r = 0 ∨ r = 1 ∨ r = 2 := by omega
          rcases hr3 with rfl | rfl | rfl
          · refine ⟨?_, ?_⟩
            · rw [xup_j _ _ _ _ (by omega), f1 11 0 (by omega) (by omega) (by omega) (by omega)]
              exact (hs 0 (by omega)).1
            · intro w' hw'
              simp (disch := omega) only [xup_b]
              have e : ∀ a, 12 ≤ a → a ≤ 15 → I1 a = I a := fun a h1 h2 => funext fun j => f1 a j (by omega) (by omega) (by omega) (by omega)
              have := (hs 0 (by omega)).2 w' hw'
              rw [e (12 + 4 * 0) (by omega) (by omega), e (13 + 4 * 0) (by omega) (by omega), e (14 + 4 * 0) (by omega) (by omega), e (15 + 4 * 0) (by omega) (by omega)]
              exact this
          · refine ⟨?_, ?_⟩
            · rw [xup_j _ _ _ _ (by omega), f1 11 1 (by omega) (by omega) (by omega) (by omega)]
              exact (hs 1 (by omega)).1
            · intro w' hw'
              simp (disch := omega) only [xup_b]
              have e : ∀ a, 16 ≤ a → a ≤ 19 → I1 a = I a := fun a h1 h2 => funext fun j => f1 a j (by omega) (by omega) (by omega) (by omega)
              have := (hs 1 (by omega)).2 w' hw'
              rw [e (12 + 4 * 1) (by omega) (by omega), e (13 + 4 * 1) (by omega) (by omega), e (14 + 4 * 1) (by omega) (by omega), e (15 + 4 * 1) (by omega) (by omega)]
              exact this
          · refine ⟨xup_at _ _ _ _, ?_⟩
            intro w' hw'
            have e : w = w' := Option.some.inj hw'
            subst e
            simp (disch := omega) only [xup_b]
            exact q1
        · intro a j ha
          simp (disch := omega) only [xup_bj]
          exact f1 a j (by omega) (by omega) (by omega) (by omega)
    · rw [if_neg hq3, decide_eq_false hq3]
      exact ok_some (ok_some ⟨rfl, rfl, fun _ => rfl, fun h => absurd h (by decide), fun _ _ _ => rfl⟩)
/-- whether a slot that is asked for is full -/
def slR (sl : Nat → Option aT) (x : Int32) : Bool := isS 3 x && (sl x.toNatClampNeg).isSome
theorem crest_ok {n m k : Nat} {g : Nat → aT} {sl : Nat → Option aT} {I : xI} {J : xJ} (hs : cSl n m sl I) (hh : cHi n m k g (I 5 5) (I 5 6) (I 6) (I 7) (I 8) (I 9)) (x : Int32) : Ok (f_X11_restore x I J) (fun o => o.2.2 = J ∧ o.1 = bi (slR sl x) ∧ (slR sl x = false → o.2.1 = I) ∧ (slR sl x = true → ∃ w, sl x.toNatClampNeg = some w ∧ cMa n m w (o.2.1 1 0) (o.2.1 1 1) (o.2.1 2) (o.2.1 3) (o.2.1 4) ∧ cHi n m 0 (fun _ => w) (o.2.1 5 5) (o.2.1 5 6) (o.2.1 6) (o.2.1 7) (o.2.1 8) (o.2.1 9) ∧ o.2.1 1 2 = I 1 2 + 1 ∧ ∀ a j, ¬ dReg a j → ¬ (a = 1 ∧ j < 2) → o.2.1 a j = I a j)) := by
  obtain ⟨h6, hk, p, hp, h5, hD⟩ := hh
  unfold f_X11_restore f_X11_restore_0
  apply ok_bind
  unfold f_X4_takeSlot f_X4_takeSlot_0
  rcases nt_all x with hx | ⟨q, hq, rfl⟩
  · have e : slR sl x = false := by unfold slR; rw [isS_neg hx]; rfl
    rw [if_pos hx, e]
    exact ok_some (ok_some ⟨rfl, rfl, fun _ => rfl, fun h => absurd h (by decide)⟩)
  · unfold slR
    rw [isS_nt (by omega) hq, nt_clamp hq]
    unfold f_X4_takeSlot_1
    simp (disch := omega) only [nt_clamp, nt_le, nt_lt, nt_eq, lit_le, lit_lt, le_lit, lt_lit, eq_lit, lit_eq, nt_neg, nt_ge, nt_add, nt_mul, nt_addl, lit_add, nt_mull, lit_mul, nt_sub, nt_subl, lit_sub, nt_divl, nt_m1, nt_m2, nt_m1', nt_m2', if_true, if_false, if_pos, if_neg, e01, e10, em12, em21, e0m1, e0m2, e1m1, e1m2, em10, em20, Int32.reduceLT, Int32.reduceLE, eq_self, Option.bind_some, Option.map_some, false_or, or_false, or_self, true_or, or_true, not_true_eq_false, not_false_eq_true, false_and, and_false, true_and, and_true]
    by_cases hq3 : 3 ≤ q
    · rw [if_pos hq3, decide_eq_false (by omega), Bool.false_and]
      exact ok_some (ok_some ⟨rfl, rfl, fun _ => rfl, fun h => absurd h (by decide)⟩)
    · rw [if_neg hq3, decide_eq_true (by omega), Bool.true_and]
      unfold f_X4_takeSlot_2
      simp (disch := omega) only [nt_clamp, nt_le, nt_lt, nt_eq, lit_le, lit_lt, le_lit, lt_lit, eq_lit, lit_eq, nt_neg, nt_ge, nt_add, nt_mul, nt_addl, lit_add, nt_mull, lit_mul, nt_sub, nt_subl, lit_sub, nt_divl, nt_m1, nt_m2, nt_m1', nt_m2', if_true, if_false, if_pos, if_neg, e01, e10, em12, em21, e0m1, e0m2, e1m1, e1m2, em10, em20, Int32.reduceLT, Int32.reduceLE, eq_self, Option.bind_some, Option.map_some, false_or, or_false, or_self, true_or, or_true, not_true_eq_false, not_false_eq_true, false_and, and_false, true_and, and_true, (hs q (by omega)).1, bi_0]
      cases hw : sl q with
      | none => exact ok_some (ok_some ⟨rfl, rfl, fun _ => rfl, fun h => absurd h (by decide)⟩)
      | some w =>
        simp only [Option.isSome_some, Bool.true_eq_false, if_false]
        have hm := (hs q (by omega)).2 w hw
        unfold f_X4_takeSlot_4
        simp (disch := omega) only [nt_clamp, nt_le, nt_lt, nt_eq, lit_le, lit_lt, le_lit, lt_lit, eq_lit, lit_eq, nt_neg, nt_ge, nt_add, nt_mul, nt_addl, lit_add, nt_mull, lit_mul, nt_sub, nt_subl, lit_sub, nt_divl, nt_m1, nt_m2, nt_m1', nt_m2']
        have hq : q = 0 ∨ q = 1 ∨ q = 2 := by omega
        rcases hq with rfl | rfl | rfl
        · simp (disch := omega) only [if_true, if_false, if_pos, if_neg, e01, e10, em12, em21, e0m1, e0m2, e1m1, e1m2, em10, em20, Int32.reduceLT, Int32.reduceLE, eq_self, Option.bind_some, Option.map_some, false_or, or_false, or_self, true_or, or_true, not_true_eq_false, not_false_eq_true, false_and, and_false, true_and, and_true]
          unfold f_X4_takeSlot_5
          apply ok_bind
          refine (cpi0_ok hm).imp ?_
          rintro ⟨_, I1, J1⟩ ⟨rfl, q1, q2, f1⟩
          dsimp only at q1 q2 f1 ⊢
          simp (disch := omega) only [f_X4_takeSlot_8, f_X4_takeSlot_9, f_X4_forgetDeeds_0, f_X4_forgetDeeds, f_X11_restore_1, if_true, if_false, if_pos, if_neg, e01, e10, em12, em21, e0m1, e0m2, e1m1, e1m2, em10, em20, Int32.reduceLT, Int32.reduceLE, eq_self, Option.bind_some, Option.map_some, false_or, or_false, or_self, true_or, or_true, not_true_eq_false, not_false_eq_true, false_and, and_false, true_and, and_true]
          refine ok_some (ok_some ?_)
          dsimp only
          refine ⟨rfl, rfl, fun h => absurd h (by decide), fun _ => ⟨w, rfl, ?_, ?_, ?_, ?_⟩⟩
          · simp (disch := omega) only [xup_b]
            exact q1
          · refine ⟨xup_at _ _ _ _, by omega, p, hp, ?_, fun i hi => absurd hi (by omega)⟩
            rw [xup_j _ _ _ _ (by omega), f1 5 5 (by omega) (by omega) (by omega) (by omega)]
            exact h5
          · rw [xup_bj _ _ _ _ _ (by omega)]
            exact q2
          · intro a j hd h1
            unfold dReg at hd
            rw [xup_no _ _ _ _ (by omega)]
            exact f1 a j (by omega) (by omega) (by omega) (by omega)
        · simp (disch := omega) only [if_true, if_false, if_pos, if_neg, e01, e10, em12, em21, e0m1, e0m2, e1m1, e1m2, em10, em20, Int32.reduceLT, Int32.reduceLE, eq_self, Option.bind_some, Option.map_some, false_or, or_false, or_self, true_or, or_true, not_true_eq_false, not_false_eq_true, false_and, and_false, true_and, and_true]
          unfold f_X4_takeSlot_6
          apply ok_bind
          refine (cpi1_ok hm).imp ?_
          rintro ⟨_, I1, J1⟩ ⟨rfl, q1, q2, f1⟩
          dsimp only at q1 q2 f1 ⊢
          simp (disch := omega) only [f_X4_takeSlot_8, f_X4_takeSlot_9, f_X4_forgetDeeds_0, f_X4_forgetDeeds, f_X11_restore_1, if_true, if_false, if_pos, if_neg, e01, e10, em12, em21, e0m1, e0m2, e1m1, e1m2, em10, em20, Int32.reduceLT, Int32.reduceLE, eq_self, Option.bind_some, Option.map_some, false_or, or_false, or_self, true_or, or_true, not_true_eq_false, not_false_eq_true, false_and, and_false, true_and, and_true]
          refine ok_some (ok_some ?_)
          dsimp only
          refine ⟨rfl, rfl, fun h => absurd h (by decide), fun _ => ⟨w, rfl, ?_, ?_, ?_, ?_⟩⟩
          · simp (disch := omega) only [xup_b]
            exact q1
          · refine ⟨xup_at _ _ _ _, by omega, p, hp, ?_, fun i hi => absurd hi (by omega)⟩
            rw [xup_j _ _ _ _ (by omega), f1 5 5 (by omega) (by omega) (by omega) (by omega)]
            exact h5
          · rw [xup_bj _ _ _ _ _ (by omega)]
            exact q2
          · intro a j hd h1
            unfold dReg at hd
            rw [xup_no _ _ _ _ (by omega)]
            exact f1 a j (by omega) (by omega) (by omega) (by omega)
        · simp (disch := omega) only [if_true, if_false, if_pos, if_neg, e01, e10, em12, em21, e0m1, e0m2, e1m1, e1m2, em10, em20, Int32.reduceLT, Int32.reduceLE, eq_self, Option.bind_some, Option.map_some, false_or, or_false, or_self, true_or, or_true, not_true_eq_false, not_false_eq_true, false_and, and_false, true_and, and_true]
          unfold f_X4_takeSlot_7
          apply ok_bind
          refine (cpi2_ok hm).imp ?_
          rintro ⟨_, I1, J1⟩ ⟨rfl, q1, q2, f1⟩
          dsimp only at q1 q2 f1 ⊢
          simp (disch := omega) only [f_X4_takeSlot_8, f_X4_takeSlot_9, f_X4_forgetDeeds_0, f_X4_forgetDeeds, f_X11_restore_1, if_true, if_false, if_pos, if_neg, e01, e10, em12, em21, e0m1, e0m2, e1m1, e1m2, em10, em20, Int32.reduceLT, Int32.reduceLE, eq_self, Option.bind_some, Option.map_some, false_or, or_false, or_self, true_or, or_true, not_true_eq_false, not_false_eq_true, false_and, and_false, true_and, and_true]
          refine ok_some (ok_some ?_)
          dsimp only
          refine ⟨rfl, rfl, fun h => absurd h (by decide), fun _ => ⟨w, rfl, ?_, ?_, ?_, ?_⟩⟩
          · simp (disch := omega) only [xup_b]
            exact q1
          · refine ⟨xup_at _ _ _ _, by omega, p, hp, ?_, fun i hi => absurd hi (by omega)⟩
            rw [xup_j _ _ _ _ (by omega), f1 5 5 (by omega) (by omega) (by omega) (by omega)]
            exact h5
          · rw [xup_bj _ _ _ _ _ (by omega)]
            exact q2
          · intro a j hd h1
            unfold dReg at hd
            rw [xup_no _ _ _ _ (by omega)]
            exact f1 a j (by omega) (by omega) (by omega) (by omega)
/-- what move answers -/
def moveR (n m : Nat) (w : aT) (a b c : Int32) : Int32 := if (isS n a && isS m b && isS 2 c) = true then (if c = 0 then ov (w.1 a.toNatClampNeg b.toNatClampNeg) else ov (w.2.1 a.toNatClampNeg b.toNatClampNeg)) else -1
theorem cmove_ok {n m : Nat} {w : aT} {I : xI} {J : xJ} (hn : n ≤ 6) (hm : m ≤ 4) (V : Vd n m w) (h : cMa n m w (I 1 0) (I 1 1) (I 2) (I 3) (I 4)) (a b c : Int32) : f_X11_move a b c I J = some (moveR n m w a b c, I, J) := by
  unfold f_X11_move f_X11_move_0 moveR
  rw [hasState_ok h.1 (by omega), Option.bind_some]
  unfold f_X11_move_1
  dsimp only
  cases ha : isS n a with
  | false => rfl
  | true =>
    show f_X11_move_2 a b c I J = _
    unfold f_X11_move_2
    rw [hasInput_ok h.2.1 (by omega), Option.bind_some]
    unfold f_X11_move_3
    dsimp only
    cases hb : isS m b with
    | false => rfl
    | true =>
      show f_X11_move_4 a b c I J = _
      unfold f_X11_move_4
      rcases nt_all c with hx | ⟨k, hk, rfl⟩
      · rw [if_pos hx, isS_neg hx]; rfl
      · rw [isS_nt (by omega) hk]
        unfold f_X11_move_5
        obtain ⟨s, hs, rfl⟩ := isS_ex (by omega) ha
        obtain ⟨x, hx, rfl⟩ := isS_ex (by omega) hb
        simp (disch := omega) only [nt_clamp, nt_le, nt_lt, nt_eq, lit_le, lit_lt, le_lit, lt_lit, eq_lit, lit_eq, nt_neg, nt_ge, nt_add, nt_mul, nt_addl, lit_add, nt_mull, lit_mul, nt_sub, nt_subl, lit_sub, nt_divl, nt_m1, nt_m2, nt_m1', nt_m2', if_true, if_false, if_pos, if_neg, e01, e10, em12, em21, e0m1, e0m2, e1m1, e1m2, em10, em20, Int32.reduceLT, Int32.reduceLE, eq_self, Option.bind_some, Option.map_some, false_or, or_false, or_self, true_or, or_true, not_true_eq_false, not_false_eq_true, false_and, and_false, true_and, and_true, Bool.true_and]
        by_cases hc : k ≤ 1
        · rw [if_pos hc, decide_eq_true (by omega), if_pos rfl]
          simp (disch := omega) only [f_X11_move_7, f_X11_move_8, f_X11_move_9, f_X11_move_10, f_X11_move_11, nt_clamp, nt_le, nt_lt, nt_eq, lit_le, lit_lt, le_lit, lt_lit, eq_lit, lit_eq, nt_neg, nt_ge, nt_add, nt_mul, nt_addl, lit_add, nt_mull, lit_mul, nt_sub, nt_subl, lit_sub, nt_divl, nt_m1, nt_m2, nt_m1', nt_m2', targetOf_ok hn hm V h, answerOf_ok hn hm V h, Option.bind_some]
          by_cases h0 : k = 0
          · rw [if_pos h0, if_pos h0]
          · rw [if_neg h0, if_neg h0]
        · rw [if_neg hc, decide_eq_false (by omega)]; rfl
