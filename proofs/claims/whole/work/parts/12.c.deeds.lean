/-! the class's machine and its deeds -/
theorem targetOf_ok {n m : Nat} {w : aT} {I : xI} {J : xJ} (hn : n ≤ 6) (hm : m ≤ 4) (V : Vd n m w) (h : cMa n m w (I 1 0) (I 1 1) (I 2) (I 3) (I 4)) {s x : Nat} (hs : s < 2147483648) (hx : x < 2147483648) : f_X5_targetOf (nt s) (nt x) I J = some (ov (w.1 s x), I, J) := by
  obtain ⟨h0, h1, h2, h3, h4⟩ := h
  by_cases c1 : s < n
  · by_cases c2 : x < m
    · simp (disch := omega) only [f_X5_targetOf_6, f_X5_targetOf_5, f_X5_targetOf_4, f_X5_targetOf_3, f_X5_targetOf_2, f_X5_targetOf_1, f_X5_targetOf_0, f_X5_targetOf, h0, h1, nt_clamp, nt_le, nt_lt, nt_eq, lit_le, lit_lt, le_lit, lt_lit, eq_lit, lit_eq, nt_neg, nt_ge, nt_add, nt_mul, nt_addl, lit_add, nt_mull, lit_mul, nt_sub, nt_subl, lit_sub, nt_divl, nt_m1, nt_m2, nt_m1', nt_m2', if_true, if_false, if_pos, if_neg, e01, e10, em12, em21, e0m1, e0m2, e1m1, e1m2, em10, em20, Int32.reduceLT, Int32.reduceLE, eq_self, Option.bind_some, Option.map_some, false_or, or_false, or_self, true_or, or_true, not_true_eq_false, not_false_eq_true, false_and, and_false, true_and, and_true, h2]
    · have e : w.1 s x = none := by
        cases e : w.1 s x with
        | none => rfl
        | some t => exact absurd (V.1 s x t e).2.1 c2
      rw [e]
      show _ = some ((-2 : Int32), I, J)
      simp (disch := omega) only [f_X5_targetOf_6, f_X5_targetOf_5, f_X5_targetOf_4, f_X5_targetOf_3, f_X5_targetOf_2, f_X5_targetOf_1, f_X5_targetOf_0, f_X5_targetOf, h0, h1, nt_clamp, nt_le, nt_lt, nt_eq, lit_le, lit_lt, le_lit, lt_lit, eq_lit, lit_eq, nt_neg, nt_ge, nt_add, nt_mul, nt_addl, lit_add, nt_mull, lit_mul, nt_sub, nt_subl, lit_sub, nt_divl, nt_m1, nt_m2, nt_m1', nt_m2', if_true, if_false, if_pos, if_neg, e01, e10, em12, em21, e0m1, e0m2, e1m1, e1m2, em10, em20, Int32.reduceLT, Int32.reduceLE, eq_self, Option.bind_some, Option.map_some, false_or, or_false, or_self, true_or, or_true, not_true_eq_false, not_false_eq_true, false_and, and_false, true_and, and_true]
  · have e : w.1 s x = none := by
      cases e : w.1 s x with
      | none => rfl
      | some t => exact absurd (V.1 s x t e).1 c1
    rw [e]
    show _ = some ((-2 : Int32), I, J)
    simp (disch := omega) only [f_X5_targetOf_6, f_X5_targetOf_5, f_X5_targetOf_4, f_X5_targetOf_3, f_X5_targetOf_2, f_X5_targetOf_1, f_X5_targetOf_0, f_X5_targetOf, h0, h1, nt_clamp, nt_le, nt_lt, nt_eq, lit_le, lit_lt, le_lit, lt_lit, eq_lit, lit_eq, nt_neg, nt_ge, nt_add, nt_mul, nt_addl, lit_add, nt_mull, lit_mul, nt_sub, nt_subl, lit_sub, nt_divl, nt_m1, nt_m2, nt_m1', nt_m2', if_true, if_false, if_pos, if_neg, e01, e10, em12, em21, e0m1, e0m2, e1m1, e1m2, em10, em20, Int32.reduceLT, Int32.reduceLE, eq_self, Option.bind_some, Option.map_some, false_or, or_false, or_self, true_or, or_true, not_true_eq_false, not_false_eq_true, false_and, and_false, true_and, and_true]
theorem answerOf_ok {n m : Nat} {w : aT} {I : xI} {J : xJ} (hn : n ≤ 6) (hm : m ≤ 4) (V : Vd n m w) (h : cMa n m w (I 1 0) (I 1 1) (I 2) (I 3) (I 4)) {s x : Nat} (hs : s < 2147483648) (hx : x < 2147483648) : f_X5_answerOf (nt s) (nt x) I J = some (ov (w.2.1 s x), I, J) := by
  obtain ⟨h0, h1, h2, h3, h4⟩ := h
  by_cases c1 : s < n
  · by_cases c2 : x < m
    · simp (disch := omega) only [f_X5_answerOf_6, f_X5_answerOf_5, f_X5_answerOf_4, f_X5_answerOf_3, f_X5_answerOf_2, f_X5_answerOf_1, f_X5_answerOf_0, f_X5_answerOf, h0, h1, nt_clamp, nt_le, nt_lt, nt_eq, lit_le, lit_lt, le_lit, lt_lit, eq_lit, lit_eq, nt_neg, nt_ge, nt_add, nt_mul, nt_addl, lit_add, nt_mull, lit_mul, nt_sub, nt_subl, lit_sub, nt_divl, nt_m1, nt_m2, nt_m1', nt_m2', if_true, if_false, if_pos, if_neg, e01, e10, em12, em21, e0m1, e0m2, e1m1, e1m2, em10, em20, Int32.reduceLT, Int32.reduceLE, eq_self, Option.bind_some, Option.map_some, false_or, or_false, or_self, true_or, or_true, not_true_eq_false, not_false_eq_true, false_and, and_false, true_and, and_true, h3]
    · have e : w.2.1 s x = none := by
        cases e : w.2.1 s x with
        | none => rfl
        | some t => exact absurd (V.2.1 s x t e).2.1 c2
      rw [e]
      show _ = some ((-2 : Int32), I, J)
      simp (disch := omega) only [f_X5_answerOf_6, f_X5_answerOf_5, f_X5_answerOf_4, f_X5_answerOf_3, f_X5_answerOf_2, f_X5_answerOf_1, f_X5_answerOf_0, f_X5_answerOf, h0, h1, nt_clamp, nt_le, nt_lt, nt_eq, lit_le, lit_lt, le_lit, lt_lit, eq_lit, lit_eq, nt_neg, nt_ge, nt_add, nt_mul, nt_addl, lit_add, nt_mull, lit_mul, nt_sub, nt_subl, lit_sub, nt_divl, nt_m1, nt_m2, nt_m1', nt_m2', if_true, if_false, if_pos, if_neg, e01, e10, em12, em21, e0m1, e0m2, e1m1, e1m2, em10, em20, Int32.reduceLT, Int32.reduceLE, eq_self, Option.bind_some, Option.map_some, false_or, or_false, or_self, true_or, or_true, not_true_eq_false, not_false_eq_true, false_and, and_false, true_and, and_true]
  · have e : w.2.1 s x = none := by
      cases e : w.2.1 s x with
      | none => rfl
      | some t => exact absurd (V.2.1 s x t e).1 c1
    rw [e]
    show _ = some ((-2 : Int32), I, J)
    simp (disch := omega) only [f_X5_answerOf_6, f_X5_answerOf_5, f_X5_answerOf_4, f_X5_answerOf_3, f_X5_answerOf_2, f_X5_answerOf_1, f_X5_answerOf_0, f_X5_answerOf, h0, h1, nt_clamp, nt_le, nt_lt, nt_eq, lit_le, lit_lt, le_lit, lt_lit, eq_lit, lit_eq, nt_neg, nt_ge, nt_add, nt_mul, nt_addl, lit_add, nt_mull, lit_mul, nt_sub, nt_subl, lit_sub, nt_divl, nt_m1, nt_m2, nt_m1', nt_m2', if_true, if_false, if_pos, if_neg, e01, e10, em12, em21, e0m1, e0m2, e1m1, e1m2, em10, em20, Int32.reduceLT, Int32.reduceLE, eq_self, Option.bind_some, Option.map_some, false_or, or_false, or_self, true_or, or_true, not_true_eq_false, not_false_eq_true, false_and, and_false, true_and, and_true]
/-- what was asked for: open, or a number -/
def po (c : Int32) : Option Nat := if c = -2 then none else some c.toNatClampNeg
theorem ov_po {c : Int32} {N : Nat} (hN : N < 2147483648) (h : (decide (c = -2) || isS N c) = true) : ov (po c) = c ∧ ∀ k, po c = some k → k < N := by
  unfold po
  by_cases hc : c = -2
  · rw [if_pos hc]; exact ⟨hc.symm, fun k h => by cases h⟩
  · rw [if_neg hc]
    rw [decide_eq_false hc, Bool.false_or] at h
    obtain ⟨k, hk, rfl⟩ := isS_ex hN h
    rw [nt_clamp (by omega)]
    refine ⟨rfl, fun j h => ?_⟩
    cases h; exact hk
theorem ov_eq {a b : Option Nat} (ha : ∀ k, a = some k → k < 2147483648) (hb : ∀ k, b = some k → k < 2147483648) : (ov a = ov b) = (a = b) := by
  cases a with
  | none =>
    cases b with
    | none => simp
    | some k => show (-2 = nt k) = _; rw [nt_m2' (hb k rfl)]; simp
  | some j =>
    cases b with
    | none => show (nt j = -2) = _; rw [nt_m2 (ha j rfl)]; simp
    | some k => show (nt j = nt k) = _; rw [nt_eq (ha j rfl) (hb k rfl)]; simp
def setOk (n m : Nat) (a b c d : Int32) : Bool := isS n a && isS m b && (decide (c = -2) || isS n c) && (decide (d = -2) || isS 4 d)
def setR (n m : Nat) (w : aT) (a b c d : Int32) : Bool := setOk n m a b c d && !(decide (w.1 a.toNatClampNeg b.toNatClampNeg = po c) && decide (w.2.1 a.toNatClampNeg b.toNatClampNeg = po d))
def push {α : Type} (w : α) (g : Nat → α) : Nat → α := fun i => match i with
  | 0 => w
  | i + 1 => g i
theorem keep_ok {I : xI} {J : xJ} {a b c d : Int32} {p k : Nat} (hp : p < 40) (hk : k ≤ 40) (h5 : I 5 5 = nt p) (h6 : I 5 6 = nt k) : Ok (f_X4_keep a b c d I J) (fun t => t.2.2 = J ∧ t.2.1 5 5 = nt ((p + 1) % 40) ∧ t.2.1 5 6 = nt (min (k + 1) 40) ∧ (∀ j, t.2.1 6 j = if j = p then a else I 6 j) ∧ (∀ j, t.2.1 7 j = if j = p then b else I 7 j) ∧ (∀ j, t.2.1 8 j = if j = p then c else I 8 j) ∧ (∀ j, t.2.1 9 j = if j = p then d else I 9 j) ∧ ∀ a j, ¬ a = 6 → ¬ a = 7 → ¬ a = 8 → ¬ a = 9 → ¬ (a = 5 ∧ (j = 5 ∨ j = 6)) → t.2.1 a j = I a j) := by
  simp (disch := omega) only [f_X4_keep_0, f_X4_keep, h5, h6, xup_bj, xup_at, xup_j, nt_clamp, nt_le, nt_lt, nt_eq, lit_le, lit_lt, le_lit, lt_lit, eq_lit, lit_eq, nt_neg, nt_ge, nt_add, nt_mul, nt_addl, lit_add, nt_mull, lit_mul, nt_sub, nt_subl, lit_sub, nt_divl, nt_m1, nt_m2, nt_m1', nt_m2', if_true, if_false, if_pos, if_neg, e01, e10, em12, em21, e0m1, e0m2, e1m1, e1m2, em10, em20, Int32.reduceLT, Int32.reduceLE, eq_self, Option.bind_some, Option.map_some, false_or, or_false, or_self, true_or, or_true, not_true_eq_false, not_false_eq_true, false_and, and_false, true_and, and_true]
  refine ok_some ?_
  dsimp only
  refine ⟨rfl, ?_, ?_, ?_, ?_, ?_, ?_, ?_⟩
  · rw [xup_j _ _ _ _ (by omega), xup_at]
    congr 1; omega
  · rw [xup_at]
    by_cases hc : 40 < k + 1
    · rw [if_pos hc, show min (k + 1) 40 = 40 from by omega]; rfl
    · rw [if_neg hc, show min (k + 1) 40 = k + 1 from by omega]
  · intro j; simp (disch := omega) only [xup_bj, xup_if]
  · intro j; simp (disch := omega) only [xup_bj, xup_if]
  · intro j; simp (disch := omega) only [xup_bj, xup_if]
  · intro j; simp (disch := omega) only [xup_bj, xup_if]
  · intro a j h1 h2 h3 h4 h5
    simp (disch := omega) only [xup_no]
theorem cHi_push {n m k : Nat} {g : Nat → aT} {w : aT} {v5 v6 u5 u6 : Int32} {c6 c7 c8 c9 e6 e7 e8 e9 : Nat → Int32} {a b c d : Int32} {p : Nat} (hp : p < 40) (h5 : v5 = nt p) (h : cHi n m k g v5 v6 c6 c7 c8 c9) (k5 : u5 = nt ((p + 1) % 40)) (k6 : u6 = nt (min (k + 1) 40)) (q6 : ∀ j, e6 j = if j = p then a else c6 j) (q7 : ∀ j, e7 j = if j = p then b else c7 j) (q8 : ∀ j, e8 j = if j = p then c else c8 j) (q9 : ∀ j, e9 j = if j = p then d else c9 j) (hd : Dd n m a b c d w (g 0)) : cHi n m (min (k + 1) 40) (push w g) u5 u6 e6 e7 e8 e9 := by
  obtain ⟨h6, hk, p', hp', h5', hD⟩ := h
  have : p' = p := nt_inj (by omega) (by omega) (h5'.symm.trans h5)
  subst this
  refine ⟨k6, by omega, (p' + 1) % 40, by omega, k5, ?_⟩
  intro i hi
  rcases i with _ | i
  · have e : ((p' + 1) % 40 + 79 - 0) % 40 = p' := by omega
    rw [e, q6, q7, q8, q9, if_pos rfl, if_pos rfl, if_pos rfl, if_pos rfl]
    exact hd
  · have e : ((p' + 1) % 40 + 79 - (i + 1)) % 40 = (p' + 79 - i) % 40 := by omega
    have e2 : ¬ ((p' + 79 - i) % 40 = p') := by omega
    rw [e, q6, q7, q8, q9, if_neg e2, if_neg e2, if_neg e2, if_neg e2]
    exact hD i (by omega)
theorem aup_at {α : Type} (f : Nat → Nat → α) (s x : Nat) (v : α) : aup f s x v s x = v := if_pos ⟨rfl, rfl⟩
theorem aup_back {α : Type} (f : Nat → Nat → α) (s x : Nat) (v : α) : aup (aup f s x v) s x (f s x) = f := by
  funext s' x'
  unfold aup
  by_cases h : s' = s ∧ x' = x
  · rw [if_pos h, h.1, h.2]
  · rw [if_neg h, if_neg h]
theorem aset_back (w : aT) (s x : Nat) (t a : Option Nat) : aset (aset w s x t a) s x (w.1 s x) (w.2.1 s x) = w := by
  unfold aset
  dsimp only
  rw [aup_back, aup_back]
theorem acode_back (w : aT) (s c : Nat) : acode (acode w s c) s (w.2.2 s) = w := by
  unfold acode
  dsimp only
  have : (fun s' => if s' = s then w.2.2 s else if s' = s then c else w.2.2 s') = w.2.2 := by
    funext s'
    by_cases h : s' = s
    · rw [if_pos h, h]
    · rw [if_neg h, if_neg h]
  rw [this]
theorem Vd_set {n m : Nat} {w : aT} (V : Vd n m w) {s x : Nat} (hs : s < n) (hx : x < m) {t a : Option Nat} (ht : ∀ k, t = some k → k < n) (ha : ∀ k, a = some k → k < 4) : Vd n m (aset w s x t a) := by
  obtain ⟨v1, v2, v3⟩ := V
  refine ⟨?_, ?_, v3⟩
  · intro s' x' k h
    by_cases c : s' = s ∧ x' = x
    · have h : (if s' = s ∧ x' = x then t else w.1 s' x') = some k := h
      rw [if_pos c] at h
      exact ⟨by omega, by omega, ht k h⟩
    · have h : (if s' = s ∧ x' = x then t else w.1 s' x') = some k := h
      rw [if_neg c] at h
      exact v1 s' x' k h
  · intro s' x' k h
    by_cases c : s' = s ∧ x' = x
    · have h : (if s' = s ∧ x' = x then a else w.2.1 s' x') = some k := h
      rw [if_pos c] at h
      exact ⟨by omega, by omega, ha k h⟩
    · have h : (if s' = s ∧ x' = x then a else w.2.1 s' x') = some k := h
      rw [if_neg c] at h
      exact v2 s' x' k h
theorem Vd_code {n m : Nat} {w : aT} (V : Vd n m w) {s c : Nat} (hc : c < 8) : Vd n m (acode w s c) := by
  obtain ⟨v1, v2, v3⟩ := V
  refine ⟨v1, v2, fun s' => ?_⟩
  show (if s' = s then c else w.2.2 s') < 8
  by_cases h : s' = s
  · rw [if_pos h]; exact hc
  · rw [if_neg h]; exact v3 s'
theorem cMa_set {n m : Nat} {w : aT} {v0 v1 u0 u1 : Int32} {c2 c3 c4 e2 e3 e4 : Nat → Int32} (h : cMa n m w v0 v1 c2 c3 c4) {s x : Nat} (hs : s < 6) (hx : x < 4) {t a : Option Nat} (k0 : u0 = v0) (k1 : u1 = v1) (q2 : ∀ j, e2 j = if j = s * 4 + x then ov t else c2 j) (q3 : ∀ j, e3 j = if j = s * 4 + x then ov a else c3 j) (q4 : e4 = c4) : cMa n m (aset w s x t a) u0 u1 e2 e3 e4 := by
  obtain ⟨h0, h1, h2, h3, h4⟩ := h
  refine ⟨k0.trans h0, k1.trans h1, ?_, ?_, ?_⟩
  · intro s' x' hs' hx'
    show e2 (s' * 4 + x') = ov (if s' = s ∧ x' = x then t else w.1 s' x')
    rw [q2]
    by_cases c : s' = s ∧ x' = x
    · rw [if_pos c, if_pos (by omega)]
    · rw [if_neg c, if_neg (by omega)]; exact h2 s' x' hs' hx'
  · intro s' x' hs' hx'
    show e3 (s' * 4 + x') = ov (if s' = s ∧ x' = x then a else w.2.1 s' x')
    rw [q3]
    by_cases c : s' = s ∧ x' = x
    · rw [if_pos c, if_pos (by omega)]
    · rw [if_neg c, if_neg (by omega)]; exact h3 s' x' hs' hx'
  · intro s' hs'
    rw [q4]; exact h4 s' hs'
theorem cMa_code {n m : Nat} {w : aT} {v0 v1 u0 u1 : Int32} {c2 c3 c4 e2 e3 e4 : Nat → Int32} (h : cMa n m w v0 v1 c2 c3 c4) {s c : Nat} (k0 : u0 = v0) (k1 : u1 = v1) (q2 : e2 = c2) (q3 : e3 = c3) (q4 : ∀ j, e4 j = if j = s then nt c else c4 j) : cMa n m (acode w s c) u0 u1 e2 e3 e4 := by
  obtain ⟨h0, h1, h2, h3, h4⟩ := h
  refine ⟨k0.trans h0, k1.trans h1, ?_, ?_, ?_⟩
  · intro s' x' hs' hx'
    rw [q2]; exact h2 s' x' hs' hx'
  · intro s' x' hs' hx'
    rw [q3]; exact h3 s' x' hs' hx'
  · intro s' hs'
    show e4 s' = nt (if s' = s then c else w.2.2 s')
    rw [q4]
    by_cases c : s' = s
    · rw [if_pos c, if_pos c]
    · rw [if_neg c, if_neg c]; exact h4 s' hs'
theorem putMove_ok {n m : Nat} {I : xI} {J : xJ} (hn : n ≤ 6) (hm : m ≤ 4) (h0 : I 1 0 = nt n) (h1 : I 1 1 = nt m) {s x : Nat} (hs : s < n) (hx : x < m) {c d : Int32} : Ok (f_X5_putMove (nt s) (nt x) c d I J) (fun t => t.2.2 = J ∧ t.2.1 1 2 = I 1 2 + 1 ∧ (∀ j, t.2.1 2 j = if j = s * 4 + x then c else I 2 j) ∧ (∀ j, t.2.1 3 j = if j = s * 4 + x then d else I 3 j) ∧ ∀ a j, ¬ a = 2 → ¬ a = 3 → ¬ (a = 1 ∧ j = 2) → t.2.1 a j = I a j) := by
  simp (disch := omega) only [f_X5_putMove_5, f_X5_putMove_4, f_X5_putMove_3, f_X5_putMove_2, f_X5_putMove_1, f_X5_putMove_0, f_X5_putMove, hasState_ok h0, hasInput_ok h1, isS_nt, decide_eq_true, bi_0, nt_clamp, nt_le, nt_lt, nt_eq, lit_le, lit_lt, le_lit, lt_lit, eq_lit, lit_eq, nt_neg, nt_ge, nt_add, nt_mul, nt_addl, lit_add, nt_mull, lit_mul, nt_sub, nt_subl, lit_sub, nt_divl, nt_m1, nt_m2, nt_m1', nt_m2', if_true, if_false, if_pos, if_neg, e01, e10, em12, em21, e0m1, e0m2, e1m1, e1m2, em10, em20, Int32.reduceLT, Int32.reduceLE, eq_self, Option.bind_some, Option.map_some, false_or, or_false, or_self, true_or, or_true, not_true_eq_false, not_false_eq_true, false_and, and_false, true_and, and_true, xup_bj]
  simp (disch := omega) only [Bool.true_eq_false, if_true, if_false, if_pos, if_neg, e01, e10, em12, em21, e0m1, e0m2, e1m1, e1m2, em10, em20, Int32.reduceLT, Int32.reduceLE, eq_self, Option.bind_some, Option.map_some, false_or, or_false, or_self, true_or, or_true, not_true_eq_false, not_false_eq_true, false_and, and_false, true_and, and_true]
  refine ok_some ?_
  dsimp only
  refine ⟨rfl, ?_, ?_, ?_, ?_⟩
  · rw [xup_at]
  · intro j; simp (disch := omega) only [xup_bj, xup_if]
  · intro j; simp (disch := omega) only [xup_bj, xup_if]
  · intro a j h1 h2 h3
    simp (disch := omega) only [xup_no]
theorem putCode_ok {n : Nat} {I : xI} {J : xJ} (hn : n ≤ 6) (h0 : I 1 0 = nt n) {s : Nat} (hs : s < n) {c : Int32} : f_X5_putCode (nt s) c I J = some ((), xup I 4 s c, J) := by
  simp (disch := omega) only [f_X5_putCode_3, f_X5_putCode_2, f_X5_putCode_1, f_X5_putCode_0, f_X5_putCode, hasState_ok h0, isS_nt, decide_eq_true, bi_0, nt_clamp, nt_le, nt_lt, nt_eq, lit_le, lit_lt, le_lit, lt_lit, eq_lit, lit_eq, nt_neg, nt_ge, nt_add, nt_mul, nt_addl, lit_add, nt_mull, lit_mul, nt_sub, nt_subl, lit_sub, nt_divl, nt_m1, nt_m2, nt_m1', nt_m2', if_true, if_false, if_pos, if_neg, e01, e10, em12, em21, e0m1, e0m2, e1m1, e1m2, em10, em20, Int32.reduceLT, Int32.reduceLE, eq_self, Option.bind_some, Option.map_some, false_or, or_false, or_self, true_or, or_true, not_true_eq_false, not_false_eq_true, false_and, and_false, true_and, and_true]
  simp (disch := omega) only [Bool.true_eq_false, if_true, if_false, if_pos, if_neg, e01, e10, em12, em21, e0m1, e0m2, e1m1, e1m2, em10, em20, Int32.reduceLT, Int32.reduceLE, eq_self, Option.bind_some, Option.map_some, false_or, or_false, or_self, true_or, or_true, not_true_eq_false, not_false_eq_true, false_and, and_false, true_and, and_true]
