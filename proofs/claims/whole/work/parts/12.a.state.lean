/-! what both objects hold -/
theorem e01 : ((0 : Int32) = 1) = False := by decide
theorem e10 : ((1 : Int32) = 0) = False := by decide
theorem em12 : ((-1 : Int32) = -2) = False := by decide
theorem em21 : ((-2 : Int32) = -1) = False := by decide
theorem e0m1 : ((0 : Int32) = -1) = False := by decide
theorem e0m2 : ((0 : Int32) = -2) = False := by decide
theorem e1m1 : ((1 : Int32) = -1) = False := by decide
theorem e1m2 : ((1 : Int32) = -2) = False := by decide
theorem em10 : ((-1 : Int32) = 0) = False := by decide
theorem em20 : ((-2 : Int32) = 0) = False := by decide
abbrev aT : Type := (Nat → Nat → Option Nat) × (Nat → Nat → Option Nat) × (Nat → Nat)
def aup {α : Type} (f : Nat → Nat → α) (s x : Nat) (v : α) : Nat → Nat → α := fun s' x' => if s' = s ∧ x' = x then v else f s' x'
def aset (w : aT) (s x : Nat) (t a : Option Nat) : aT := (aup w.1 s x t, aup w.2.1 s x a, w.2.2)
def acode (w : aT) (s c : Nat) : aT := (w.1, w.2.1, fun s' => if s' = s then c else w.2.2 s')
/-- what a machine of n states and m inputs may hold -/
def Vd (n m : Nat) (w : aT) : Prop := (∀ s x t, w.1 s x = some t → s < n ∧ x < m ∧ t < n) ∧ (∀ s x a, w.2.1 s x = some a → s < n ∧ x < m ∧ a < 4) ∧ ∀ s, w.2.2 s < 8
/-- the class's machine -/
def cMa (n m : Nat) (w : aT) (v0 v1 : Int32) (c2 c3 c4 : Nat → Int32) : Prop := v0 = nt n ∧ v1 = nt m ∧ (∀ s x, s < 6 → x < 4 → c2 (s * 4 + x) = ov (w.1 s x)) ∧ (∀ s x, s < 6 → x < 4 → c3 (s * 4 + x) = ov (w.2.1 s x)) ∧ ∀ s, s < 6 → c4 s = nt (w.2.2 s)
/-- a row of the reference's -/
def rMa (n m : Nat) (w : aT) (c : Nat → Int32) (off : Nat) : Prop := (∀ s x, s < n → x < m → c (off + (4 * s + x)) = ov (w.1 s x)) ∧ (∀ s x, s < n → x < m → c (off + (24 + 4 * s + x)) = ov (w.2.1 s x)) ∧ ∀ s, s < n → c (off + (48 + s)) = nt (w.2.2 s)
/-- one deed, from the later machine w to the earlier one w' -/
def Dd (n m : Nat) (a b c d : Int32) (w w' : aT) : Prop := (∃ s k, s < n ∧ a = nt s ∧ b = -1 ∧ c = nt k ∧ k < 8 ∧ w' = acode w s k) ∨ (∃ s x t u, s < n ∧ x < m ∧ a = nt s ∧ b = nt x ∧ c = ov t ∧ d = ov u ∧ (∀ t', t = some t' → t' < n) ∧ (∀ u', u = some u' → u' < 4) ∧ w' = aset w s x t u)
/-- the class's deeds: g 0 is the machine now, g (i + 1) the one behind it -/
def cHi (n m k : Nat) (g : Nat → aT) (v5 v6 : Int32) (c6 c7 c8 c9 : Nat → Int32) : Prop := v6 = nt k ∧ k ≤ 40 ∧ ∃ p, p < 40 ∧ v5 = nt p ∧ ∀ i, i < k → Dd n m (c6 ((p + 79 - i) % 40)) (c7 ((p + 79 - i) % 40)) (c8 ((p + 79 - i) % 40)) (c9 ((p + 79 - i) % 40)) (g i) (g (i + 1))
def rHi (n m k : Nat) (g : Nat → aT) (v25 v26 : Int32) (c72 : Nat → Int32) : Prop := v26 = nt k ∧ k ≤ 40 ∧ ∃ e, e < 40 ∧ v25 = nt e ∧ ∀ i, i < k → rMa n m (g (i + 1)) c72 (54 * ((e + (k - 1 - i)) % 40))
def cTa (l : Nat) (bs : Nat → Int32) (v : Int32) (c : Nat → Int32) : Prop := v = nt l ∧ ∀ k, k < l → c k = bs k
/-- a number that is a byte's -/
def byt (x : Int32) : Int32 := Int8.toInt32 (Int32.toInt8 x)
def isS (n : Nat) (x : Int32) : Bool := decide (0 ≤ x) && decide (x < nt n)
theorem isS_nt {n k : Nat} (hn : n < 2147483648) (hk : k < 2147483648) : isS n (nt k) = decide (k < n) := by
  unfold isS
  simp only [nt_ge hk, nt_lt hk hn, decide_true, Bool.true_and]
theorem isS_neg {n : Nat} {x : Int32} (h : x < 0) : isS n x = false := by
  unfold isS
  have : ¬ (0 ≤ x) := by
    rw [Int32.lt_iff_toInt_lt] at h
    rw [Int32.le_iff_toInt_le]
    omega
  simp only [this, decide_false, Bool.false_and]
theorem isS_ex {n : Nat} {x : Int32} (hn : n < 2147483648) (h : isS n x = true) : ∃ k, k < n ∧ x = nt k := by
  rcases nt_all x with hx | ⟨k, hk, rfl⟩
  · rw [isS_neg hx] at h; exact absurd h (by decide)
  · rw [isS_nt hn hk] at h
    exact ⟨k, of_decide_eq_true h, rfl⟩
theorem hasState_ok {n : Nat} {I : xI} {J : xJ} {x : Int32} (h : I 1 0 = nt n) (hn : n < 2147483648) : f_X5_hasState x I J = some (bi (isS n x), I, J) := by
  rcases nt_all x with hx | ⟨k, hk, rfl⟩
  · rw [isS_neg hx]
    simp only [f_X5_hasState_4, f_X5_hasState_3, f_X5_hasState_2, f_X5_hasState_1, f_X5_hasState_0, f_X5_hasState, if_pos hx]
    rfl
  · rw [isS_nt hn hk]
    simp (disch := omega) only [f_X5_hasState_4, f_X5_hasState_3, f_X5_hasState_2, f_X5_hasState_1, f_X5_hasState_0, f_X5_hasState, nt_clamp, nt_le, nt_lt, nt_eq, lit_le, lit_lt, le_lit, lt_lit, eq_lit, lit_eq, nt_neg, nt_ge, nt_add, nt_mul, nt_addl, lit_add, nt_mull, lit_mul, nt_sub, nt_subl, lit_sub, nt_divl, nt_m1, nt_m2, nt_m1', nt_m2', h, if_true, if_false, if_pos, if_neg, e01, e10, em12, em21, e0m1, e0m2, e1m1, e1m2, em10, em20, Int32.reduceLT, Int32.reduceLE, eq_self, Option.bind_some, Option.map_some, false_or, or_false, or_self, true_or, or_true, not_true_eq_false, not_false_eq_true, false_and, and_false, true_and, and_true]
    by_cases hc : n ≤ k
    · rw [if_pos hc, decide_eq_false (by omega)]; rfl
    · rw [if_neg hc, decide_eq_true (by omega)]; rfl
theorem hasInput_ok {m : Nat} {I : xI} {J : xJ} {x : Int32} (h : I 1 1 = nt m) (hn : m < 2147483648) : f_X5_hasInput x I J = some (bi (isS m x), I, J) := by
  rcases nt_all x with hx | ⟨k, hk, rfl⟩
  · rw [isS_neg hx]
    simp only [f_X5_hasInput_4, f_X5_hasInput_3, f_X5_hasInput_2, f_X5_hasInput_1, f_X5_hasInput_0, f_X5_hasInput, if_pos hx]
    rfl
  · rw [isS_nt hn hk]
    simp (disch := omega) only [f_X5_hasInput_4, f_X5_hasInput_3, f_X5_hasInput_2, f_X5_hasInput_1, f_X5_hasInput_0, f_X5_hasInput, nt_clamp, nt_le, nt_lt, nt_eq, lit_le, lit_lt, le_lit, lt_lit, eq_lit, lit_eq, nt_neg, nt_ge, nt_add, nt_mul, nt_addl, lit_add, nt_mull, lit_mul, nt_sub, nt_subl, lit_sub, nt_divl, nt_m1, nt_m2, nt_m1', nt_m2', h, if_true, if_false, if_pos, if_neg, e01, e10, em12, em21, e0m1, e0m2, e1m1, e1m2, em10, em20, Int32.reduceLT, Int32.reduceLE, eq_self, Option.bind_some, Option.map_some, false_or, or_false, or_self, true_or, or_true, not_true_eq_false, not_false_eq_true, false_and, and_false, true_and, and_true]
    by_cases hc : m ≤ k
    · rw [if_pos hc, decide_eq_false (by omega)]; rfl
    · rw [if_neg hc, decide_eq_true (by omega)]; rfl
theorem rin_ok {v : Int32} {n : Nat} {I : xI} {J : xJ} (hn : n < 2147483648) : f_X12_in v 0 (nt n - 1) I J = some (bi (isS n v), I, J) := by
  rcases nt_all v with hx | ⟨k, hk, rfl⟩
  · rw [isS_neg hx]
    simp only [f_X12_in_4, f_X12_in_3, f_X12_in_2, f_X12_in_1, f_X12_in_0, f_X12_in, if_pos hx]
    rfl
  · rw [isS_nt hn hk]
    simp (disch := omega) only [f_X12_in_4, f_X12_in_3, f_X12_in_2, f_X12_in_1, f_X12_in_0, f_X12_in, nt_clamp, nt_le, nt_lt, nt_eq, lit_le, lit_lt, le_lit, lt_lit, eq_lit, lit_eq, nt_neg, nt_ge, nt_add, nt_mul, nt_addl, lit_add, nt_mull, lit_mul, nt_sub, nt_subl, lit_sub, nt_divl, nt_m1, nt_m2, nt_m1', nt_m2', if_true, if_false, if_pos, if_neg, e01, e10, em12, em21, e0m1, e0m2, e1m1, e1m2, em10, em20, Int32.reduceLT, Int32.reduceLE, eq_self, Option.bind_some, Option.map_some, false_or, or_false, or_self, true_or, or_true, not_true_eq_false, not_false_eq_true, false_and, and_false, true_and, and_true]
    rcases n with _ | n
    · have h1 : (nt 0 - 1 < nt k) := by
        rw [Int32.lt_iff_toInt_lt, nt_int hk]
        have : (nt 0 - 1).toInt = -1 := by decide
        omega
      rw [if_pos h1]; rfl
    · simp (disch := omega) only [nt_subl, nt_lt]
      by_cases hc : n + 1 - 1 < k
      · rw [if_pos hc, decide_eq_false (by omega)]; rfl
      · rw [if_neg hc, decide_eq_true (by omega)]; rfl
theorem isState_ok {n : Nat} {I : xI} {J : xJ} {x : Int32} (h : I 61 17 = nt n) (hn : n < 2147483648) : f_X12_isState x I J = some (bi (isS n x), I, J) := by
  simp only [f_X12_isState_1, f_X12_isState_0, f_X12_isState, h, rin_ok hn, Option.bind_some, bi_ok, if_true]
theorem isInput_ok {n : Nat} {I : xI} {J : xJ} {x : Int32} (h : I 61 18 = nt n) (hn : n < 2147483648) : f_X12_isInput x I J = some (bi (isS n x), I, J) := by
  simp only [f_X12_isInput_1, f_X12_isInput_0, f_X12_isInput, h, rin_ok hn, Option.bind_some, bi_ok, if_true]
theorem isMove_ok {n m : Nat} {I : xI} {J : xJ} {x y : Int32} (h : I 61 17 = nt n) (hn : n < 2147483648) (h2 : I 61 18 = nt m) (hm : m < 2147483648) : f_X12_isMove x y I J = some (bi (isS n x && isS m y), I, J) := by
  simp only [f_X12_isMove_6, f_X12_isMove_5, f_X12_isMove_4, f_X12_isMove_3, f_X12_isMove_2, f_X12_isMove_1, f_X12_isMove_0, f_X12_isMove, isState_ok h hn, isInput_ok h2 hm, Option.bind_some, bi_0]
  cases isS n x with
  | false => rfl
  | true =>
    cases isS m y with
    | false => rfl
    | true => rfl
