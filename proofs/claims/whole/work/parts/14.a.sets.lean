/-! sets of states -/
theorem shl_nt : ∀ n, n < 31 → (1 : Int32) <<< nt n = nt (2 ^ n) := by decide
theorem pow_le {n : Nat} (h : n ≤ 6) : 2 ^ n ≤ 64 := by
  have : n = 0 ∨ n = 1 ∨ n = 2 ∨ n = 3 ∨ n = 4 ∨ n = 5 ∨ n = 6 := by omega
  rcases this with rfl | rfl | rfl | rfl | rfl | rfl | rfl <;> decide
theorem pow_pos2 (n : Nat) : 0 < 2 ^ n := Nat.pos_of_ne_zero (by intro h; have := Nat.pow_eq_zero.mp h; omega)
def orf (n : Nat) (f : Nat → Int32) : Int32 := match n with
  | 0 => 0
  | n + 1 => orf n f ||| f n
theorem orf_bt {n : Nat} {f : Nat → Int32} (k : Nat) : bt (orf n f) k = ex n (fun i => bt (f i) k) := by
  induction n with
  | zero => exact bt_zero k
  | succ n ih => rw [orf, bt_or, ih, ex]
theorem orf_congr {n : Nat} {f g : Nat → Int32} (h : ∀ i, i < n → f i = g i) : orf n f = orf n g := by
  induction n with
  | zero => rfl
  | succ n ih => rw [orf, orf, ih (fun i hi => h i (by omega)), h n (by omega)]
theorem has_ok {I : xI} {J : xJ} {x : Int32} {k : Nat} (hk : k < 32) : f_X12_has x (nt k) I J = some (bi (bt x k), I, J) := by
  simp (disch := omega) only [f_X12_has_3, f_X12_has_2, f_X12_has_1, f_X12_has_0, f_X12_has, nt_31, has_bi, bi_1]
  cases bt x k <;> rfl
/-- whether all of a set may be one -/
def alk (n : Nat) (R : Nat → Nat → Option Nat) (x : Int32) : Bool := al n (fun a => al a (fun b => !(bt x a && bt x b && (R a b).isSome)))
theorem isAlike_ok {n m : Nat} {w : aT} {I : xI} {J : xJ} (hn : n ≤ 6) (V : Vd n m w) (h0 : I 61 17 = nt n) (hR : cR (rd m w) (I 76)) (x : Int32) : f_X12_isAlike x I J = some (bi (alk n (rd m w) x), I, J) := by
  apply Ok.eq
  unfold f_X12_isAlike f_X12_isAlike_0 f_X12_isAlike_1
  refine ok_loop (fun a s => (∃ z, s = (x, nt a, z, I, J)) ∧ al a (fun a => al a (fun b => !(bt x a && bt x b && (rd m w a b).isSome))) = true) n ?_ ?_ 5000 0 _ (by omega) (by omega) ⟨⟨none, rfl⟩, rfl⟩
  · rintro a ha s ⟨⟨z, rfl⟩, hg⟩
    simp (disch := omega) only [b_X12_isAlike_1, f_X12_isAlike_2, h0, nt_clamp, nt_le, nt_lt, nt_eq, lit_le, lit_lt, le_lit, lt_lit, eq_lit, lit_eq, nt_neg, nt_ge, nt_add, nt_mul, nt_addl, lit_add, nt_mull, lit_mul, nt_sub, nt_subl, lit_sub, nt_divl, nt_m1, nt_m2, nt_m1', nt_m2', if_true, if_false, if_pos, if_neg, e01, e10, em12, em21, e0m1, e0m2, e1m1, e1m2, em10, em20, Int32.reduceLT, Int32.reduceLE, eq_self, Option.bind_some, Option.map_some, false_or, or_false, or_self, true_or, or_true, not_true_eq_false, not_false_eq_true, false_and, and_false, true_and, and_true]
    unfold f_X12_isAlike_3
    refine ok_loop (fun b s => s = (x, nt a, nt b, I, J) ∧ al b (fun b => !(bt x a && bt x b && (rd m w a b).isSome)) = true) a ?_ ?_ 5000 0 _ (by omega) (by omega) ⟨rfl, rfl⟩
    · rintro b hb s ⟨rfl, hg2⟩
      have hc := hR a b (by omega) (by omega)
      simp (disch := omega) only [b_X12_isAlike_3, f_X12_isAlike_4, f_X12_isAlike_5, f_X12_isAlike_6, f_X12_isAlike_7, f_X12_isAlike_8, f_X12_isAlike_10, nt_clamp, nt_le, nt_lt, nt_eq, lit_le, lit_lt, le_lit, lt_lit, eq_lit, lit_eq, nt_neg, nt_ge, nt_add, nt_mul, nt_addl, lit_add, nt_mull, lit_mul, nt_sub, nt_subl, lit_sub, nt_divl, nt_m1, nt_m2, nt_m1', nt_m2', has_ok, Option.bind_some, bi_0, if_neg, if_pos, or_false, false_or, hc]
      have next : (bt x a && bt x b && (rd m w a b).isSome) = false → al (b + 1) (fun b => !(bt x a && bt x b && (rd m w a b).isSome)) = true := by
        intro he; rw [al, hg2, he]; rfl
      cases ea : bt x a with
      | false =>
        simp only [if_true]
        have nx := next (by rw [ea]; rfl)
        simp only [ea] at nx
        exact ok_some ⟨rfl, nx⟩
      | true =>
        cases eb : bt x b with
        | false =>
          simp only [if_true, Bool.true_eq_false, if_false]
          have nx := next (by rw [ea, eb]; rfl)
          simp only [ea] at nx
          exact ok_some ⟨rfl, nx⟩
        | true =>
          simp only [Bool.true_eq_false, if_false]
          cases er : rd m w a b with
          | none =>
            simp only [ov_n, Int32.reduceLT, if_true]
            have nx := next (by rw [er, Option.isSome_none, Bool.and_false])
            simp only [ea] at nx
            exact ok_some ⟨rfl, nx⟩
          | some r =>
            have hr := rdk_le m w er
            simp (disch := omega) only [ov_s, nt_clamp, nt_le, nt_lt, nt_eq, lit_le, lit_lt, le_lit, lt_lit, eq_lit, lit_eq, nt_neg, nt_ge, nt_add, nt_mul, nt_addl, lit_add, nt_mull, lit_mul, nt_sub, nt_subl, lit_sub, nt_divl, nt_m1, nt_m2, nt_m1', nt_m2', if_false, f_X12_isAlike_9, Option.map_some]
            refine ok_some ?_
            have e : alk n (rd m w) x = false := by
              refine al_false ha ?_
              refine al_false hb ?_
              rw [ea, eb, er]; rfl
            rw [e]; rfl
    · rintro s ⟨rfl, hg2⟩
      simp (disch := omega) only [b_X12_isAlike_3, f_X12_isAlike_11, nt_clamp, nt_le, nt_lt, nt_eq, lit_le, lit_lt, le_lit, lt_lit, eq_lit, lit_eq, nt_neg, nt_ge, nt_add, nt_mul, nt_addl, lit_add, nt_mull, lit_mul, nt_sub, nt_subl, lit_sub, nt_divl, nt_m1, nt_m2, nt_m1', nt_m2', if_true, if_false, if_pos, if_neg, e01, e10, em12, em21, e0m1, e0m2, e1m1, e1m2, em10, em20, Int32.reduceLT, Int32.reduceLE, eq_self, Option.bind_some, Option.map_some, false_or, or_false, or_self, true_or, or_true, not_true_eq_false, not_false_eq_true, false_and, and_false, true_and, and_true]
      refine ok_some ⟨⟨_, rfl⟩, ?_⟩
      rw [al, hg, hg2]; rfl
  · rintro s ⟨⟨z, rfl⟩, hg⟩
    simp (disch := omega) only [b_X12_isAlike_1, f_X12_isAlike_12, h0, nt_clamp, nt_le, nt_lt, nt_eq, lit_le, lit_lt, le_lit, lt_lit, eq_lit, lit_eq, nt_neg, nt_ge, nt_add, nt_mul, nt_addl, lit_add, nt_mull, lit_mul, nt_sub, nt_subl, lit_sub, nt_divl, nt_m1, nt_m2, nt_m1', nt_m2', if_true, if_false, if_pos, if_neg, e01, e10, em12, em21, e0m1, e0m2, e1m1, e1m2, em10, em20, Int32.reduceLT, Int32.reduceLE, eq_self, Option.bind_some, Option.map_some, false_or, or_false, or_self, true_or, or_true, not_true_eq_false, not_false_eq_true, false_and, and_false, true_and, and_true]
    refine ok_some ?_
    rw [show alk n (rd m w) x = true from hg]; rfl
/-- where a set is led -/
def lm (o : Option Nat) : Int32 := match o with
  | none => 0
  | some t => 1 <<< nt t
def ld (n : Nat) (w : aT) (x : Int32) (y : Nat) : Int32 := orf n (fun s => if bt x s = true then lm (w.1 s y) else 0)
theorem ledTo_ok {n m : Nat} {w : aT} {I : xI} {J : xJ} (hn : n ≤ 6) (hm : m ≤ 4) (V : Vd n m w) (h0 : I 61 17 = nt n) (h : rMa n m w (I 70) 0) (x : Int32) {y : Nat} (hy : y < m) : f_X12_ledTo x (nt y) I J = some (ld n w x y, I, J) := by
  apply Ok.eq
  unfold f_X12_ledTo f_X12_ledTo_0 f_X12_ledTo_1
  refine ok_loop (fun k s => s = (x, nt y, orf k (fun s => if bt x s = true then lm (w.1 s y) else 0), nt k, I, J)) n ?_ ?_ 5000 0 _ (by omega) (by omega) rfl
  · rintro k hk s rfl
    simp (disch := omega) only [b_X12_ledTo_1, f_X12_ledTo_2, f_X12_ledTo_3, f_X12_ledTo_4, f_X12_ledTo_5, f_X12_ledTo_6, f_X12_ledTo_7, f_X12_ledTo_8, h0, nt_clamp, nt_le, nt_lt, nt_eq, lit_le, lit_lt, le_lit, lt_lit, eq_lit, lit_eq, nt_neg, nt_ge, nt_add, nt_mul, nt_addl, lit_add, nt_mull, lit_mul, nt_sub, nt_subl, lit_sub, nt_divl, nt_m1, nt_m2, nt_m1', nt_m2', has_ok, Option.bind_some, bi_0, if_neg, if_pos, to_ok hn hm h hk hy]
    cases ea : bt x k with
    | false =>
      simp only [if_true]
      refine ok_some ?_
      show _ = _
      rw [orf, ea, if_neg (by decide), Int32.or_zero]
    | true =>
      simp only [Bool.true_eq_false, if_false]
      cases et : w.1 k y with
      | none =>
        simp only [ov_n, Int32.reduceLT, if_true]
        refine ok_some ?_
        show _ = _
        rw [orf, ea, if_pos rfl, et]
        show _ = (x, nt y, _ ||| 0, nt (k + 1), I, J)
        rw [Int32.or_zero]
      | some t =>
        have ht := (V.1 k y t et).2.2
        simp (disch := omega) only [ov_s, nt_clamp, nt_le, nt_lt, nt_eq, lit_le, lit_lt, le_lit, lt_lit, eq_lit, lit_eq, nt_neg, nt_ge, nt_add, nt_mul, nt_addl, lit_add, nt_mull, lit_mul, nt_sub, nt_subl, lit_sub, nt_divl, nt_m1, nt_m2, nt_m1', nt_m2', if_false, nt_31]
        refine ok_some ?_
        show _ = _
        rw [orf, ea, if_pos rfl, et]; rfl
  · rintro s rfl
    simp (disch := omega) only [b_X12_ledTo_1, f_X12_ledTo_9, h0, nt_clamp, nt_le, nt_lt, nt_eq, lit_le, lit_lt, le_lit, lt_lit, eq_lit, lit_eq, nt_neg, nt_ge, nt_add, nt_mul, nt_addl, lit_add, nt_mull, lit_mul, nt_sub, nt_subl, lit_sub, nt_divl, nt_m1, nt_m2, nt_m1', nt_m2', if_true, if_false, if_pos, if_neg, e01, e10, em12, em21, e0m1, e0m2, e1m1, e1m2, em10, em20, Int32.reduceLT, Int32.reduceLE, eq_self, Option.bind_some, Option.map_some, false_or, or_false, or_self, true_or, or_true, not_true_eq_false, not_false_eq_true, false_and, and_false, true_and, and_true]
    exact ok_some rfl
theorem leadOf_ok {n m : Nat} {w : aT} {I : xI} {J : xJ} (hn : n ≤ 6) (hm : m ≤ 4) (V : Vd n m w) (h : cMa n m w (I 1 0) (I 1 1) (I 2) (I 3) (I 4)) (x : Int32) {y : Nat} (hy : y < 2147483648) : f_X5_leadOf x (nt y) I J = some (ld n w x y, I, J) := by
  apply Ok.eq
  unfold f_X5_leadOf f_X5_leadOf_0 f_X5_leadOf_1
  have h0 := h.1
  refine ok_loop (fun k s => ∃ z, s = (x, nt y, orf k (fun s => if bt x s = true then lm (w.1 s y) else 0), nt k, z, I, J)) n ?_ ?_ 5000 0 _ (by omega) (by omega) ⟨none, rfl⟩
  · rintro k hk s ⟨z, rfl⟩
    simp (disch := omega) only [b_X5_leadOf_1, f_X5_leadOf_2, f_X5_leadOf_3, f_X5_leadOf_4, f_X5_leadOf_5, f_X5_leadOf_6, h0, nt_clamp, nt_le, nt_lt, nt_eq, lit_le, lit_lt, le_lit, lt_lit, eq_lit, lit_eq, nt_neg, nt_ge, nt_add, nt_mul, nt_addl, lit_add, nt_mull, lit_mul, nt_sub, nt_subl, lit_sub, nt_divl, nt_m1, nt_m2, nt_m1', nt_m2', targetOf_ok hn hm V h, Option.bind_some, if_neg, nt_31, has_bi, bi_1]
    cases ea : bt x k with
    | false =>
      simp only [Bool.false_eq_true, if_false]
      refine ok_some ⟨some (.int (ov (w.1 k y))), ?_⟩
      rw [orf, ea, if_neg (by decide), Int32.or_zero]
    | true =>
      simp only [if_true]
      cases et : w.1 k y with
      | none =>
        simp only [ov_n, Int32.reduceLT, if_true]
        refine ok_some ⟨some (.int (-2)), ?_⟩
        rw [orf, ea, if_pos rfl, et]
        show _ = (x, nt y, _ ||| 0, nt (k + 1), some (Value.int (-2)), I, J)
        rw [Int32.or_zero]
      | some t =>
        have ht := (V.1 k y t et).2.2
        simp (disch := omega) only [ov_s, nt_clamp, nt_le, nt_lt, nt_eq, lit_le, lit_lt, le_lit, lt_lit, eq_lit, lit_eq, nt_neg, nt_ge, nt_add, nt_mul, nt_addl, lit_add, nt_mull, lit_mul, nt_sub, nt_subl, lit_sub, nt_divl, nt_m1, nt_m2, nt_m1', nt_m2', if_false, nt_31]
        refine ok_some ⟨some (.int (nt t)), ?_⟩
        rw [orf, ea, if_pos rfl, et]; rfl
  · rintro s ⟨z, rfl⟩
    simp (disch := omega) only [b_X5_leadOf_1, f_X5_leadOf_7, h0, nt_clamp, nt_le, nt_lt, nt_eq, lit_le, lit_lt, le_lit, lt_lit, eq_lit, lit_eq, nt_neg, nt_ge, nt_add, nt_mul, nt_addl, lit_add, nt_mull, lit_mul, nt_sub, nt_subl, lit_sub, nt_divl, nt_m1, nt_m2, nt_m1', nt_m2', if_true, if_false, if_pos, if_neg, e01, e10, em12, em21, e0m1, e0m2, e1m1, e1m2, em10, em20, Int32.reduceLT, Int32.reduceLE, eq_self, Option.bind_some, Option.map_some, false_or, or_false, or_self, true_or, or_true, not_true_eq_false, not_false_eq_true, false_and, and_false, true_and, and_true]
    exact ok_some rfl
/-- a list in an array -/
def Ls (l : List Nat) (c : Nat → Int32) : Prop := ∀ i x, l[i]? = some x → c i = nt x
theorem Ls_add {l : List Nat} {c c' : Nat → Int32} {x : Nat} (h : Ls l c) (hc : ∀ j, c' j = if j = l.length then nt x else c j) : Ls (l ++ [x]) c' := by
  intro i y hy
  rw [hc]
  by_cases e : i = l.length
  · rw [if_pos e]
    rw [e, List.getElem?_append_right (by omega)] at hy
    simp at hy
    rw [hy]
  · rw [if_neg e]
    have hl : i < (l ++ [x]).length := by
      rw [List.getElem?_eq_some_iff] at hy
      exact hy.1
    rw [List.length_append] at hl
    simp at hl
    rw [List.getElem?_append_left (by omega)] at hy
    exact h i y hy
theorem Ls_congr {l : List Nat} {c c' : Nat → Int32} (h : Ls l c) (hc : ∀ j, j < l.length → c' j = c j) : Ls l c' := by
  intro i x hx
  have hl : i < l.length := by
    rw [List.getElem?_eq_some_iff] at hx
    exact hx.1
  rw [hc i hl]; exact h i x hx
def fl (p : Nat → Bool) (k : Nat) : List Nat := (List.range k).filter p
theorem fl_t {p : Nat → Bool} {k : Nat} (h : p k = true) : fl p (k + 1) = fl p k ++ [k] := by
  unfold fl; rw [List.range_succ, List.filter_append]; simp [h]
theorem fl_f {p : Nat → Bool} {k : Nat} (h : p k = false) : fl p (k + 1) = fl p k := by
  unfold fl; rw [List.range_succ, List.filter_append]; simp [h]
theorem fl_len {p : Nat → Bool} (h : p 0 = false) {k : Nat} : (fl p (k + 1)).length ≤ k := by
  induction k with
  | zero => rw [fl_f h]; exact Nat.le_refl 0
  | succ k ih =>
    cases e : p (k + 1) with
    | false => rw [fl_f e]; omega
    | true => rw [fl_t e, List.length_append]; simp; omega
theorem fl_mem {p : Nat → Bool} {k x : Nat} : x ∈ fl p k ↔ x < k ∧ p x = true := by
  unfold fl; rw [List.mem_filter, List.mem_range]
