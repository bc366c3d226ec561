/-! the tokens of the reference -/
theorem lgc (a b : Int64) : (lg_cmp a b = 0) = (a = b) := by
  unfold lg_cmp
  by_cases c : a > b
  · rw [if_pos c]
    refine propext ⟨fun h => absurd h (by decide), fun h => ?_⟩
    rw [h] at c
    exact absurd c (Int64.lt_irrefl)
  · rw [if_neg c]
    by_cases c2 : a = b
    · rw [if_pos c2]; exact propext ⟨fun _ => c2, fun _ => rfl⟩
    · rw [if_neg c2]; exact propext ⟨fun h => absurd h (by decide), fun h => absurd h c2⟩
def jl (v : Nat) : Int64 := Int64.ofNat v
theorem jl_eq {a b : Nat} (ha : a < 1000000000000000000) (hb : b < 1000000000000000000) : (jl a = jl b) = (a = b) := by
  refine propext ⟨fun h => ?_, fun h => by rw [h]⟩
  have e := congrArg Int64.toNatClampNeg h
  unfold jl at e
  rw [Int64.toNatClampNeg_ofNat_of_lt (by omega), Int64.toNatClampNeg_ofNat_of_lt (by omega)] at e
  exact e
def rk (k : Nat) : Nat := ([3, 1, 2, 4, 20, 21, 22, 24, 23] : List Nat).getD k 0
def dvl (f : Nat → Nat) : Nat → Nat
  | 0 => 0
  | k + 1 => 10 * dvl f k + (f k - 48)
theorem dvl_s (f : Nat → Nat) (k : Nat) : dvl f (k + 1) = 10 * dvl f k + (f k - 48) := rfl
def tvl (tb : Nat → Nat) (i : Nat) : Nat := dvl (fun k => tb (i + k)) (te tb i - i)
theorem nvf_lt {f : Nat → Nat} : ∀ a, (∀ k, k < a → 97 ≤ f k ∧ f k ≤ 122) → nvf f a < 27 ^ a := by
  intro a
  induction a with
  | zero => intro _; show 0 < 1; omega
  | succ a ih =>
    intro h
    have h1 := ih (fun k hk => h k (by omega))
    have h2 := h a (by omega)
    rw [nvf_s, Nat.pow_succ]; omega
theorem dvl_lt {f : Nat → Nat} : ∀ a, (∀ k, k < a → 48 ≤ f k ∧ f k ≤ 57) → dvl f a < 10 ^ a := by
  intro a
  induction a with
  | zero => intro _; show 0 < 1; omega
  | succ a ih =>
    intro h
    have h1 := ih (fun k hk => h k (by omega))
    have h2 := h a (by omega)
    rw [dvl_s, Nat.pow_succ]; omega
def Tr (l : Nat) (tb : Nat → Nat) (I : xI) : Prop := Tb l tb ∧ I 61 4 = nt l ∧ ∀ k, k < l → I 63 k = byt (nt (tb k))
theorem rbyte_ok {l : Nat} {tb : Nat → Nat} {I : xI} {J : xJ} (h : Tr l tb I) {k : Nat} (hk : k < 100000) : f_X12_byteAt (nt k) I J = some (nt (tb k), I, J) := by
  have hl := h.1.1
  by_cases c : k < l
  · simp (disch := omega) only [f_X12_byteAt, f_X12_byteAt_0, f_X12_byteAt_1, f_X12_byteAt_3, h.2.1, nt_clamp, nt_le, nt_lt, nt_eq, lit_le, lit_lt, le_lit, lt_lit, eq_lit, lit_eq, nt_neg, nt_ge, nt_add, nt_mul, nt_addl, lit_add, nt_mull, lit_mul, nt_sub, nt_subl, lit_sub, nt_divl, nt_m1, nt_m2, nt_m1', nt_m2', if_true, if_false, if_pos, if_neg, e01, e10, em12, em21, e0m1, e0m2, e1m1, e1m2, em10, em20, Int32.reduceLT, Int32.reduceLE, eq_self, Option.bind_some, Option.map_some, false_or, or_false, or_self, true_or, or_true, not_true_eq_false, not_false_eq_true, false_and, and_false, true_and, and_true, h.2.2 k c, by_and _ (h.1.2.1 k)]
  · rw [h.1.2.2 k (by omega)]
    simp (disch := omega) only [f_X12_byteAt, f_X12_byteAt_0, f_X12_byteAt_2, f_X12_byteAt_3, h.2.1, nt_clamp, nt_le, nt_lt, nt_eq, lit_le, lit_lt, le_lit, lt_lit, eq_lit, lit_eq, nt_neg, nt_ge, nt_add, nt_mul, nt_addl, lit_add, nt_mull, lit_mul, nt_sub, nt_subl, lit_sub, nt_divl, nt_m1, nt_m2, nt_m1', nt_m2', if_true, if_false, if_pos, if_neg, e01, e10, em12, em21, e0m1, e0m2, e1m1, e1m2, em10, em20, Int32.reduceLT, Int32.reduceLE, eq_self, Option.bind_some, Option.map_some, false_or, or_false, or_self, true_or, or_true, not_true_eq_false, not_false_eq_true, false_and, and_false, true_and, and_true]
    rfl
theorem risL_ok {c : Nat} {I : xI} {J : xJ} (hc : c < 256) : f_X12_isLetter (nt c) I J = some (bi (qL c), I, J) := by
  simp (disch := omega) only [f_X12_isLetter_4, f_X12_isLetter_3, f_X12_isLetter_2, f_X12_isLetter_1, f_X12_isLetter_0, f_X12_isLetter, nt_clamp, nt_le, nt_lt, nt_eq, lit_le, lit_lt, le_lit, lt_lit, eq_lit, lit_eq, nt_neg, nt_ge, nt_add, nt_mul, nt_addl, lit_add, nt_mull, lit_mul, nt_sub, nt_subl, lit_sub, nt_divl, nt_m1, nt_m2, nt_m1', nt_m2']
  unfold qL
  by_cases c1 : c < 97
  · rw [if_pos c1, decide_eq_false (by omega)]; rfl
  · rw [if_neg c1, decide_eq_true (by omega)]
    by_cases c2 : 122 < c
    · rw [if_pos c2, decide_eq_false (by omega)]; rfl
    · rw [if_neg c2, decide_eq_true (by omega)]; rfl
theorem risD_ok {c : Nat} {I : xI} {J : xJ} (hc : c < 256) : f_X12_isDigit (nt c) I J = some (bi (qD c), I, J) := by
  simp (disch := omega) only [f_X12_isDigit_4, f_X12_isDigit_3, f_X12_isDigit_2, f_X12_isDigit_1, f_X12_isDigit_0, f_X12_isDigit, nt_clamp, nt_le, nt_lt, nt_eq, lit_le, lit_lt, le_lit, lt_lit, eq_lit, lit_eq, nt_neg, nt_ge, nt_add, nt_mul, nt_addl, lit_add, nt_mull, lit_mul, nt_sub, nt_subl, lit_sub, nt_divl, nt_m1, nt_m2, nt_m1', nt_m2']
  unfold qD
  by_cases c1 : c < 48
  · rw [if_pos c1, decide_eq_false (by omega)]; rfl
  · rw [if_neg c1, decide_eq_true (by omega)]
    by_cases c2 : 57 < c
    · rw [if_pos c2, decide_eq_false (by omega)]; rfl
    · rw [if_neg c2, decide_eq_true (by omega)]; rfl
theorem let64 : ∀ c, c < 123 → 97 ≤ c → Int32.toInt64 ((nt c - 97) + 1) = jl (c - 96) := by decide +kernel
theorem appends_ok {c v : Nat} {I : xI} {J : xJ} (h1 : 97 ≤ c) (h2 : c ≤ 122) : f_X12_appends (jl v) (nt c) I J = some (jl (27 * v + (c - 96)), I, J) := by
  have e : 27 * jl v + jl (c - 96) = jl (27 * v + (c - 96)) := by
    unfold jl
    rw [Int64.ofNat_add, Int64.ofNat_mul]; rfl
  simp (disch := omega) only [f_X12_appends, f_X12_appends_0, f_X12_appends_2, f_X12_appends_3, eq_lit, if_neg, let64 c (by omega) h1, e]
theorem token_ok {I : xI} {J : xJ} {k : Nat} (h : I 61 10 = nt k) (hk : k < 403) (a b c : Int32) (d : Int64) : f_X12_token a b c d I J = some ((), xup (xup (xup (xup I 64 k a) 65 k b) 66 k c) 61 10 (nt (k + 1)), xup J 67 k d) := by
  simp (disch := omega) only [f_X12_token, f_X12_token_0, h, nt_clamp, nt_le, nt_lt, nt_eq, lit_le, lit_lt, le_lit, lt_lit, eq_lit, lit_eq, nt_neg, nt_ge, nt_add, nt_mul, nt_addl, lit_add, nt_mull, lit_mul, nt_sub, nt_subl, lit_sub, nt_divl, nt_m1, nt_m2, nt_m1', nt_m2', if_neg, false_or, xup_bj]
def TR (tb : Nat → Nat) (k : Nat) (I : xI) (J : xJ) : Prop := I 61 10 = nt k ∧ ∀ j, j < k → I 64 j = nt (rk (kd tb (st tb j))) ∧ I 65 j = nt (st tb j) ∧ (kd tb (st tb j) = 2 → I 66 j = nt (tvl tb (st tb j))) ∧ (kd tb (st tb j) = 1 → J 67 j = jl (nm tb (st tb j)))
def tkReg (c j : Nat) : Prop := (64 ≤ c ∧ c ≤ 66) ∨ (c = 61 ∧ j = 10)
theorem Tr_fr {l : Nat} {tb : Nat → Nat} {I I' : xI} (h : Tr l tb I) (hf : ∀ c j, (c = 63 ∨ (c = 61 ∧ j = 4)) → I' c j = I c j) : Tr l tb I' := by
  refine ⟨h.1, (hf 61 4 (by omega)).trans h.2.1, ?_⟩
  intro k hk
  rw [hf 63 k (by omega)]; exact h.2.2 k hk
theorem tk_fr {I : xI} {k : Nat} (a b c : Int32) {a' j : Nat} (h : ¬ tkReg a' j) : xup (xup (xup (xup I 64 k a) 65 k b) 66 k c) 61 10 (nt (k + 1)) a' j = I a' j := by
  unfold tkReg at h
  by_cases c61 : a' = 61
  · rw [c61]; simp (disch := omega) only [xup_bj, xup_j]
  · simp (disch := omega) only [xup_bj]
theorem TR_add {tb : Nat → Nat} {k : Nat} {I : xI} {J : xJ} (h : TR tb k I J) {c : Nat} {d : Int64} (h2 : kd tb (st tb k) = 2 → c = tvl tb (st tb k)) (h1 : kd tb (st tb k) = 1 → d = jl (nm tb (st tb k))) : TR tb (k + 1) (xup (xup (xup (xup I 64 k (nt (rk (kd tb (st tb k))))) 65 k (nt (st tb k))) 66 k (nt c)) 61 10 (nt (k + 1))) (xup J 67 k d) := by
  refine ⟨xup_at _ _ _ _, ?_⟩
  intro j hj
  by_cases cj : j = k
  · rw [cj]
    simp (disch := omega) only [xup_bj, xup_at]
    exact ⟨trivial, trivial, fun h => by rw [h2 h], h1⟩
  · simp (disch := omega) only [xup_bj, xup_j]
    exact h.2 j (by omega)
def keyv (q : Nat) : Nat := ([10492313, 136911133, 267413, 307058, 70097] : List Nat).getD q 0
def hKy (J : xJ) : Prop := ∀ q, q < 5 → J 68 q = jl (keyv q)
def kx (v : Nat) : Nat → Nat
  | 0 => 1
  | q + 1 => if keyv q = v then 20 + q else kx v q
theorem key_n : key kwS = 10492313 ∧ key kwI = 136911133 ∧ key kwM = 267413 ∧ key kwO = 307058 ∧ key kwC = 70097 := by decide
theorem kx_rk (v N : Nat) (hN : N ≤ 8) : kx v 5 = rk (if v = key kwS then 4 else if v = key kwI then 5 else if v = key kwM then 6 else if v = key kwC then 7 else if v = key kwO then 8 else if N ≤ 8 then 1 else 0) := by
  obtain ⟨e1, e2, e3, e4, e5⟩ := key_n
  rw [e1, e2, e3, e4, e5]
  show (if 70097 = v then 20 + 4 else if 307058 = v then 20 + 3 else if 267413 = v then 20 + 2 else if 136911133 = v then 20 + 1 else if 10492313 = v then 20 + 0 else 1) = _
  by_cases c1 : v = 10492313
  · subst c1; rfl
  by_cases c2 : v = 136911133
  · subst c2; rfl
  by_cases c3 : v = 267413
  · subst c3; rfl
  by_cases c4 : v = 70097
  · subst c4; rfl
  by_cases c5 : v = 307058
  · subst c5; rfl
  rw [if_neg (by omega), if_neg (by omega), if_neg (by omega), if_neg (by omega), if_neg (by omega), if_neg c1, if_neg c2, if_neg c3, if_neg c4, if_neg c5, if_pos hN]; rfl
theorem keyv_lt : ∀ q, q < 5 → keyv q < 1000000000000000000 := by decide
/-- what adding the token at i = st k leaves -/
def Tdone (l : Nat) (tb : Nat → Nat) (I0 : xI) (J0 : xJ) (k : Nat) (o : (Int32 × Option Value × Option Value × Option Value × Option Value × Option Value × xI × xJ) ⊕ (Unit × xI × xJ)) : Prop := ∃ z2 z3 z4 z6 z7 I J, o = .inl (nt (te tb (st tb k)), z2, z3, z4, z6, z7, I, J) ∧ TR tb (k + 1) I J ∧ (∀ c j, ¬ tkReg c j → I c j = I0 c j) ∧ ∀ c j, ¬ c = 67 → J c j = J0 c j
theorem Tdone_of {l : Nat} {tb : Nat → Nat} {I I0 : xI} {J J0 : xJ} {k : Nat} (hT : TR tb k I J) {c : Nat} {d : Int64} (h2 : kd tb (st tb k) = 2 → c = tvl tb (st tb k)) (h1 : kd tb (st tb k) = 1 → d = jl (nm tb (st tb k))) (hf : ∀ c j, ¬ tkReg c j → I c j = I0 c j) (hj : ∀ c j, ¬ c = 67 → J c j = J0 c j) (z2 z3 z4 z6 z7 : Option Value) {x : Int32} (hx : x = nt (te tb (st tb k))) : Tdone l tb I0 J0 k (.inl (x, z2, z3, z4, z6, z7, xup (xup (xup (xup I 64 k (nt (rk (kd tb (st tb k))))) 65 k (nt (st tb k))) 66 k (nt c)) 61 10 (nt (k + 1)), xup J 67 k d)) := by
  refine ⟨z2, z3, z4, z6, z7, _, _, by rw [hx], TR_add hT h2 h1, ?_, ?_⟩
  · intro c' j hc
    rw [tk_fr _ _ _ hc]; exact hf c' j hc
  · intro c' j hc
    rw [xup_bj _ _ _ _ _ hc]; exact hj c' j hc
theorem pletters_ok {l : Nat} {tb : Nat → Nat} {I I0 : xI} {J J0 : xJ} (h : Tr l tb I) (hK : hKy J) {k : Nat} (hk : k ≤ 400) (hs : st tb k < l) (hT : TR tb k I J) (hL : qL (tb (st tb k)) = true) (hf : ∀ c j, ¬ tkReg c j → I c j = I0 c j) (hj : ∀ c j, ¬ c = 67 → J c j = J0 c j) (z3 z4 z6 z7 : Option Value) : Ok (f_X12_parts_13 (nt (st tb k)) (nt (tb (st tb k))) z3 z4 z6 z7 I J) (Tdone l tb I0 J0 k) := by
  have hl := h.1.1
  have t1 := te_gt tb (st tb k)
  have t2 := te_le h.1 hs
  have ee : te tb (st tb k) = en tb qL (st tb k + 1) := if_pos hL
  have hs2 : qL (tb (te tb (st tb k))) = false := by rw [ee]; exact en_stop h.1 rfl _
  have hD : qD (tb (st tb k)) = false := by
    have := qL_le hL
    unfold qD; rw [decide_eq_false (show ¬ tb (st tb k) ≤ 57 from by omega), Bool.and_false]
  have hDn : ¬ qD (tb (st tb k)) = true := by rw [hD]; decide
  generalize eN : te tb (st tb k) - st tb k = N
  have eNe : st tb k + N = te tb (st tb k) := by omega
  unfold f_X12_parts_13 f_X12_parts_14
  refine ok_loop (fun n s => s = (nt (st tb k), nt (tb (st tb k)), nt n, jl (nvf (fun j => tb (st tb k + j)) (min n 8)), z6, z7, I, J)) N ?_ ?_ 5000 0 _ (by omega) (by omega) rfl
  · rintro n hn s rfl
    have hq := te_L h.1 hL (k := n) (by omega)
    have hr := qL_le hq
    simp (disch := omega) only [b_X12_parts_14, nt_add, rbyte_ok h (show st tb k + n < 100000 from by omega), Option.bind_some, f_X12_parts_15, risL_ok (h.1.2.1 _), hq, f_X12_parts_16, bi_0, Bool.true_eq_false, if_false, f_X12_parts_17, nt_clamp, nt_le, nt_lt, nt_eq, lit_le, lit_lt, le_lit, lt_lit, eq_lit, lit_eq, nt_neg, nt_ge, nt_add, nt_mul, nt_addl, lit_add, nt_mull, lit_mul, nt_sub, nt_subl, lit_sub, nt_divl, nt_m1, nt_m2, nt_m1', nt_m2']
    by_cases c : 8 ≤ n
    · rw [if_pos c]
      simp only [f_X12_parts_21, nt_addl]
      refine ok_some ?_
      show (_, _, _) = (_, _, _)
      rw [show min n 8 = 8 from by omega, show min (n + 1) 8 = 8 from by omega]
    · rw [if_neg c]
      simp (disch := omega) only [f_X12_parts_18, nt_add, rbyte_ok h (show st tb k + n < 100000 from by omega), Option.bind_some, f_X12_parts_19, appends_ok hr.1 hr.2, f_X12_parts_20, f_X12_parts_21, nt_addl]
      refine ok_some ?_
      show (_, _, _) = (_, _, _)
      rw [show min n 8 = n from by omega, show min (n + 1) 8 = n + 1 from by omega, nvf_s]
  · rintro s rfl
    simp (disch := omega) only [b_X12_parts_14, nt_add, eNe, rbyte_ok h (show te tb (st tb k) < 100000 from by omega), Option.bind_some, f_X12_parts_15, risL_ok (h.1.2.1 _), hs2, f_X12_parts_16, bi_0, if_true, f_X12_parts_22, nt_clamp, nt_le, nt_lt, nt_eq, lit_le, lit_lt, le_lit, lt_lit, eq_lit, lit_eq, nt_neg, nt_ge, nt_add, nt_mul, nt_addl, lit_add, nt_mull, lit_mul, nt_sub, nt_subl, lit_sub, nt_divl, nt_m1, nt_m2, nt_m1', nt_m2']
    have hn0 : (0 : Int32) = nt 0 := rfl
    by_cases c : N ≤ 8
    · rw [if_pos c]
      simp (disch := omega) only [f_X12_parts_24, f_X12_parts_25, f_X12_parts_26, nt_clamp, nt_le, nt_lt, nt_eq, lit_le, lit_lt, le_lit, lt_lit, eq_lit, lit_eq, nt_neg, nt_ge, nt_add, nt_mul, nt_addl, lit_add, nt_mull, lit_mul, nt_sub, nt_subl, lit_sub, nt_divl, nt_m1, nt_m2, nt_m1', nt_m2', if_neg]
      have em : min N 8 = N := by omega
      rw [em]
      have enm : nvf (fun j => tb (st tb k + j)) N = nm tb (st tb k) := by rw [← eN]; rfl
      rw [enm]
      have hnm : nm tb (st tb k) < 1000000000000000000 := by
        have h1 := nvf_lt (f := fun j => tb (st tb k + j)) N (fun j hj => qL_le (te_L h.1 hL (by omega)))
        rw [enm] at h1
        have h2 : 27 ^ N ≤ 27 ^ 8 := Nat.pow_le_pow_right (by omega) c
        have h3 : 27 ^ 8 = 282429536481 := by decide
        omega
      have ekd : kx (nm tb (st tb k)) 5 = rk (kd tb (st tb k)) := by
        rw [kx_rk _ N c]
        unfold kd
        rw [if_neg hDn, if_pos hL, eN]
      apply ok_map
      unfold f_X12_parts_27
      refine ok_loop (fun q s => s = (nt (st tb k), nt (tb (st tb k)), nt N, jl (nm tb (st tb k)), nt (kx (nm tb (st tb k)) q), nt q, I, J)) 5 ?_ ?_ 5000 0 _ (by omega) (by omega) rfl
      · rintro q hq s rfl
        have hkq := keyv_lt q hq
        simp (disch := omega) only [b_X12_parts_27, f_X12_parts_28, nt_clamp, nt_le, nt_lt, nt_eq, lit_le, lit_lt, le_lit, lt_lit, eq_lit, lit_eq, nt_neg, nt_ge, nt_add, nt_mul, nt_addl, lit_add, nt_mull, lit_mul, nt_sub, nt_subl, lit_sub, nt_divl, nt_m1, nt_m2, nt_m1', nt_m2', false_or, if_neg, lgc, hK q hq, jl_eq]
        by_cases ck : keyv q = nm tb (st tb k)
        · rw [if_pos ck]
          simp only [f_X12_parts_29, f_X12_parts_30, nt_addl, lit_add]
          refine ok_some ?_
          show (_, _, _) = (_, _, _)
          rw [show kx (nm tb (st tb k)) (q + 1) = 20 + q from if_pos ck]
        · rw [if_neg ck]
          simp only [f_X12_parts_30, nt_addl]
          refine ok_some ?_
          show (_, _, _) = (_, _, _)
          rw [show kx (nm tb (st tb k)) (q + 1) = kx (nm tb (st tb k)) q from if_neg ck]
      · rintro s rfl
        simp (disch := omega) only [b_X12_parts_27, nt_clamp, nt_le, nt_lt, nt_eq, lit_le, lit_lt, le_lit, lt_lit, eq_lit, lit_eq, nt_neg, nt_ge, nt_add, nt_mul, nt_addl, lit_add, nt_mull, lit_mul, nt_sub, nt_subl, lit_sub, nt_divl, nt_m1, nt_m2, nt_m1', nt_m2', if_pos, f_X12_parts_31, hn0, ekd, token_ok hT.1 (show k < 403 from by omega), Option.bind_some, f_X12_parts_32, f_X12_parts_51, Option.map_some]
        refine ok_some (Tdone_of (l := l) hT (fun h2 => ?_) (fun _ => rfl) hf hj _ _ _ _ _ (by rw [eNe]))
        exfalso
        unfold kd at h2
        rw [if_neg hDn, if_pos hL] at h2
        repeat' split at h2
        all_goals omega
    · rw [if_neg c]
      simp (disch := omega) only [f_X12_parts_23, f_X12_parts_25, nt_clamp, nt_le, nt_lt, nt_eq, lit_le, lit_lt, le_lit, lt_lit, eq_lit, lit_eq, nt_neg, nt_ge, nt_add, nt_mul, nt_addl, lit_add, nt_mull, lit_mul, nt_sub, nt_subl, lit_sub, nt_divl, nt_m1, nt_m2, nt_m1', nt_m2', if_pos, f_X12_parts_31, Option.map_some]
      have ekd : kd tb (st tb k) = 0 := by
        have hbig : ∀ w : List Nat, w.length ≤ 8 → (∀ j, j < w.length → 97 ≤ w.getD j 0 ∧ w.getD j 0 ≤ 122) → ¬ nm tb (st tb k) = key w := by
          intro w hw hwl he
          have := (nvf_inj (f := fun j => tb (st tb k + j)) (g := fun j => w.getD j 0) (te tb (st tb k) - st tb k) w.length (fun j hj => qL_le (te_L h.1 hL hj)) hwl he).1
          omega
        unfold kd
        rw [if_neg hDn, if_pos hL, if_neg (hbig kwS (by decide) (by decide)), if_neg (hbig kwI (by decide) (by decide)), if_neg (hbig kwM (by decide) (by decide)), if_neg (hbig kwC (by decide) (by decide)), if_neg (hbig kwO (by decide) (by decide)), if_neg (by omega)]
      have e3 : (3 : Int32) = nt (rk (kd tb (st tb k))) := by rw [ekd]; rfl
      simp (disch := omega) only [e3, hn0, token_ok hT.1 (show k < 403 from by omega), Option.bind_some, f_X12_parts_32, f_X12_parts_51, Option.map_some, nt_add]
      refine ok_some (Tdone_of (l := l) hT (fun h2 => by rw [ekd] at h2; omega) (fun h2 => by rw [ekd] at h2; omega) hf hj _ _ _ _ _ (by rw [eNe]))
