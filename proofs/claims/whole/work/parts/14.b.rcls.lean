/-! classes of the reference -/
def pc (n : Nat) (R : Nat → Nat → Option Nat) (S : Nat) : Bool := decide (0 < S) && alk n R (nt S)
def pgm (n : Nat) (R : Nat → Nat → Option Nat) (S s : Nat) : Bool := !bt (nt S) s && alk n R (nt S ||| 1 <<< nt s)
def pg (n : Nat) (R : Nat → Nat → Option Nat) (S : Nat) : Bool := pc n R S && !ex n (pgm n R S)
theorem pc_0 (n : Nat) (R : Nat → Nat → Option Nat) : pc n R 0 = false := rfl
theorem pg_0 (n : Nat) (R : Nat → Nat → Option Nat) : pg n R 0 = false := rfl
/-- all sets that may be one, by their numbers -/
def cls (n m : Nat) (w : aT) : List Nat := fl (pc n (rd m w)) (2 ^ n)
def grs (n m : Nat) (w : aT) : List Nat := fl (pg n (rd m w)) (2 ^ n)
theorem lc6_ok {n m : Nat} {w : aT} {I : xI} {J : xJ} (hn : n ≤ 6) (V : Vd n m w) (h0 : I 61 17 = nt n) (hR : cR (rd m w) (I 76)) (S : Nat) {Q : ((Int32 × (Option Value) × (Option Value) × xI × xJ) ⊕ (Unit × xI × xJ)) → Prop} (hQ : Ok (f_X12_listsClasses_13 (nt S) (bi (ex n (pgm n (rd m w) S))) (nt n) I J) Q) : Ok (f_X12_listsClasses_6 (nt S) 0 0 I J) Q := by
  unfold f_X12_listsClasses_6
  refine ok_loop (fun s t => t = (nt S, bi (ex s (pgm n (rd m w) S)), nt s, I, J)) n ?_ ?_ 5000 0 _ (by omega) (by omega) rfl
  · rintro s hs t rfl
    simp (disch := omega) only [b_X12_listsClasses_6, f_X12_listsClasses_7, f_X12_listsClasses_8, f_X12_listsClasses_9, f_X12_listsClasses_10, f_X12_listsClasses_11, f_X12_listsClasses_12, h0, nt_clamp, nt_le, nt_lt, nt_eq, lit_le, lit_lt, le_lit, lt_lit, eq_lit, lit_eq, nt_neg, nt_ge, nt_add, nt_mul, nt_addl, lit_add, nt_mull, lit_mul, nt_sub, nt_subl, lit_sub, nt_divl, nt_m1, nt_m2, nt_m1', nt_m2', has_ok, Option.bind_some, bi_0, if_neg, nt_31, isAlike_ok hn V h0 hR]
    cases ea : bt (nt S) s with
    | true =>
      simp only [Bool.true_eq_false, if_false]
      refine ok_some ?_
      show _ = _
      rw [ex, pgm, ea, Bool.not_true, Bool.false_and, Bool.or_false]
    | false =>
      simp only [if_true]
      cases eb : alk n (rd m w) (nt S ||| 1 <<< nt s) with
      | false =>
        simp only [if_true]
        refine ok_some ?_
        show _ = _
        rw [ex, pgm, eb, Bool.and_false, Bool.or_false]
      | true =>
        simp only [Bool.true_eq_false, if_false]
        refine ok_some ?_
        show _ = _
        rw [ex, pgm, ea, eb, Bool.not_false, Bool.true_and, Bool.or_true]; rfl
  · rintro t rfl
    simp (disch := omega) only [b_X12_listsClasses_6, h0, nt_clamp, nt_le, nt_lt, nt_eq, lit_le, lit_lt, le_lit, lt_lit, eq_lit, lit_eq, nt_neg, nt_ge, nt_add, nt_mul, nt_addl, lit_add, nt_mull, lit_mul, nt_sub, nt_subl, lit_sub, nt_divl, nt_m1, nt_m2, nt_m1', nt_m2', if_pos]
    apply ok_map
    exact hQ
theorem lists_ok {n m : Nat} {w : aT} {I : xI} {J : xJ} (hn : n ≤ 6) (V : Vd n m w) (h0 : I 61 17 = nt n) (hR : cR (rd m w) (I 76)) : Ok (f_X12_listsClasses I J) (fun o => o.2.2 = J ∧ o.2.1 61 33 = nt (cls n m w).length ∧ Ls (cls n m w) (o.2.1 77) ∧ o.2.1 61 35 = nt (grs n m w).length ∧ Ls (grs n m w) (o.2.1 78) ∧ ∀ c j, ¬ c = 77 → ¬ c = 78 → ¬ (c = 61 ∧ (j = 33 ∨ j = 35)) → o.2.1 c j = I c j) := by
  unfold f_X12_listsClasses f_X12_listsClasses_0 f_X12_listsClasses_1
  have h64 := pow_le hn
  have hp := pow_pos2 n
  refine ok_loop (fun S s => 1 ≤ S ∧ ∃ z2 z3 I', s = (nt S, z2, z3, I', J) ∧ I' 61 33 = nt (fl (pc n (rd m w)) S).length ∧ Ls (fl (pc n (rd m w)) S) (I' 77) ∧ I' 61 35 = nt (fl (pg n (rd m w)) S).length ∧ Ls (fl (pg n (rd m w)) S) (I' 78) ∧ ∀ c j, ¬ c = 77 → ¬ c = 78 → ¬ (c = 61 ∧ (j = 33 ∨ j = 35)) → I' c j = I c j) (2 ^ n) ?_ ?_ 5000 1 _ (by omega) (by omega) ⟨by omega, none, none, _, rfl, ?_, ?_, ?_, ?_, ?_⟩
  · rintro S hS s ⟨hS1, z2, z3, I', rfl, g1, g2, g3, g4, g5⟩
    have h0' : I' 61 17 = nt n := (g5 61 17 (by omega) (by omega) (by omega)).trans h0
    have e76 : I' 76 = I 76 := funext fun j => g5 76 j (by omega) (by omega) (by omega)
    have hR' : cR (rd m w) (I' 76) := by rw [e76]; exact hR
    have l1 : (fl (pc n (rd m w)) S).length ≤ S - 1 := by
      have := fl_len (pc_0 n (rd m w)) (k := S - 1)
      rwa [show S - 1 + 1 = S from by omega] at this
    have l2 : (fl (pg n (rd m w)) S).length ≤ S - 1 := by
      have := fl_len (pg_0 n (rd m w)) (k := S - 1)
      rwa [show S - 1 + 1 = S from by omega] at this
    simp (disch := omega) only [b_X12_listsClasses_1, f_X12_listsClasses_2, f_X12_listsClasses_3, h0', nt_31, shl_nt, nt_clamp, nt_le, nt_lt, nt_eq, lit_le, lit_lt, le_lit, lt_lit, eq_lit, lit_eq, nt_neg, nt_ge, nt_add, nt_mul, nt_addl, lit_add, nt_mull, lit_mul, nt_sub, nt_subl, lit_sub, nt_divl, nt_m1, nt_m2, nt_m1', nt_m2', if_neg, isAlike_ok hn V h0' hR', Option.bind_some, bi_0]
    have epc : pc n (rd m w) S = alk n (rd m w) (nt S) := by unfold pc; rw [decide_eq_true (by omega)]; rfl
    cases ea : alk n (rd m w) (nt S) with
    | false =>
      simp only [if_true, f_X12_listsClasses_4, f_X12_listsClasses_15, nt_addl]
      have e1 : pc n (rd m w) S = false := epc.trans ea
      have e2 : pg n (rd m w) S = false := by unfold pg; rw [e1]; rfl
      refine ok_some ⟨by omega, z2, z3, I', rfl, ?_, ?_, ?_, ?_, g5⟩
      · rw [fl_f e1]; exact g1
      · rw [fl_f e1]; exact g2
      · rw [fl_f e2]; exact g3
      · rw [fl_f e2]; exact g4
    | true =>
      have e1 : pc n (rd m w) S = true := epc.trans ea
      simp (disch := omega) only [Bool.true_eq_false, if_false, f_X12_listsClasses_5, g1, nt_clamp, nt_le, nt_lt, nt_eq, lit_le, lit_lt, le_lit, lt_lit, eq_lit, lit_eq, nt_neg, nt_ge, nt_add, nt_mul, nt_addl, lit_add, nt_mull, lit_mul, nt_sub, nt_subl, lit_sub, nt_divl, nt_m1, nt_m2, nt_m1', nt_m2', false_or, if_neg, xup_bj]
      have k0 : (xup (xup I' 77 (fl (pc n (rd m w)) S).length (nt S)) 61 33 (nt ((fl (pc n (rd m w)) S).length + 1))) 61 17 = nt n := by
        simp (disch := omega) only [xup_j, xup_bj]; exact h0'
      have kR : cR (rd m w) ((xup (xup I' 77 (fl (pc n (rd m w)) S).length (nt S)) 61 33 (nt ((fl (pc n (rd m w)) S).length + 1))) 76) := by
        simp (disch := omega) only [xup_b]; exact hR'
      refine lc6_ok hn V k0 kR S ?_
      unfold f_X12_listsClasses_13
      simp only [bi_0]
      cases ee : ex n (pgm n (rd m w) S) with
      | true =>
        have e2 : pg n (rd m w) S = false := by unfold pg; rw [ee, Bool.not_true, Bool.and_false]
        simp only [Bool.true_eq_false, if_false, f_X12_listsClasses_15, nt_addl]
        refine ok_some ⟨by omega, _, _, _, rfl, ?_, ?_, ?_, ?_, ?_⟩
        · rw [fl_t e1, xup_at, List.length_append]; rfl
        · rw [fl_t e1, xup_b _ _ _ _ (by omega)]
          exact Ls_add g2 (fun j => xup_if _ _ _ _ _)
        · rw [fl_f e2, xup_j _ _ _ _ (by omega), xup_bj _ _ _ _ _ (by omega)]; exact g3
        · rw [fl_f e2]; simp (disch := omega) only [xup_b]; exact g4
        · intro c j c1 c2 c3
          rw [xup_no _ _ _ _ (by omega), xup_bj _ _ _ _ _ c1, g5 c j c1 c2 c3]
      | false =>
        have e2 : pg n (rd m w) S = true := by unfold pg; rw [ee, e1]; rfl
        have k35 : (xup (xup I' 77 (fl (pc n (rd m w)) S).length (nt S)) 61 33 (nt ((fl (pc n (rd m w)) S).length + 1))) 61 35 = nt (fl (pg n (rd m w)) S).length := by
          rw [xup_j _ _ _ _ (by omega), xup_bj _ _ _ _ _ (by omega)]; exact g3
        simp (disch := omega) only [if_true, f_X12_listsClasses_14, f_X12_listsClasses_15, k35, nt_clamp, nt_le, nt_lt, nt_eq, lit_le, lit_lt, le_lit, lt_lit, eq_lit, lit_eq, nt_neg, nt_ge, nt_add, nt_mul, nt_addl, lit_add, nt_mull, lit_mul, nt_sub, nt_subl, lit_sub, nt_divl, nt_m1, nt_m2, nt_m1', nt_m2', false_or, if_neg, xup_bj]
        refine ok_some ⟨by omega, _, _, _, rfl, ?_, ?_, ?_, ?_, ?_⟩
        · rw [fl_t e1, xup_j _ _ _ _ (by omega), xup_bj _ _ _ _ _ (by omega), xup_at, List.length_append]; rfl
        · rw [fl_t e1]
          simp (disch := omega) only [xup_b]
          exact Ls_add g2 (fun j => xup_if _ _ _ _ _)
        · rw [fl_t e2, xup_at, List.length_append]; rfl
        · rw [fl_t e2, xup_b _ _ _ _ (by omega)]
          refine Ls_add (c := I' 78) g4 (fun j => ?_)
          rw [xup_if]
          simp (disch := omega) only [xup_bj]
        · intro c j c1 c2 c3
          rw [xup_no _ _ _ _ (by omega), xup_bj _ _ _ _ _ c2, xup_no _ _ _ _ (by omega), xup_bj _ _ _ _ _ c1, g5 c j c1 c2 c3]
  · rintro s ⟨hS1, z2, z3, I', rfl, g1, g2, g3, g4, g5⟩
    have h0' : I' 61 17 = nt n := (g5 61 17 (by omega) (by omega) (by omega)).trans h0
    simp (disch := omega) only [b_X12_listsClasses_1, f_X12_listsClasses_16, h0', nt_31, shl_nt, nt_clamp, nt_le, nt_lt, nt_eq, lit_le, lit_lt, le_lit, lt_lit, eq_lit, lit_eq, nt_neg, nt_ge, nt_add, nt_mul, nt_addl, lit_add, nt_mull, lit_mul, nt_sub, nt_subl, lit_sub, nt_divl, nt_m1, nt_m2, nt_m1', nt_m2', if_true, if_false, if_pos, if_neg, e01, e10, em12, em21, e0m1, e0m2, e1m1, e1m2, em10, em20, Int32.reduceLT, Int32.reduceLE, eq_self, Option.bind_some, Option.map_some, false_or, or_false, or_self, true_or, or_true, not_true_eq_false, not_false_eq_true, false_and, and_false, true_and, and_true]
    exact ok_some ⟨rfl, g1, g2, g3, g4, g5⟩
  · rw [fl_f (pc_0 n _), xup_j _ _ _ _ (by omega), xup_at]; rfl
  · rw [fl_f (pc_0 n _)]; intro i x hx; cases hx
  · rw [fl_f (pg_0 n _), xup_at]; rfl
  · rw [fl_f (pg_0 n _)]; intro i x hx; cases hx
  · intro c j c1 c2 c3
    rw [xup_no _ _ _ _ (by omega), xup_no _ _ _ _ (by omega)]
