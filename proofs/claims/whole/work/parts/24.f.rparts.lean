/-! all tokens of the reference -/
theorem pdigits_ok {l : Nat} {tb : Nat → Nat} {I I0 : xI} {J J0 : xJ} (h : Tr l tb I) {k : Nat} (hk : k ≤ 400) (hs : st tb k < l) (hT : TR tb k I J) (hD : qD (tb (st tb k)) = true) (hf : ∀ c j, ¬ tkReg c j → I c j = I0 c j) (hj : ∀ c j, ¬ c = 67 → J c j = J0 c j) (z3 z4 z6 z7 : Option Value) : Ok (f_X12_parts_35 (nt (st tb k)) (nt (tb (st tb k))) z3 z4 z6 z7 I J) (Tdone l tb I0 J0 k) := by
  have hl := h.1.1
  have t1 := te_gt tb (st tb k)
  have t2 := te_le h.1 hs
  have hL : qL (tb (st tb k)) = false := by
    have := qD_le hD
    unfold qL; rw [decide_eq_false (show ¬ 97 ≤ tb (st tb k) from by omega), Bool.false_and]
  have ee : te tb (st tb k) = en tb qD (st tb k + 1) := by unfold te; rw [hL, hD]; rfl
  have hs2 : qD (tb (te tb (st tb k))) = false := by rw [ee]; exact en_stop h.1 rfl _
  generalize eN : te tb (st tb k) - st tb k = N
  have eNe : st tb k + N = te tb (st tb k) := by omega
  have ekd : kd tb (st tb k) = if N ≤ 4 then 2 else 0 := by
    unfold kd; rw [if_pos hD, eN]
  unfold f_X12_parts_35 f_X12_parts_36
  refine ok_loop (fun n s => s = (nt (st tb k), nt (tb (st tb k)), nt n, nt (dvl (fun j => tb (st tb k + j)) (min n 4)), z6, z7, I, J)) N ?_ ?_ 5000 0 _ (by omega) (by omega) rfl
  · rintro n hn s rfl
    have hq := te_D h.1 hD (k := n) (by omega)
    have hr := qD_le hq
    simp (disch := omega) only [b_X12_parts_36, nt_add, rbyte_ok h (show st tb k + n < 100000 from by omega), Option.bind_some, f_X12_parts_37, risD_ok (h.1.2.1 _), hq, f_X12_parts_38, bi_0, Bool.true_eq_false, if_false, f_X12_parts_39, nt_clamp, nt_le, nt_lt, nt_eq, lit_le, lit_lt, le_lit, lt_lit, eq_lit, lit_eq, nt_neg, nt_ge, nt_add, nt_mul, nt_addl, lit_add, nt_mull, lit_mul, nt_sub, nt_subl, lit_sub, nt_divl, nt_m1, nt_m2, nt_m1', nt_m2']
    by_cases c : 4 ≤ n
    · rw [if_pos c]
      simp only [f_X12_parts_42, nt_addl]
      refine ok_some ?_
      show (_, _, _) = (_, _, _)
      rw [show min n 4 = 4 from by omega, show min (n + 1) 4 = 4 from by omega]
    · rw [if_neg c]
      simp (disch := omega) only [f_X12_parts_40, rbyte_ok h (show st tb k + n < 100000 from by omega), Option.bind_some, f_X12_parts_41, f_X12_parts_42, nt_clamp, nt_le, nt_lt, nt_eq, lit_le, lit_lt, le_lit, lt_lit, eq_lit, lit_eq, nt_neg, nt_ge, nt_add, nt_mul, nt_addl, lit_add, nt_mull, lit_mul, nt_sub, nt_subl, lit_sub, nt_divl, nt_m1, nt_m2, nt_m1', nt_m2']
      refine ok_some ?_
      show (_, _, _) = (_, _, _)
      rw [show min n 4 = n from by omega, show min (n + 1) 4 = n + 1 from by omega, dvl_s]
      rw [show 10 * dvl (fun j => tb (st tb k + j)) n + tb (st tb k + n) - 48 = 10 * dvl (fun j => tb (st tb k + j)) n + (tb (st tb k + n) - 48) from by omega]
  · rintro s rfl
    have hn0 : (0 : Int64) = jl 0 := rfl
    simp (disch := omega) only [b_X12_parts_36, nt_add, eNe, rbyte_ok h (show te tb (st tb k) < 100000 from by omega), Option.bind_some, f_X12_parts_37, risD_ok (h.1.2.1 _), hs2, f_X12_parts_38, bi_0, if_true, f_X12_parts_43, nt_clamp, nt_le, nt_lt, nt_eq, lit_le, lit_lt, le_lit, lt_lit, eq_lit, lit_eq, nt_neg, nt_ge, nt_add, nt_mul, nt_addl, lit_add, nt_mull, lit_mul, nt_sub, nt_subl, lit_sub, nt_divl, nt_m1, nt_m2, nt_m1', nt_m2']
    by_cases c : N ≤ 4
    · have ek2 : kd tb (st tb k) = 2 := by rw [ekd, if_pos c]
      have e2 : (2 : Int32) = nt (rk (kd tb (st tb k))) := by rw [ek2]; rfl
      rw [if_pos c, show min N 4 = N from by omega]
      unfold f_X12_parts_45
      rw [e2]
      simp (disch := omega) only [f_X12_parts_46, token_ok hT.1 (show k < 403 from by omega), Option.bind_some, f_X12_parts_47, f_X12_parts_51, Option.map_some, nt_add]
      refine ok_some (Tdone_of (l := l) hT (fun _ => by rw [← eN]; rfl) (fun h1 => by rw [ek2] at h1; omega) hf hj _ _ _ _ _ (by rw [eNe]))
    · have ek2 : kd tb (st tb k) = 0 := by rw [ekd, if_neg c]
      have e2 : (3 : Int32) = nt (rk (kd tb (st tb k))) := by rw [ek2]; rfl
      rw [if_neg c]
      unfold f_X12_parts_44
      rw [e2]
      simp (disch := omega) only [f_X12_parts_46, token_ok hT.1 (show k < 403 from by omega), Option.bind_some, f_X12_parts_47, f_X12_parts_51, Option.map_some, nt_add]
      refine ok_some (Tdone_of (l := l) hT (fun h1 => by rw [ek2] at h1; omega) (fun h1 => by rw [ek2] at h1; omega) hf hj _ _ _ _ _ (by rw [eNe]))
theorem psign_ok {l : Nat} {tb : Nat → Nat} {I I0 : xI} {J J0 : xJ} (h : Tr l tb I) {k : Nat} (hk : k ≤ 400) (hs : st tb k < l) (hT : TR tb k I J) (hL : qL (tb (st tb k)) = false) (hD : qD (tb (st tb k)) = false) (hf : ∀ c j, ¬ tkReg c j → I c j = I0 c j) (hj : ∀ c j, ¬ c = 67 → J c j = J0 c j) (z3 z4 z6 z7 : Option Value) : Ok (f_X12_parts_48 (nt (st tb k)) (nt (tb (st tb k))) z3 z4 z6 z7 I J) (Tdone l tb I0 J0 k) := by
  have hl := h.1.1
  have ee : te tb (st tb k) = st tb k + 1 := by unfold te; rw [hL, hD]; rfl
  have ekd : kd tb (st tb k) = if tb (st tb k) = 59 then 3 else 0 := by
    unfold kd; rw [if_neg (show ¬ qD (tb (st tb k)) = true from by rw [hD]; decide), if_neg (show ¬ qL (tb (st tb k)) = true from by rw [hL]; decide)]
  have hb := h.1.2.1 (st tb k)
  have hn0 : (0 : Int32) = nt 0 := rfl
  simp (disch := omega) only [f_X12_parts_48, nt_addl, rbyte_ok h (show st tb k + 1 < 100000 from by omega), Option.bind_some, f_X12_parts_49, f_X12_sign, f_X12_sign_0, eq_lit]
  by_cases c : tb (st tb k) = 59
  · have ek2 : kd tb (st tb k) = 3 := by rw [ekd, if_pos c]
    have e2 : (4 : Int32) = nt (rk (kd tb (st tb k))) := by rw [ek2]; rfl
    rw [if_pos c]
    unfold f_X12_sign_1
    rw [e2]
    simp (disch := omega) only [f_X12_sign_3, hn0, token_ok hT.1 (show k < 403 from by omega), Option.bind_some, f_X12_sign_4, f_X12_parts_50, f_X12_parts_51]
    refine ok_some (Tdone_of (l := l) hT (fun h1 => by rw [ek2] at h1; omega) (fun h1 => by rw [ek2] at h1; omega) hf hj _ _ _ _ _ (by rw [ee]; exact nt_addl _ 1))
  · have ek2 : kd tb (st tb k) = 0 := by rw [ekd, if_neg c]
    have e2 : (3 : Int32) = nt (rk (kd tb (st tb k))) := by rw [ek2]; rfl
    rw [if_neg c]
    unfold f_X12_sign_2
    rw [e2]
    simp (disch := omega) only [f_X12_sign_3, hn0, token_ok hT.1 (show k < 403 from by omega), Option.bind_some, f_X12_sign_4, f_X12_parts_50, f_X12_parts_51]
    refine ok_some (Tdone_of (l := l) hT (fun h1 => by rw [ek2] at h1; omega) (fun h1 => by rw [ek2] at h1; omega) hf hj _ _ _ _ _ (by rw [ee]; exact nt_addl _ 1))
/-- all are there, or the end is -/
def TRe (l : Nat) (tb : Nat → Nat) (k : Nat) (I : xI) (J : xJ) : Prop := (∀ j, j < k → st tb j < l) ∧ ((k = 401 ∧ TR tb k I J) ∨ (k ≤ 400 ∧ l ≤ st tb k ∧ I 61 10 = nt (k + 1) ∧ I 64 k = 0 ∧ I 65 k = nt l ∧ ∀ j, j < k → I 64 j = nt (rk (kd tb (st tb j))) ∧ I 65 j = nt (st tb j) ∧ (kd tb (st tb j) = 2 → I 66 j = nt (tvl tb (st tb j))) ∧ (kd tb (st tb j) = 1 → J 67 j = jl (nm tb (st tb j)))))
theorem parts_ok {l : Nat} {tb : Nat → Nat} {I : xI} {J : xJ} (h : Tr l tb I) (hK : hKy J) : Ok (f_X12_parts I J) (fun o => (∃ k, TRe l tb k o.2.1 o.2.2) ∧ (∀ c j, ¬ tkReg c j → o.2.1 c j = I c j) ∧ ∀ c j, ¬ c = 67 → o.2.2 c j = J c j) := by
  have hl := h.1.1
  unfold f_X12_parts f_X12_parts_0 f_X12_parts_1
  refine ok_while (fun s => ∃ i k z2 z3 z4 z6 z7 I1 J1, s = (nt i, z2, z3, z4, z6, z7, I1, J1) ∧ i ≤ l ∧ k ≤ 401 ∧ en tb qB i = st tb k ∧ (∀ j, j < k → st tb j < l) ∧ TR tb k I1 J1 ∧ (∀ c j, ¬ tkReg c j → I1 c j = I c j) ∧ ∀ c j, ¬ c = 67 → J1 c j = J c j) (fun s => 2001 - s.1.toNatClampNeg) ?_ 5000 _ (by show 2001 - (0 : Int32).toNatClampNeg < 5000; omega) ⟨0, 0, none, none, none, none, none, _, J, rfl, Nat.zero_le _, by omega, rfl, fun j hj => by omega, ⟨xup_at _ _ _ _, fun j hj => by omega⟩, ?_, fun _ _ _ => rfl⟩
  · rintro s ⟨i, k, z2, z3, z4, z6, z7, I1, J1, rfl, hi, hk, hen, hst, hT, hf, hj⟩
    have hT1 : Tr l tb I1 := Tr_fr h (fun c j hc => hf c j (by unfold tkReg; omega))
    have hK1 : hKy J1 := fun q hq => by rw [hj 68 q (by omega)]; exact hK q hq
    dsimp only
    rw [nt_clamp (show i < 2147483648 from by omega)]
    simp (disch := omega) only [b_X12_parts_1, hT.1, nt_clamp, nt_le, nt_lt, nt_eq, lit_le, lit_lt, le_lit, lt_lit, eq_lit, lit_eq, nt_neg, nt_ge, nt_add, nt_mul, nt_addl, lit_add, nt_mull, lit_mul, nt_sub, nt_subl, lit_sub, nt_divl, nt_m1, nt_m2, nt_m1', nt_m2']
    by_cases c4 : 400 < k
    · rw [if_pos c4]
      simp only [f_X12_parts_52, Option.map_some]
      exact ok_some ⟨⟨k, hst, Or.inl ⟨by omega, hT⟩⟩, hf, hj⟩
    · rw [if_neg c4]
      simp (disch := omega) only [f_X12_parts_2, rbyte_ok hT1 (show i < 100000 from by omega), Option.bind_some, f_X12_parts_3, hT1.2.1, nt_clamp, nt_le, nt_lt, nt_eq, lit_le, lit_lt, le_lit, lt_lit, eq_lit, lit_eq, nt_neg, nt_ge, nt_add, nt_mul, nt_addl, lit_add, nt_mull, lit_mul, nt_sub, nt_subl, lit_sub, nt_divl, nt_m1, nt_m2, nt_m1', nt_m2']
      by_cases cl : i < l
      · rw [if_pos cl]
        have hb := h.1.2.1 i
        have blank : qB (tb i) = true → Ok (f_X12_parts_10 (nt i) (nt (tb i)) z3 z4 z6 z7 I1 J1) (Sum.elim (fun s' => (∃ i k z2 z3 z4 z6 z7 I1 J1, s' = (nt i, z2, z3, z4, z6, z7, I1, J1) ∧ i ≤ l ∧ k ≤ 401 ∧ en tb qB i = st tb k ∧ (∀ j, j < k → st tb j < l) ∧ TR tb k I1 J1 ∧ (∀ c j, ¬ tkReg c j → I1 c j = I c j) ∧ ∀ c j, ¬ c = 67 → J1 c j = J c j) ∧ 2001 - s'.1.toNatClampNeg < 2001 - i) (fun o => (∃ k, TRe l tb k o.2.1 o.2.2) ∧ (∀ c j, ¬ tkReg c j → o.2.1 c j = I c j) ∧ ∀ c j, ¬ c = 67 → o.2.2 c j = J c j)) := by
          intro hq
          simp only [f_X12_parts_10, f_X12_parts_51, nt_addl]
          refine ok_some ⟨⟨i + 1, k, _, _, _, _, _, _, _, rfl, by omega, hk, by rw [en_next h.1 rfl hq]; exact hen, hst, hT, hf, hj⟩, ?_⟩
          show 2001 - (nt (i + 1)).toNatClampNeg < 2001 - i
          rw [nt_clamp (by omega)]; omega
        simp (disch := omega) only [f_X12_parts_6, f_X12_parts_7, f_X12_parts_8, f_X12_parts_9, eq_lit]
        by_cases c1 : tb i = 9
        · rw [if_pos c1]; exact blank (by rw [c1]; rfl)
        rw [if_neg c1]
        by_cases c2 : tb i = 10
        · rw [if_pos c2]; exact blank (by rw [c2]; rfl)
        rw [if_neg c2]
        by_cases c3 : tb i = 13
        · rw [if_pos c3]; exact blank (by rw [c3]; rfl)
        rw [if_neg c3]
        by_cases c5 : tb i = 32
        · rw [if_pos c5]; exact blank (by rw [c5]; rfl)
        rw [if_neg c5]
        have hq : qB (tb i) = false := by
          unfold qB; rw [decide_eq_false c1, decide_eq_false c2, decide_eq_false c3, decide_eq_false c5]; rfl
        have ei : i = st tb k := by rw [← hen, en_same h.1 rfl hq]
        have fin : ∀ o, Tdone l tb I J k o → Sum.elim (fun s' => (∃ i k z2 z3 z4 z6 z7 I1 J1, s' = (nt i, z2, z3, z4, z6, z7, I1, J1) ∧ i ≤ l ∧ k ≤ 401 ∧ en tb qB i = st tb k ∧ (∀ j, j < k → st tb j < l) ∧ TR tb k I1 J1 ∧ (∀ c j, ¬ tkReg c j → I1 c j = I c j) ∧ ∀ c j, ¬ c = 67 → J1 c j = J c j) ∧ 2001 - s'.1.toNatClampNeg < 2001 - i) (fun o => (∃ k, TRe l tb k o.2.1 o.2.2) ∧ (∀ c j, ¬ tkReg c j → o.2.1 c j = I c j) ∧ ∀ c j, ¬ c = 67 → o.2.2 c j = J c j) o := by
          rintro o ⟨y2, y3, y4, y6, y7, I2, J2, rfl, hT2, hf2, hj2⟩
          have t1 := te_gt tb (st tb k)
          have t2 := te_le h.1 (show st tb k < l from by omega)
          refine ⟨⟨te tb (st tb k), k + 1, _, _, _, _, _, _, _, rfl, t2, by omega, rfl, ?_, hT2, hf2, hj2⟩, ?_⟩
          · intro j hj
            by_cases cj : j = k
            · rw [cj]; omega
            · exact hst j (by omega)
          · show 2001 - (nt (te tb (st tb k))).toNatClampNeg < 2001 - i
            rw [nt_clamp (by omega)]; omega
        subst ei
        simp (disch := omega) only [f_X12_parts_11, risL_ok hb, Option.bind_some, f_X12_parts_12, bi_0]
        cases eL : qL (tb (st tb k)) with
        | true =>
          rw [if_neg (by decide)]
          exact (pletters_ok hT1 hK1 (by omega) cl hT eL hf hj z3 z4 z6 z7).imp fin
        | false =>
          rw [if_pos rfl]
          simp (disch := omega) only [f_X12_parts_33, risD_ok hb, Option.bind_some, f_X12_parts_34, bi_0]
          cases eD : qD (tb (st tb k)) with
          | true =>
            rw [if_neg (by decide)]
            exact (pdigits_ok hT1 (by omega) cl hT eD hf hj z3 z4 z6 z7).imp fin
          | false =>
            rw [if_pos rfl]
            exact (psign_ok hT1 (by omega) cl hT eL eD hf hj z3 z4 z6 z7).imp fin
      · rw [if_neg cl]
        have ei : i = l := by omega
        have hst2 : l ≤ st tb k := by rw [← hen, ← ei]; exact en_ge _ _ _
        simp (disch := omega) only [f_X12_parts_4, token_ok hT.1 (show k < 403 from by omega), Option.bind_some, f_X12_parts_5, Option.map_some]
        refine ok_some ?_
        dsimp only [Sum.elim_inr]
        refine ⟨⟨k, hst, Or.inr ⟨by omega, hst2, xup_at _ _ _ _, ?_, ?_, ?_⟩⟩, ?_, ?_⟩
        · simp (disch := omega) only [xup_bj, xup_at]
        · simp (disch := omega) only [xup_bj, xup_at]
          exact hT1.2.1
        · intro j hj'
          have cj : ¬ j = k := by omega
          simp (disch := omega) only [xup_bj, xup_j]
          exact hT.2 j hj'
        · intro c' j hc
          show xup (xup (xup (xup I1 64 k 0) 65 k (I1 61 4)) 66 k 0) 61 10 (nt (k + 1)) c' j = _
          rw [tk_fr _ _ _ hc]; exact hf c' j hc
        · intro c' j hc
          show xup J1 67 k 0 c' j = _
          rw [xup_bj _ _ _ _ _ hc]; exact hj c' j hc
  · intro c j hc
    unfold tkReg at hc
    by_cases c61 : c = 61
    · rw [c61]; simp (disch := omega) only [xup_j]
    · simp (disch := omega) only [xup_bj]
