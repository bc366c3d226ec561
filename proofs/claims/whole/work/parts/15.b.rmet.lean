/-! the reference's met -/
theorem ld_bt {n m : Nat} {w : aT} (hn : n ≤ 6) (V : Vd n m w) {y : Int32} {s x t : Nat} (hs : bt y s = true) (ht : w.1 s x = some t) : bt (ld n w y x) t = true := by
  have hv := V.1 s x t ht
  unfold ld
  rw [orf_bt]
  refine ex_iff.mpr ⟨s, hv.1, ?_⟩
  rw [hs, if_pos rfl, ht]
  show bt (1 <<< nt t) t = true
  rw [one_shl (by omega) (by omega), decide_eq_true rfl]
theorem met16_ok {n m : Nat} {w : aT} {I : xI} {J : xJ} (hn : n ≤ 6) (hm : m ≤ 4) (V : Vd n m w) (h0 : I 61 17 = nt n) (h1 : I 61 18 = nt m) (h : rMa n m w (I 70) 0) (hf : cFw n m w (I 61 37) (I 79)) (h81 : ∀ s, s < n → I 81 s = mt n m w s) {s c : Nat} (hs : s < n) (hc : c < fk n m w) : Ok (f_X12_laysMet_16 0 (nt s) (nt c) 0 I J) (fun o => ∃ z4, o = .inl (0, nt s, nt (c + 1), z4, I, J)) := by
  have hO := hf.1
  have hk := hO.1
  unfold f_X12_laysMet_16
  refine ok_loop (fun x t => t = (0, nt s, nt c, nt x, I, J)) m ?_ ?_ 5000 0 _ (by omega) (by omega) rfl
  · rintro x hx t rfl
    simp (disch := omega) only [b_X12_laysMet_16, f_X12_laysMet_17, f_X12_laysMet_18, f_X12_laysMet_19, f_X12_laysMet_20, f_X12_laysMet_21, f_X12_laysMet_22, f_X12_laysMet_23, f_X12_laysMet_31, h1, nt_clamp, nt_le, nt_lt, nt_eq, lit_le, lit_lt, le_lit, lt_lit, eq_lit, lit_eq, nt_neg, nt_ge, nt_add, nt_mul, nt_addl, lit_add, nt_mull, lit_mul, nt_sub, nt_subl, lit_sub, nt_divl, nt_m1, nt_m2, nt_m1', nt_m2', false_or, if_neg, h81 s hs, has_ok, Option.bind_some, bi_0, to_ok hn hm h hs hx, smallTo_ok hn hm V h0 h hf hc hx]
    cases ea : bt (mt n m w s) c with
    | false =>
      simp only [if_true]
      exact ok_some rfl
    | true =>
      simp only [Bool.true_eq_false, if_false]
      rw [mt_bt hn hO (by omega), Bool.and_eq_true] at ea
      cases et : w.1 s x with
      | none =>
        simp only [ov_n, Int32.reduceLT, if_true]
        exact ok_some rfl
      | some t =>
        have ht := (V.1 s x t et).2.2
        cases es : smo n m w c x with
        | none =>
          simp (disch := omega) only [ov_s, ov_n, nt_clamp, nt_le, nt_lt, nt_eq, lit_le, lit_lt, le_lit, lt_lit, eq_lit, lit_eq, nt_neg, nt_ge, nt_add, nt_mul, nt_addl, lit_add, nt_mull, lit_mul, nt_sub, nt_subl, lit_sub, nt_divl, nt_m1, nt_m2, nt_m1', nt_m2', if_false, Int32.reduceLT, if_true]
          exact ok_some rfl
        | some j =>
          have hj := smo_some es
          have hb : bt (mt n m w t) j = true := by
            rw [mt_bt hn hO (by omega), decide_eq_true hj.1, Bool.true_and]
            exact sub_iff.mp hj.2 t (by omega) (ld_bt hn V ea.2 et)
          simp (disch := omega) only [ov_s, nt_clamp, nt_le, nt_lt, nt_eq, lit_le, lit_lt, le_lit, lt_lit, eq_lit, lit_eq, nt_neg, nt_ge, nt_add, nt_mul, nt_addl, lit_add, nt_mull, lit_mul, nt_sub, nt_subl, lit_sub, nt_divl, nt_m1, nt_m2, nt_m1', nt_m2', if_false, f_X12_laysMet_24, f_X12_laysMet_25, f_X12_laysMet_26, f_X12_laysMet_27, f_X12_laysMet_31, false_or, if_neg, h81 t ht, smallTo_ok hn hm V h0 h hf hc hx, es, has_ok, Option.bind_some, bi_0, hb, Bool.true_eq_false]
          exact ok_some rfl
  · rintro t rfl
    simp (disch := omega) only [b_X12_laysMet_16, f_X12_laysMet_32, h1, nt_clamp, nt_le, nt_lt, nt_eq, lit_le, lit_lt, le_lit, lt_lit, eq_lit, lit_eq, nt_neg, nt_ge, nt_add, nt_mul, nt_addl, lit_add, nt_mull, lit_mul, nt_sub, nt_subl, lit_sub, nt_divl, nt_m1, nt_m2, nt_m1', nt_m2', if_true, if_false, if_pos, if_neg, e01, e10, em12, em21, e0m1, e0m2, e1m1, e1m2, em10, em20, Int32.reduceLT, Int32.reduceLE, eq_self, Option.bind_some, Option.map_some, false_or, or_false, or_self, true_or, or_true, not_true_eq_false, not_false_eq_true, false_and, and_false, true_and, and_true]
    exact ok_some ⟨_, rfl⟩
theorem met12_ok {n m : Nat} {w : aT} {I : xI} {J : xJ} (hn : n ≤ 6) (hm : m ≤ 4) (V : Vd n m w) (h0 : I 61 17 = nt n) (h1 : I 61 18 = nt m) (h : rMa n m w (I 70) 0) (hf : cFw n m w (I 61 37) (I 79)) (h81 : ∀ s, s < n → I 81 s = mt n m w s) (z3 z4 : Option Value) : Ok (f_X12_laysMet_12 0 0 z3 z4 I J) (fun o => ∃ z2 z3 z4, o = .inl (0, z2, z3, z4, I, J)) := by
  have h37 := hf.2.1
  have hk := hf.1.1
  unfold f_X12_laysMet_12
  refine ok_loop (fun s t => ∃ z3 z4, t = (0, nt s, z3, z4, I, J)) n ?_ ?_ 5000 0 _ (by omega) (by omega) ⟨z3, z4, rfl⟩
  · rintro s hs t ⟨z3, z4, rfl⟩
    simp (disch := omega) only [b_X12_laysMet_12, f_X12_laysMet_13, h0, nt_clamp, nt_le, nt_lt, nt_eq, lit_le, lit_lt, le_lit, lt_lit, eq_lit, lit_eq, nt_neg, nt_ge, nt_add, nt_mul, nt_addl, lit_add, nt_mull, lit_mul, nt_sub, nt_subl, lit_sub, nt_divl, nt_m1, nt_m2, nt_m1', nt_m2', if_true, if_false, if_pos, if_neg, e01, e10, em12, em21, e0m1, e0m2, e1m1, e1m2, em10, em20, Int32.reduceLT, Int32.reduceLE, eq_self, Option.bind_some, Option.map_some, false_or, or_false, or_self, true_or, or_true, not_true_eq_false, not_false_eq_true, false_and, and_false, true_and, and_true]
    unfold f_X12_laysMet_14
    refine ok_loop (fun c t => ∃ z4, t = (0, nt s, nt c, z4, I, J)) (fk n m w) ?_ ?_ 5000 0 _ (by omega) (by omega) ⟨z4, rfl⟩
    · rintro c hc t ⟨z4, rfl⟩
      simp (disch := omega) only [b_X12_laysMet_14, f_X12_laysMet_15, h37, nt_clamp, nt_le, nt_lt, nt_eq, lit_le, lit_lt, le_lit, lt_lit, eq_lit, lit_eq, nt_neg, nt_ge, nt_add, nt_mul, nt_addl, lit_add, nt_mull, lit_mul, nt_sub, nt_subl, lit_sub, nt_divl, nt_m1, nt_m2, nt_m1', nt_m2', if_true, if_false, if_pos, if_neg, e01, e10, em12, em21, e0m1, e0m2, e1m1, e1m2, em10, em20, Int32.reduceLT, Int32.reduceLE, eq_self, Option.bind_some, Option.map_some, false_or, or_false, or_self, true_or, or_true, not_true_eq_false, not_false_eq_true, false_and, and_false, true_and, and_true]
      refine (met16_ok hn hm V h0 h1 h hf h81 hs hc).imp ?_
      rintro o ⟨z4', rfl⟩
      exact ⟨z4', rfl⟩
    · rintro t ⟨z4, rfl⟩
      simp (disch := omega) only [b_X12_laysMet_14, f_X12_laysMet_33, h37, nt_clamp, nt_le, nt_lt, nt_eq, lit_le, lit_lt, le_lit, lt_lit, eq_lit, lit_eq, nt_neg, nt_ge, nt_add, nt_mul, nt_addl, lit_add, nt_mull, lit_mul, nt_sub, nt_subl, lit_sub, nt_divl, nt_m1, nt_m2, nt_m1', nt_m2', if_true, if_false, if_pos, if_neg, e01, e10, em12, em21, e0m1, e0m2, e1m1, e1m2, em10, em20, Int32.reduceLT, Int32.reduceLE, eq_self, Option.bind_some, Option.map_some, false_or, or_false, or_self, true_or, or_true, not_true_eq_false, not_false_eq_true, false_and, and_false, true_and, and_true]
      exact ok_some ⟨_, _, rfl⟩
  · rintro t ⟨z3, z4, rfl⟩
    simp (disch := omega) only [b_X12_laysMet_12, f_X12_laysMet_34, h0, nt_clamp, nt_le, nt_lt, nt_eq, lit_le, lit_lt, le_lit, lt_lit, eq_lit, lit_eq, nt_neg, nt_ge, nt_add, nt_mul, nt_addl, lit_add, nt_mull, lit_mul, nt_sub, nt_subl, lit_sub, nt_divl, nt_m1, nt_m2, nt_m1', nt_m2', if_true, if_false, if_pos, if_neg, e01, e10, em12, em21, e0m1, e0m2, e1m1, e1m2, em10, em20, Int32.reduceLT, Int32.reduceLE, eq_self, Option.bind_some, Option.map_some, false_or, or_false, or_self, true_or, or_true, not_true_eq_false, not_false_eq_true, false_and, and_false, true_and, and_true]
    exact ok_some ⟨_, _, _, rfl⟩
theorem met10_ok {n m : Nat} {w : aT} {I : xI} {J : xJ} (hn : n ≤ 6) (hm : m ≤ 4) (V : Vd n m w) (h0 : I 61 17 = nt n) (h1 : I 61 18 = nt m) (h : rMa n m w (I 70) 0) (hf : cFw n m w (I 61 37) (I 79)) (h81 : ∀ s, s < n → I 81 s = mt n m w s) (z2 z3 z4 : Option Value) : Ok (f_X12_laysMet_10 1 z2 z3 z4 I J) (fun o => o = ((), I, J)) := by
  unfold f_X12_laysMet_10
  refine ok_xloop (f := 4999) ?_
  simp only [b_X12_laysMet_10, e10, if_false, f_X12_laysMet_11]
  refine (met12_ok hn hm V h0 h1 h hf h81 z3 z4).imp ?_
  rintro o ⟨z2', z3', z4', rfl⟩
  show Ok _ _
  refine ok_xloop (f := 4998) ?_
  simp only [b_X12_laysMet_10, if_true, f_X12_laysMet_35, Option.map_some]
  exact ok_some rfl
theorem laysMet_ok {n m : Nat} {w : aT} {I : xI} {J : xJ} (hn : n ≤ 6) (hm : m ≤ 4) (V : Vd n m w) (h0 : I 61 17 = nt n) (h1 : I 61 18 = nt m) (h : rMa n m w (I 70) 0) (hf : cFw n m w (I 61 37) (I 79)) : Ok (f_X12_laysMet I J) (fun o => o.2.2 = J ∧ (∀ s, s < n → o.2.1 81 s = mt n m w s) ∧ ∀ c j, ¬ c = 81 → o.2.1 c j = I c j) := by
  have hk := hf.1.1
  unfold f_X12_laysMet f_X12_laysMet_0 f_X12_laysMet_1
  have cf : ∀ I' : xI, (∀ c j, ¬ c = 81 → I' c j = I c j) → cFw n m w (I' 61 37) (I' 79) := by
    intro I' hfr
    have e79 : I' 79 = I 79 := funext fun j => hfr 79 j (by omega)
    rw [hfr 61 37 (by omega), e79]; exact hf
  refine ok_loop (fun s t => ∃ z2 I', t = (nt s, z2, I', J) ∧ (∀ r, r < s → I' 81 r = mt n m w r) ∧ ∀ c j, ¬ c = 81 → I' c j = I c j) n ?_ ?_ 5000 0 _ (by omega) (by omega) ⟨none, I, rfl, fun r hr => absurd hr (by omega), fun _ _ _ => rfl⟩
  · rintro s hs t ⟨z2, I', rfl, g1, g2⟩
    have e17 : I' 61 17 = nt n := (g2 61 17 (by omega)).trans h0
    simp (disch := omega) only [b_X12_laysMet_1, f_X12_laysMet_2, e17, nt_clamp, nt_le, nt_lt, nt_eq, lit_le, lit_lt, le_lit, lt_lit, eq_lit, lit_eq, nt_neg, nt_ge, nt_add, nt_mul, nt_addl, lit_add, nt_mull, lit_mul, nt_sub, nt_subl, lit_sub, nt_divl, nt_m1, nt_m2, nt_m1', nt_m2', false_or, if_neg]
    unfold f_X12_laysMet_3
    refine ok_loop (fun c t => ∃ I2, t = (nt s, nt c, I2, J) ∧ I2 81 s = orf c (fun c => if bt (fs n m w c) s = true then 1 <<< nt c else 0) ∧ (∀ r, r < s → I2 81 r = mt n m w r) ∧ ∀ c j, ¬ c = 81 → I2 c j = I c j) (fk n m w) ?_ ?_ 5000 0 _ (by omega) (by omega) ⟨_, rfl, xup_at _ _ _ _, fun r hr => by rw [xup_j _ _ _ _ (by omega)]; exact g1 r hr, fun c j hc => by rw [xup_bj _ _ _ _ _ hc]; exact g2 c j hc⟩
    · rintro c hc t ⟨I2, rfl, a1, a2, a3⟩
      obtain ⟨_, f37, f79⟩ := cf I2 a3
      simp (disch := omega) only [b_X12_laysMet_3, f_X12_laysMet_4, f_X12_laysMet_5, f_X12_laysMet_6, f_X12_laysMet_7, f37, nt_clamp, nt_le, nt_lt, nt_eq, lit_le, lit_lt, le_lit, lt_lit, eq_lit, lit_eq, nt_neg, nt_ge, nt_add, nt_mul, nt_addl, lit_add, nt_mull, lit_mul, nt_sub, nt_subl, lit_sub, nt_divl, nt_m1, nt_m2, nt_m1', nt_m2', false_or, if_neg, f79 c hc, has_ok, Option.bind_some, bi_0, nt_31]
      cases ea : bt (fs n m w c) s with
      | false =>
        simp only [if_true]
        refine ok_some ⟨I2, rfl, ?_, a2, a3⟩
        rw [orf, ea, if_neg (by decide), Int32.or_zero]; exact a1
      | true =>
        simp only [Bool.true_eq_false, if_false]
        refine ok_some ⟨_, rfl, ?_, ?_, ?_⟩
        · rw [xup_at, orf, ea, if_pos rfl, a1]
        · intro r hr
          rw [xup_j _ _ _ _ (by omega)]; exact a2 r hr
        · intro c j hc
          rw [xup_bj _ _ _ _ _ hc]; exact a3 c j hc
    · rintro t ⟨I2, rfl, a1, a2, a3⟩
      obtain ⟨_, f37, f79⟩ := cf I2 a3
      simp (disch := omega) only [b_X12_laysMet_3, f_X12_laysMet_8, f37, nt_clamp, nt_le, nt_lt, nt_eq, lit_le, lit_lt, le_lit, lt_lit, eq_lit, lit_eq, nt_neg, nt_ge, nt_add, nt_mul, nt_addl, lit_add, nt_mull, lit_mul, nt_sub, nt_subl, lit_sub, nt_divl, nt_m1, nt_m2, nt_m1', nt_m2', if_true, if_false, if_pos, if_neg, e01, e10, em12, em21, e0m1, e0m2, e1m1, e1m2, em10, em20, Int32.reduceLT, Int32.reduceLE, eq_self, Option.bind_some, Option.map_some, false_or, or_false, or_self, true_or, or_true, not_true_eq_false, not_false_eq_true, false_and, and_false, true_and, and_true]
      refine ok_some ⟨_, I2, rfl, ?_, a3⟩
      intro r hr
      by_cases c : r = s
      · rw [c]; exact a1
      · exact a2 r (by omega)
  · rintro t ⟨z2, I', rfl, g1, g2⟩
    have e17 : I' 61 17 = nt n := (g2 61 17 (by omega)).trans h0
    have e18 : I' 61 18 = nt m := (g2 61 18 (by omega)).trans h1
    have e70 : I' 70 = I 70 := funext fun j => g2 70 j (by omega)
    simp (disch := omega) only [b_X12_laysMet_1, f_X12_laysMet_9, e17, nt_clamp, nt_le, nt_lt, nt_eq, lit_le, lit_lt, le_lit, lt_lit, eq_lit, lit_eq, nt_neg, nt_ge, nt_add, nt_mul, nt_addl, lit_add, nt_mull, lit_mul, nt_sub, nt_subl, lit_sub, nt_divl, nt_m1, nt_m2, nt_m1', nt_m2', if_pos]
    apply ok_map
    refine (met10_ok hn hm V e17 e18 (by rw [e70]; exact h) (cf I' g2) g1 z2 none none).imp ?_
    rintro o rfl
    exact ⟨rfl, g1, g2⟩
