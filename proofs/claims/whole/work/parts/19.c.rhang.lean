/-! hangs and cost of the reference -/
theorem asThey_ok {I : xI} {J : xJ} : Ok (f_X12_asTheyAre I J) (fun o => o.2.2 = J ∧ (∀ s, s < 6 → o.2.1 86 s = I 70 (48 + s)) ∧ ∀ a j, ¬ a = 86 → o.2.1 a j = I a j) := by
  unfold f_X12_asTheyAre f_X12_asTheyAre_0 f_X12_asTheyAre_1
  refine ok_loop (fun k s => ∃ I1, s = (nt k, I1, J) ∧ (∀ s, s < k → I1 86 s = I 70 (48 + s)) ∧ ∀ a j, ¬ a = 86 → I1 a j = I a j) 6 ?_ ?_ 5000 0 _ (by omega) (by omega) ⟨I, rfl, fun b hb => absurd hb (by omega), fun a j _ => rfl⟩
  · rintro k hk s ⟨I1, rfl, g1, g2⟩
    simp (disch := omega) only [b_X12_asTheyAre_1, f_X12_asTheyAre_2, f_X12_asTheyAre_3, f_X12_codeOf_0, f_X12_codeOf, nt_clamp, nt_le, nt_lt, nt_eq, lit_le, lit_lt, le_lit, lt_lit, eq_lit, lit_eq, nt_neg, nt_ge, nt_add, nt_mul, nt_addl, lit_add, nt_mull, lit_mul, nt_sub, nt_subl, lit_sub, nt_divl, nt_m1, nt_m2, nt_m1', nt_m2', if_true, if_false, if_pos, if_neg, e01, e10, em12, em21, e0m1, e0m2, e1m1, e1m2, em10, em20, Int32.reduceLT, Int32.reduceLE, eq_self, Option.bind_some, Option.map_some, false_or, or_false, or_self, true_or, or_true, not_true_eq_false, not_false_eq_true, false_and, and_false, true_and, and_true]
    refine ok_some ⟨_, rfl, ?_, ?_⟩
    · intro s hs
      rw [xup_if]
      by_cases e : s = k
      · rw [if_pos e, e]; exact g2 70 _ (by omega)
      · rw [if_neg e]; exact g1 s (by omega)
    · intro a j ha
      rw [xup_bj _ _ _ _ _ ha]; exact g2 a j ha
  · rintro s ⟨I1, rfl, g1, g2⟩
    simp (disch := omega) only [b_X12_asTheyAre_1, f_X12_asTheyAre_4, nt_clamp, nt_le, nt_lt, nt_eq, lit_le, lit_lt, le_lit, lt_lit, eq_lit, lit_eq, nt_neg, nt_ge, nt_add, nt_mul, nt_addl, lit_add, nt_mull, lit_mul, nt_sub, nt_subl, lit_sub, nt_divl, nt_m1, nt_m2, nt_m1', nt_m2', if_true, if_false, if_pos, if_neg, e01, e10, em12, em21, e0m1, e0m2, e1m1, e1m2, em10, em20, Int32.reduceLT, Int32.reduceLE, eq_self, Option.bind_some, Option.map_some, false_or, or_false, or_self, true_or, or_true, not_true_eq_false, not_false_eq_true, false_and, and_false, true_and, and_true]
    exact ok_some ⟨rfl, g1, g2⟩
theorem btx8 : ∀ a, a < 8 → ∀ b, b < 8 → ∀ k, k < 3 → bt (nt a ^^^ nt b) k = !decide ((a ^^^ b) &&& 2 ^ k = 0) := by decide +kernel
theorem doesHang_ok {n m b S : Nat} {w : aT} {c : Nat → Nat} {I : xI} {J : xJ} (hn : n ≤ 6) (hm : m ≤ 4) (V : Vd n m w) (h0 : I 61 17 = nt n) (h1 : I 61 18 = nt m) (h : rMa n m w (I 70) 0) (hc : ∀ s, s < n → I 86 s = nt (c s) ∧ c s < 8) (hb : b < 3) (hS : S < 8) : f_X12_doesHang (nt b) (nt S) I J = some (bi (hng n m w c b S), I, J) := by
  apply Ok.eq
  unfold f_X12_doesHang f_X12_doesHang_0 f_X12_doesHang_1
  refine ok_loop (fun a s => ∃ z z', s = (nt b, nt S, nt a, z, z', I, J) ∧ ∀ a', a' < a → al a' (fun d => !eqb c S a' d || al m (hnx w c b a' d)) = true) n ?_ ?_ 5000 0 _ (by omega) (by omega) ⟨none, none, rfl, fun a' ha' => absurd ha' (by omega)⟩
  · rintro a ha s ⟨z, z', rfl, g1⟩
    simp (disch := omega) only [b_X12_doesHang_1, f_X12_doesHang_2, h0, nt_clamp, nt_le, nt_lt, nt_eq, lit_le, lit_lt, le_lit, lt_lit, eq_lit, lit_eq, nt_neg, nt_ge, nt_add, nt_mul, nt_addl, lit_add, nt_mull, lit_mul, nt_sub, nt_subl, lit_sub, nt_divl, nt_m1, nt_m2, nt_m1', nt_m2', if_true, if_false, if_pos, if_neg, e01, e10, em12, em21, e0m1, e0m2, e1m1, e1m2, em10, em20, Int32.reduceLT, Int32.reduceLE, eq_self, Option.bind_some, Option.map_some, false_or, or_false, or_self, true_or, or_true, not_true_eq_false, not_false_eq_true, false_and, and_false, true_and, and_true]
    unfold f_X12_doesHang_3
    refine ok_loop (fun d s => ∃ z', s = (nt b, nt S, nt a, nt d, z', I, J) ∧ ∀ d', d' < d → (!eqb c S a d' || al m (hnx w c b a d')) = true) a ?_ ?_ 5000 0 _ (by omega) (by omega) ⟨_, rfl, fun a' ha' => absurd ha' (by omega)⟩
    · rintro d hd s ⟨z', rfl, g2⟩
      have nx : (!eqb c S a d || al m (hnx w c b a d)) = true → ∀ d', d' < d + 1 → (!eqb c S a d' || al m (hnx w c b a d')) = true := by
        intro e d' hd'
        by_cases c0 : d' = d
        · rw [c0]; exact e
        · exact g2 d' (by omega)
      simp (disch := omega) only [b_X12_doesHang_3, f_X12_doesHang_4, f_X12_doesHang_5, f_X12_doesHang_18, nt_clamp, nt_le, nt_lt, nt_eq, lit_le, lit_lt, le_lit, lt_lit, eq_lit, lit_eq, nt_neg, nt_ge, nt_add, nt_mul, nt_addl, lit_add, nt_mull, lit_mul, nt_sub, nt_subl, lit_sub, nt_divl, nt_m1, nt_m2, nt_m1', nt_m2', false_or, if_neg, (hc a ha).1, (hc d (by omega)).1, xa8 _ (hc a ha).2 _ (hc d (by omega)).2 S hS]
      by_cases e : (c a ^^^ c d) &&& S = 0
      · rw [if_pos e]
        have e' : eqb c S a d = true := decide_eq_true e
        unfold f_X12_doesHang_6 f_X12_doesHang_7
        refine ok_loop (fun x s => s = (nt b, nt S, nt a, nt d, nt x, I, J) ∧ ∀ x', x' < x → hnx w c b a d x' = true) m ?_ ?_ 5000 0 _ (by omega) (by omega) ⟨rfl, fun a' ha' => absurd ha' (by omega)⟩
        · rintro x hx s ⟨rfl, g3⟩
          have nx3 : hnx w c b a d x = true → ∀ x', x' < x + 1 → hnx w c b a d x' = true := by
            intro e d' hd'
            by_cases c0 : d' = x
            · rw [c0]; exact e
            · exact g3 d' (by omega)
          simp (disch := omega) only [b_X12_doesHang_7, f_X12_doesHang_8, h1, to_ok hn hm h ha hx, nt_clamp, nt_le, nt_lt, nt_eq, lit_le, lit_lt, le_lit, lt_lit, eq_lit, lit_eq, nt_neg, nt_ge, nt_add, nt_mul, nt_addl, lit_add, nt_mull, lit_mul, nt_sub, nt_subl, lit_sub, nt_divl, nt_m1, nt_m2, nt_m1', nt_m2', if_neg, Option.bind_some]
          cases ea : w.1 a x with
          | none =>
            simp (disch := omega) only [f_X12_doesHang_9, ov, if_true, if_false, if_pos, if_neg, e01, e10, em12, em21, e0m1, e0m2, e1m1, e1m2, em10, em20, Int32.reduceLT, Int32.reduceLE, eq_self, Option.bind_some, Option.map_some, false_or, or_false, or_self, true_or, or_true, not_true_eq_false, not_false_eq_true, false_and, and_false, true_and, and_true, f_X12_doesHang_17, nt_clamp, nt_le, nt_lt, nt_eq, lit_le, lit_lt, le_lit, lt_lit, eq_lit, lit_eq, nt_neg, nt_ge, nt_add, nt_mul, nt_addl, lit_add, nt_mull, lit_mul, nt_sub, nt_subl, lit_sub, nt_divl, nt_m1, nt_m2, nt_m1', nt_m2']
            refine ok_some ⟨rfl, nx3 ?_⟩
            unfold hnx; rw [ea]
          | some p =>
            have hp := (V.1 a x p ea).2.2
            simp (disch := omega) only [f_X12_doesHang_9, f_X12_doesHang_10, ov, to_ok hn hm h (show d < n from by omega) hx, nt_clamp, nt_le, nt_lt, nt_eq, lit_le, lit_lt, le_lit, lt_lit, eq_lit, lit_eq, nt_neg, nt_ge, nt_add, nt_mul, nt_addl, lit_add, nt_mull, lit_mul, nt_sub, nt_subl, lit_sub, nt_divl, nt_m1, nt_m2, nt_m1', nt_m2', if_true, if_false, if_pos, if_neg, e01, e10, em12, em21, e0m1, e0m2, e1m1, e1m2, em10, em20, Int32.reduceLT, Int32.reduceLE, eq_self, Option.bind_some, Option.map_some, false_or, or_false, or_self, true_or, or_true, not_true_eq_false, not_false_eq_true, false_and, and_false, true_and, and_true]
            cases eb : w.1 d x with
            | none =>
              simp (disch := omega) only [f_X12_doesHang_11, if_true, if_false, if_pos, if_neg, e01, e10, em12, em21, e0m1, e0m2, e1m1, e1m2, em10, em20, Int32.reduceLT, Int32.reduceLE, eq_self, Option.bind_some, Option.map_some, false_or, or_false, or_self, true_or, or_true, not_true_eq_false, not_false_eq_true, false_and, and_false, true_and, and_true, f_X12_doesHang_17, nt_clamp, nt_le, nt_lt, nt_eq, lit_le, lit_lt, le_lit, lt_lit, eq_lit, lit_eq, nt_neg, nt_ge, nt_add, nt_mul, nt_addl, lit_add, nt_mull, lit_mul, nt_sub, nt_subl, lit_sub, nt_divl, nt_m1, nt_m2, nt_m1', nt_m2']
              refine ok_some ⟨rfl, nx3 ?_⟩
              unfold hnx; rw [ea, eb]
            | some q =>
              have hq := (V.1 d x q eb).2.2
              simp (disch := omega) only [f_X12_doesHang_11, f_X12_doesHang_12, f_X12_doesHang_13, f_X12_doesHang_14, ov, to_ok hn hm h ha hx, to_ok hn hm h (show d < n from by omega) hx, ea, eb, nt_clamp, nt_le, nt_lt, nt_eq, lit_le, lit_lt, le_lit, lt_lit, eq_lit, lit_eq, nt_neg, nt_ge, nt_add, nt_mul, nt_addl, lit_add, nt_mull, lit_mul, nt_sub, nt_subl, lit_sub, nt_divl, nt_m1, nt_m2, nt_m1', nt_m2', if_true, if_false, if_pos, if_neg, e01, e10, em12, em21, e0m1, e0m2, e1m1, e1m2, em10, em20, Int32.reduceLT, Int32.reduceLE, eq_self, Option.bind_some, Option.map_some, false_or, or_false, or_self, true_or, or_true, not_true_eq_false, not_false_eq_true, false_and, and_false, true_and, and_true, (hc p hp).1, (hc q hq).1, has_ok (show b < 32 from by omega), btx8 _ (hc p hp).2 _ (hc q hq).2 b hb, f_X12_doesHang_15, bi_0]
              by_cases e3 : (c p ^^^ c q) &&& 2 ^ b = 0
              · rw [decide_eq_true e3, if_pos (by decide)]
                simp (disch := omega) only [f_X12_doesHang_17, nt_clamp, nt_le, nt_lt, nt_eq, lit_le, lit_lt, le_lit, lt_lit, eq_lit, lit_eq, nt_neg, nt_ge, nt_add, nt_mul, nt_addl, lit_add, nt_mull, lit_mul, nt_sub, nt_subl, lit_sub, nt_divl, nt_m1, nt_m2, nt_m1', nt_m2']
                refine ok_some ⟨rfl, nx3 ?_⟩
                unfold hnx; rw [ea, eb]; exact decide_eq_true e3
              · rw [decide_eq_false e3, if_neg (by decide)]
                refine ok_some ?_
                show ((0 : Int32), I, J) = _
                have f1 : hnx w c b a d x = false := by unfold hnx; rw [ea, eb]; exact decide_eq_false e3
                have f2 : al m (hnx w c b a d) = false := al_false hx f1
                have f3 : al a (fun d => !eqb c S a d || al m (hnx w c b a d)) = false := al_false hd (by rw [e', f2]; rfl)
                have f4 : hng n m w c b S = false := al_false ha f3
                rw [f4]; rfl
        · rintro s ⟨rfl, g3⟩
          simp (disch := omega) only [b_X12_doesHang_7, f_X12_doesHang_18, h1, nt_clamp, nt_le, nt_lt, nt_eq, lit_le, lit_lt, le_lit, lt_lit, eq_lit, lit_eq, nt_neg, nt_ge, nt_add, nt_mul, nt_addl, lit_add, nt_mull, lit_mul, nt_sub, nt_subl, lit_sub, nt_divl, nt_m1, nt_m2, nt_m1', nt_m2', if_true, if_false, if_pos, if_neg, e01, e10, em12, em21, e0m1, e0m2, e1m1, e1m2, em10, em20, Int32.reduceLT, Int32.reduceLE, eq_self, Option.bind_some, Option.map_some, false_or, or_false, or_self, true_or, or_true, not_true_eq_false, not_false_eq_true, false_and, and_false, true_and, and_true]
          refine ok_some ⟨_, rfl, nx ?_⟩
          rw [al_iff.mpr g3, Bool.or_true]
      · rw [if_neg e]
        have e' : eqb c S a d = false := decide_eq_false e
        refine ok_some ⟨_, rfl, nx ?_⟩
        rw [e']; rfl
    · rintro s ⟨z', rfl, g2⟩
      simp (disch := omega) only [b_X12_doesHang_3, f_X12_doesHang_19, nt_clamp, nt_le, nt_lt, nt_eq, lit_le, lit_lt, le_lit, lt_lit, eq_lit, lit_eq, nt_neg, nt_ge, nt_add, nt_mul, nt_addl, lit_add, nt_mull, lit_mul, nt_sub, nt_subl, lit_sub, nt_divl, nt_m1, nt_m2, nt_m1', nt_m2', if_true, if_false, if_pos, if_neg, e01, e10, em12, em21, e0m1, e0m2, e1m1, e1m2, em10, em20, Int32.reduceLT, Int32.reduceLE, eq_self, Option.bind_some, Option.map_some, false_or, or_false, or_self, true_or, or_true, not_true_eq_false, not_false_eq_true, false_and, and_false, true_and, and_true]
      refine ok_some ⟨_, _, rfl, ?_⟩
      intro a' ha'
      by_cases c0 : a' = a
      · rw [c0]; exact al_iff.mpr g2
      · exact g1 a' (by omega)
  · rintro s ⟨z, z', rfl, g1⟩
    simp (disch := omega) only [b_X12_doesHang_1, f_X12_doesHang_20, h0, nt_clamp, nt_le, nt_lt, nt_eq, lit_le, lit_lt, le_lit, lt_lit, eq_lit, lit_eq, nt_neg, nt_ge, nt_add, nt_mul, nt_addl, lit_add, nt_mull, lit_mul, nt_sub, nt_subl, lit_sub, nt_divl, nt_m1, nt_m2, nt_m1', nt_m2', if_true, if_false, if_pos, if_neg, e01, e10, em12, em21, e0m1, e0m2, e1m1, e1m2, em10, em20, Int32.reduceLT, Int32.reduceLE, eq_self, Option.bind_some, Option.map_some, false_or, or_false, or_self, true_or, or_true, not_true_eq_false, not_false_eq_true, false_and, and_false, true_and, and_true]
    refine ok_some ?_
    show ((1 : Int32), I, J) = _
    have : hng n m w c b S = true := al_iff.mpr g1
    rw [this]; rfl
theorem bo_fin : ∀ S, S < 64 → ∀ k, k < 7 → S / 2 ^ k = 0 → cn k (fun i => S.testBit i) = pcn S := by decide +kernel
theorem bo_stp : ∀ S, S < 64 → ∀ k, k < 7 → 0 < S / 2 ^ k → cn (k + 1) (fun i => S.testBit i) = cn k (fun i => S.testBit i) + S / 2 ^ k % 2 ∧ k < 6 ∧ S / 2 ^ (k + 1) = S / 2 ^ k / 2 := by decide +kernel
theorem sh1_64 : ∀ k, k < 64 → nt k >>> (1 &&& 31) = nt (k / 2) ∧ nt k &&& 1 = nt (k % 2) := by decide +kernel
theorem bitsOf_ok {I : xI} {J : xJ} (S : Nat) (hS : S < 64) : f_X12_bitsOf (nt S) I J = some (nt (pcn S), I, J) := by
  apply Ok.eq
  unfold f_X12_bitsOf f_X12_bitsOf_0 f_X12_bitsOf_1
  refine ok_while (fun s => ∃ k, k < 7 ∧ s = (nt S, nt (cn k (fun i => S.testBit i)), nt (S / 2 ^ k), I, J)) (fun s => s.2.2.1.toNatClampNeg) ?_ 5000 _ ?_ ⟨0, by omega, ?_⟩
  · rintro s ⟨k, hk, rfl⟩
    have hd : S / 2 ^ k ≤ S := Nat.div_le_self _ _
    have h1 := sh1_64 (S / 2 ^ k) (by omega)
    simp (disch := omega) only [b_X12_bitsOf_1, f_X12_bitsOf_2, f_X12_bitsOf_3, h1.1, h1.2, nt_clamp, nt_le, nt_lt, nt_eq, lit_le, lit_lt, le_lit, lt_lit, eq_lit, lit_eq, nt_neg, nt_ge, nt_add, nt_mul, nt_addl, lit_add, nt_mull, lit_mul, nt_sub, nt_subl, lit_sub, nt_divl, nt_m1, nt_m2, nt_m1', nt_m2', Option.map_some]
    by_cases c : S / 2 ^ k = 0
    · rw [if_pos (by omega)]
      refine ok_some ?_
      show _ = _
      rw [bo_fin S hS k hk c]
    · have hpos := Nat.pos_of_ne_zero c
      rw [if_neg (Nat.not_le.mpr hpos)]
      have h2 := bo_stp S hS k hk hpos
      refine ok_some ⟨⟨k + 1, by omega, by rw [h2.1, h2.2.2]⟩, ?_⟩
      dsimp only
      generalize S / 2 ^ k = u at *
      rw [nt_clamp (by omega)]
      exact Nat.div_lt_self hpos (by omega)
  · show (nt S).toNatClampNeg < 5000
    rw [nt_clamp (by omega)]; omega
  · rw [Nat.pow_zero, Nat.div_one]; rfl
theorem bzs_ord : ∀ i, i < 8 → ∀ j, j < i → pcn (bzs j) < pcn (bzs i) ∨ (pcn (bzs j) = pcn (bzs i) ∧ bzs j < bzs i) := by decide +kernel
theorem bzs_sur : ∀ S, S < 8 → ∃ i, i < 8 ∧ bzs i = S := by decide +kernel
theorem pcn_nb : ∀ k, k < 4 → ∀ S, S < 2 ^ k → pcn S ≤ k := by decide +kernel
theorem hangsOn_ok {n m b : Nat} {w : aT} {c : Nat → Nat} {I : xI} {J : xJ} (hn : n ≤ 6) (hm : m ≤ 4) (V : Vd n m w) (h0 : I 61 17 = nt n) (h1 : I 61 18 = nt m) (h : rMa n m w (I 70) 0) (hc : ∀ s, s < n → I 86 s = nt (c s) ∧ c s < 8) (hb : b < 3) : f_X12_hangsOn (nt b) I J = some (o2 (hso n m w c b), I, J) := by
  apply Ok.eq
  have hb3 := nb_le n
  have hp2 := nb_pow n (by omega)
  unfold f_X12_hangsOn f_X12_hangsOn_0 f_X12_hangsOn_1
  refine ok_loop (fun k s => ∃ z, s = (nt b, nt k, z, I, J) ∧ ∀ T, T < 2 ^ nb n → pcn T < k → hng n m w c b T = false) (nb n + 1) ?_ ?_ 5000 0 _ (by omega) (by omega) ⟨none, rfl, fun T _ hT => absurd hT (by omega)⟩
  · rintro k hk s ⟨z, rfl, g1⟩
    simp (disch := omega) only [b_X12_hangsOn_1, f_X12_hangsOn_2, f_X12_hangsOn_3, rbits_ok hn h0, nt_clamp, nt_le, nt_lt, nt_eq, lit_le, lit_lt, le_lit, lt_lit, eq_lit, lit_eq, nt_neg, nt_ge, nt_add, nt_mul, nt_addl, lit_add, nt_mull, lit_mul, nt_sub, nt_subl, lit_sub, nt_divl, nt_m1, nt_m2, nt_m1', nt_m2', if_true, if_false, if_pos, if_neg, e01, e10, em12, em21, e0m1, e0m2, e1m1, e1m2, em10, em20, Int32.reduceLT, Int32.reduceLE, eq_self, Option.bind_some, Option.map_some, false_or, or_false, or_self, true_or, or_true, not_true_eq_false, not_false_eq_true, false_and, and_false, true_and, and_true]
    unfold f_X12_hangsOn_4
    refine ok_loop (fun S s => s = (nt b, nt k, nt S, I, J) ∧ ∀ T, T < S → pcn T = k → hng n m w c b T = false) (2 ^ nb n) ?_ ?_ 5000 0 _ (by omega) (by omega) ⟨rfl, fun T hT => absurd hT (by omega)⟩
    · rintro S hS s ⟨rfl, g2⟩
      have hpS := pcn_8 S (by omega)
      simp (disch := omega) only [b_X12_hangsOn_4, f_X12_hangsOn_5, f_X12_hangsOn_6, f_X12_hangsOn_7, f_X12_hangsOn_8, rbits_ok hn h0, shl3 (nb n) (by omega), bitsOf_ok S (by omega), doesHang_ok hn hm V h0 h1 h hc hb (show S < 8 from by omega), f_X12_hangsOn_9, f_X12_hangsOn_11, bi_0, nt_clamp, nt_le, nt_lt, nt_eq, lit_le, lit_lt, le_lit, lt_lit, eq_lit, lit_eq, nt_neg, nt_ge, nt_add, nt_mul, nt_addl, lit_add, nt_mull, lit_mul, nt_sub, nt_subl, lit_sub, nt_divl, nt_m1, nt_m2, nt_m1', nt_m2', if_true, if_false, if_pos, if_neg, e01, e10, em12, em21, e0m1, e0m2, e1m1, e1m2, em10, em20, Int32.reduceLT, Int32.reduceLE, eq_self, Option.bind_some, Option.map_some, false_or, or_false, or_self, true_or, or_true, not_true_eq_false, not_false_eq_true, false_and, and_false, true_and, and_true]
      by_cases c1 : pcn S = k
      · rw [if_pos c1]
        cases e : hng n m w c b S with
        | false =>
          rw [if_pos rfl]
          refine ok_some ⟨rfl, ?_⟩
          intro T hT hk
          by_cases c0 : T = S
          · rw [c0]; exact e
          · exact g2 T (by omega) hk
        | true =>
          rw [if_neg (by decide)]
          refine ok_some ?_
          show (nt S, I, J) = _
          obtain ⟨i, hi, rfl⟩ := bzs_sur S (by omega)
          unfold hso
          rw [ff_some.mpr ⟨hi, by rw [decide_eq_true hS, e]; rfl, ?_⟩]
          · rfl
          · intro j hj
            by_cases c2 : bzs j < 2 ^ nb n
            · rcases bzs_ord i hi j hj with o | o
              · rw [g1 _ c2 (by omega), Bool.and_false]
              · rw [g2 _ o.2 (by omega), Bool.and_false]
            · rw [decide_eq_false c2]; rfl
      · rw [if_neg c1]
        refine ok_some ⟨rfl, ?_⟩
        intro T hT hk
        by_cases c0 : T = S
        · exact absurd (c0 ▸ hk) c1
        · exact g2 T (by omega) hk
    · rintro s ⟨rfl, g2⟩
      simp (disch := omega) only [b_X12_hangsOn_4, f_X12_hangsOn_5, f_X12_hangsOn_12, rbits_ok hn h0, shl3 (nb n) (by omega), nt_clamp, nt_le, nt_lt, nt_eq, lit_le, lit_lt, le_lit, lt_lit, eq_lit, lit_eq, nt_neg, nt_ge, nt_add, nt_mul, nt_addl, lit_add, nt_mull, lit_mul, nt_sub, nt_subl, lit_sub, nt_divl, nt_m1, nt_m2, nt_m1', nt_m2', if_true, if_false, if_pos, if_neg, e01, e10, em12, em21, e0m1, e0m2, e1m1, e1m2, em10, em20, Int32.reduceLT, Int32.reduceLE, eq_self, Option.bind_some, Option.map_some, false_or, or_false, or_self, true_or, or_true, not_true_eq_false, not_false_eq_true, false_and, and_false, true_and, and_true]
      refine ok_some ⟨_, rfl, ?_⟩
      intro T hT hk
      by_cases c0 : pcn T = k
      · exact g2 T hT c0
      · exact g1 T hT (by omega)
  · rintro s ⟨z, rfl, g1⟩
    simp (disch := omega) only [b_X12_hangsOn_1, f_X12_hangsOn_2, f_X12_hangsOn_13, rbits_ok hn h0, nt_clamp, nt_le, nt_lt, nt_eq, lit_le, lit_lt, le_lit, lt_lit, eq_lit, lit_eq, nt_neg, nt_ge, nt_add, nt_mul, nt_addl, lit_add, nt_mull, lit_mul, nt_sub, nt_subl, lit_sub, nt_divl, nt_m1, nt_m2, nt_m1', nt_m2', if_true, if_false, if_pos, if_neg, e01, e10, em12, em21, e0m1, e0m2, e1m1, e1m2, em10, em20, Int32.reduceLT, Int32.reduceLE, eq_self, Option.bind_some, Option.map_some, false_or, or_false, or_self, true_or, or_true, not_true_eq_false, not_false_eq_true, false_and, and_false, true_and, and_true]
    refine ok_some ?_
    show ((-2 : Int32), I, J) = _
    unfold hso
    rw [ff_none.mpr ?_]
    · rfl
    · intro j hj
      by_cases c2 : bzs j < 2 ^ nb n
      · rw [g1 _ c2 (by have := pcn_nb (nb n) (by omega) _ c2; omega), Bool.and_false]
      · rw [decide_eq_false c2]; rfl
theorem costNow_ok {n m : Nat} {w : aT} {c : Nat → Nat} {I : xI} {J : xJ} (hn : n ≤ 6) (hm : m ≤ 4) (V : Vd n m w) (h0 : I 61 17 = nt n) (h1 : I 61 18 = nt m) (h : rMa n m w (I 70) 0) (hc : ∀ s, s < n → I 86 s = nt (c s) ∧ c s < 8) : f_X12_costNow I J = some (o2 (cosk n m w c (nb n)), I, J) := by
  apply Ok.eq
  have hb3 := nb_le n
  unfold f_X12_costNow f_X12_costNow_0 f_X12_costNow_1
  refine ok_loop (fun k s => ∃ z t, s = (nt t, nt k, z, I, J) ∧ cosk n m w c k = some t) (nb n) ?_ ?_ 5000 0 _ (by omega) (by omega) ⟨none, 0, rfl, rfl⟩
  · rintro k hk s ⟨z, t, rfl, g⟩
    have gt := cosk_le g
    have hc1 : cosk n m w c (k + 1) = (match hso n m w c k with
      | some S => some (t + pcn S)
      | none => none) := by
      show (match cosk n m w c k, hso n m w c k with
        | some s, some S => some (s + pcn S)
        | _, _ => none) = _
      rw [g]
      cases hso n m w c k <;> rfl
    simp (disch := omega) only [b_X12_costNow_1, f_X12_costNow_2, f_X12_costNow_3, rbits_ok hn h0, hangsOn_ok hn hm V h0 h1 h hc (show k < 3 from by omega), nt_clamp, nt_le, nt_lt, nt_eq, lit_le, lit_lt, le_lit, lt_lit, eq_lit, lit_eq, nt_neg, nt_ge, nt_add, nt_mul, nt_addl, lit_add, nt_mull, lit_mul, nt_sub, nt_subl, lit_sub, nt_divl, nt_m1, nt_m2, nt_m1', nt_m2', if_true, if_false, if_pos, if_neg, e01, e10, em12, em21, e0m1, e0m2, e1m1, e1m2, em10, em20, Int32.reduceLT, Int32.reduceLE, eq_self, Option.bind_some, Option.map_some, false_or, or_false, or_self, true_or, or_true, not_true_eq_false, not_false_eq_true, false_and, and_false, true_and, and_true]
    cases e : hso n m w c k with
    | none =>
      rw [e] at hc1
      refine ok_some ?_
      show ((-2 : Int32), I, J) = _
      have := cosk_none hc1 (nb n - (k + 1))
      rw [show k + 1 + (nb n - (k + 1)) = nb n from by omega] at this
      rw [this]; rfl
    | some S =>
      have hS := hso_lt e
      have := pcn_8 S hS
      rw [e] at hc1
      show Ok (f_X12_costNow_4 (nt t) (nt k) z (nt S) I J) _
      simp (disch := omega) only [f_X12_costNow_4, f_X12_costNow_6, bitsOf_ok S (by omega), f_X12_costNow_7, nt_clamp, nt_le, nt_lt, nt_eq, lit_le, lit_lt, le_lit, lt_lit, eq_lit, lit_eq, nt_neg, nt_ge, nt_add, nt_mul, nt_addl, lit_add, nt_mull, lit_mul, nt_sub, nt_subl, lit_sub, nt_divl, nt_m1, nt_m2, nt_m1', nt_m2', if_true, if_false, if_pos, if_neg, e01, e10, em12, em21, e0m1, e0m2, e1m1, e1m2, em10, em20, Int32.reduceLT, Int32.reduceLE, eq_self, Option.bind_some, Option.map_some, false_or, or_false, or_self, true_or, or_true, not_true_eq_false, not_false_eq_true, false_and, and_false, true_and, and_true]
      exact ok_some ⟨_, _, rfl, hc1⟩
  · rintro s ⟨z, t, rfl, g⟩
    simp (disch := omega) only [b_X12_costNow_1, f_X12_costNow_2, f_X12_costNow_8, rbits_ok hn h0, nt_clamp, nt_le, nt_lt, nt_eq, lit_le, lit_lt, le_lit, lt_lit, eq_lit, lit_eq, nt_neg, nt_ge, nt_add, nt_mul, nt_addl, lit_add, nt_mull, lit_mul, nt_sub, nt_subl, lit_sub, nt_divl, nt_m1, nt_m2, nt_m1', nt_m2', if_true, if_false, if_pos, if_neg, e01, e10, em12, em21, e0m1, e0m2, e1m1, e1m2, em10, em20, Int32.reduceLT, Int32.reduceLE, eq_self, Option.bind_some, Option.map_some, false_or, or_false, or_self, true_or, or_true, not_true_eq_false, not_false_eq_true, false_and, and_false, true_and, and_true]
    refine ok_some ?_
    rw [g]; rfl
theorem rcost_ok {n m : Nat} {w : aT} {I : xI} {J : xJ} (hn : n ≤ 6) (hm : m ≤ 4) (V : Vd n m w) (h0 : I 61 17 = nt n) (h1 : I 61 18 = nt m) (h : rMa n m w (I 70) 0) : Ok (f_X12_cost I J) (fun o => o.2.2 = J ∧ o.1 = costR n m w ∧ ∀ c j, ¬ c = 86 → o.2.1 c j = I c j) := by
  unfold f_X12_cost f_X12_cost_0
  apply ok_bind
  refine asThey_ok.imp ?_
  rintro ⟨_, I1, J1⟩ ⟨rfl, a1, a2⟩
  dsimp only at a1 a2 ⊢
  have e70 : I1 70 = I 70 := funext fun j => a2 70 j (by omega)
  simp only [f_X12_cost_1, costNow_ok (c := w.2.2) hn hm V ((a2 61 17 (by omega)).trans h0) ((a2 61 18 (by omega)).trans h1) (by rw [e70]; exact h) (fun s hs => ⟨by rw [a1 s (by omega)]; have := h.2.2 s hs; rwa [Nat.zero_add] at this, V.2.2 s⟩), Option.bind_some, f_X12_cost_2]
  exact ok_some ⟨rfl, rfl, a2⟩
theorem rin01_ok {v : Int32} {I : xI} {J : xJ} : f_X12_in v 0 1 I J = some (bi (isS 2 v), I, J) := rin_ok (n := 2) (by omega)
theorem rhangs_ok {n m : Nat} {w : aT} {I : xI} {J : xJ} (hn : n ≤ 6) (hm : m ≤ 4) (V : Vd n m w) (h0 : I 61 17 = nt n) (h1 : I 61 18 = nt m) (h : rMa n m w (I 70) 0) (x y : Int32) : Ok (f_X12_hangs x y I J) (fun o => o.2.2 = J ∧ o.1 = hangR n m w x y ∧ ∀ c j, ¬ c = 86 → o.2.1 c j = I c j) := by
  have hb3 := nb_le n
  simp only [f_X12_hangs, f_X12_hangs_0, rbits_ok hn h0, Option.bind_some, f_X12_hangs_1, rin_ok (show nb n < 2147483648 from by omega), f_X12_hangs_2, f_X12_hangs_3, rin01_ok, f_X12_hangs_4, bi_0]
  unfold hangR
  cases c1 : isS (nb n) x with
  | false =>
    rw [if_pos rfl, if_neg (by simp)]
    exact ok_some ⟨rfl, rfl, fun _ _ _ => rfl⟩
  | true =>
    rw [if_neg (by decide)]
    cases c2 : isS 2 y with
    | false =>
      rw [if_pos rfl, if_neg (by simp)]
      exact ok_some ⟨rfl, rfl, fun _ _ _ => rfl⟩
    | true =>
      rw [if_neg (by decide), if_pos ⟨rfl, rfl⟩]
      have hy := isS_2.mp c2
      obtain ⟨b, hb, rfl⟩ := isS_ex (by omega) c1
      unfold f_X12_hangs_6
      apply ok_bind
      refine asThey_ok.imp ?_
      rintro ⟨_, I1, J1⟩ ⟨rfl, a1, a2⟩
      dsimp only at a1 a2 ⊢
      have e70 : I1 70 = I 70 := funext fun j => a2 70 j (by omega)
      simp (disch := omega) only [f_X12_hangs_7, hangsOn_ok (c := w.2.2) hn hm V ((a2 61 17 (by omega)).trans h0) ((a2 61 18 (by omega)).trans h1) (by rw [e70]; exact h) (fun s hs => ⟨by rw [a1 s (by omega)]; have := h.2.2 s hs; rwa [Nat.zero_add] at this, V.2.2 s⟩) (show b < 3 from by omega), Option.bind_some, nt_clamp]
      cases e : hso n m w w.2.2 b with
      | none =>
        rcases hy with rfl | rfl
        · exact ok_some ⟨rfl, rfl, a2⟩
        · exact ok_some ⟨rfl, rfl, a2⟩
      | some S =>
        have hS := hso_lt e
        show Ok (f_X12_hangs_8 (nt b) y (nt S) I1 J1) _
        simp (disch := omega) only [f_X12_hangs_8, f_X12_hangs_9, f_X12_hangs_10, f_X12_hangs_11, f_X12_hangs_12, f_X12_hangs_13, bitsOf_ok S (by omega), nt_clamp, nt_le, nt_lt, nt_eq, lit_le, lit_lt, le_lit, lt_lit, eq_lit, lit_eq, nt_neg, nt_ge, nt_add, nt_mul, nt_addl, lit_add, nt_mull, lit_mul, nt_sub, nt_subl, lit_sub, nt_divl, nt_m1, nt_m2, nt_m1', nt_m2', if_true, if_false, if_pos, if_neg, e01, e10, em12, em21, e0m1, e0m2, e1m1, e1m2, em10, em20, Int32.reduceLT, Int32.reduceLE, eq_self, Option.bind_some, Option.map_some, false_or, or_false, or_self, true_or, or_true, not_true_eq_false, not_false_eq_true, false_and, and_false, true_and, and_true]
        rcases hy with rfl | rfl
        · exact ok_some ⟨rfl, rfl, a2⟩
        · exact ok_some ⟨rfl, rfl, a2⟩
