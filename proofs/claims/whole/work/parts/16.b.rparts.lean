/-! partitions of the reference -/
/-- what the reference's lists hold of the first N partitions -/
def rPt (n m : Nat) (w : aT) (N : Nat) (c82 c83 c84 c85 : Nat → Int32) : Prop := ∀ i, i < N → c82 i = nt (pnum n i) ∧ c83 i = nt (pblk n i) ∧ c84 i = bi (go n m w i i) ∧ ∀ s, s < 6 → c85 (6 * i + s) = nt (bo n i s)
theorem rw2_le {d : Nat → Nat} (hd : ∀ s, s < 6 → d s < 6) : ∀ k, k ≤ 6 → (rw2 d k).1 < 10 ^ k ∧ (rw2 d k).2 ≤ 6 := by
  intro k
  induction k with
  | zero => intro _; exact ⟨Nat.zero_lt_one, Nat.zero_le _⟩
  | succ k ih =>
    intro hk
    have h1 := ih (by omega)
    have h2 := hd k (by omega)
    unfold rw2
    dsimp only
    rw [Nat.pow_succ]
    refine ⟨by omega, ?_⟩
    split <;> omega
theorem pow10 : ∀ k, k ≤ 6 → 10 ^ k ≤ 1000000 := by
  intro k hk
  have : k = 0 ∨ k = 1 ∨ k = 2 ∨ k = 3 ∨ k = 4 ∨ k = 5 ∨ k = 6 := by omega
  rcases this with rfl | rfl | rfl | rfl | rfl | rfl | rfl <;> decide
theorem listsPart_ok {n m : Nat} {w : aT} {I : xI} {J : xJ} (hn : n ≤ 6) (hm : m ≤ 4) (V : Vd n m w) (h0 : I 61 17 = nt n) (h1 : I 61 18 = nt m) (h : rMa n m w (I 70) 0) : Ok (f_X12_listsPartitions I J) (fun o => o.2.2 = J ∧ o.2.1 61 40 = nt (pts n).length ∧ rPt n m w (pts n).length (o.2.1 82) (o.2.1 83) (o.2.1 84) (o.2.1 85) ∧ ∀ c j, ¬ c = 82 → ¬ c = 83 → ¬ c = 84 → ¬ c = 85 → ¬ (c = 61 ∧ j = 40) → o.2.1 c j = I c j) := by
  have hN := pts_len n (by omega)
  simp (disch := omega) only [f_X12_listsPartitions, f_X12_listsPartitions_0, xup_j, h0, nt_clamp, nt_le, nt_lt, nt_eq, lit_le, lit_lt, le_lit, lt_lit, eq_lit, lit_eq, nt_neg, nt_ge, nt_add, nt_mul, nt_addl, lit_add, nt_mull, lit_mul, nt_sub, nt_subl, lit_sub, nt_divl, nt_m1, nt_m2, nt_m1', nt_m2']
  by_cases hn0 : n = 0
  · rw [if_pos hn0]
    subst hn0
    refine ok_some ?_
    dsimp only
    exact ⟨rfl, xup_at _ _ _ _, fun i hi => absurd hi (by show ¬ i < 0; omega), fun c j _ _ _ _ hc => xup_no _ _ _ _ hc⟩
  · rw [if_neg hn0]
    have hN0 := pts_pos n (by omega) (by omega)
    unfold f_X12_listsPartitions_2 f_X12_listsPartitions_3
    refine ok_loop (fun k s => ∃ I', s = (nt k, I', J) ∧ (∀ l, l < k → I' 85 l = 0) ∧ I' 61 40 = 0 ∧ ∀ c j, ¬ c = 85 → ¬ (c = 61 ∧ j = 40) → I' c j = I c j) 6 ?_ ?_ 5000 0 _ (by omega) (by omega) ⟨_, rfl, fun l hl => absurd hl (by omega), xup_at _ _ _ _, fun c j _ hc => xup_no _ _ _ _ hc⟩
    · rintro k hk s ⟨I', rfl, g1, g2, g3⟩
      simp (disch := omega) only [b_X12_listsPartitions_3, f_X12_listsPartitions_4, nt_clamp, nt_le, nt_lt, nt_eq, lit_le, lit_lt, le_lit, lt_lit, eq_lit, lit_eq, nt_neg, nt_ge, nt_add, nt_mul, nt_addl, lit_add, nt_mull, lit_mul, nt_sub, nt_subl, lit_sub, nt_divl, nt_m1, nt_m2, nt_m1', nt_m2', if_true, if_false, if_pos, if_neg, e01, e10, em12, em21, e0m1, e0m2, e1m1, e1m2, em10, em20, Int32.reduceLT, Int32.reduceLE, eq_self, Option.bind_some, Option.map_some, false_or, or_false, or_self, true_or, or_true, not_true_eq_false, not_false_eq_true, false_and, and_false, true_and, and_true]
      refine ok_some ⟨_, rfl, ?_, ?_, ?_⟩
      · intro l hl
        rw [xup_if]
        by_cases c : l = k
        · rw [if_pos c]
        · rw [if_neg c]; exact g1 l (by omega)
      · rw [xup_bj _ _ _ _ _ (by omega)]; exact g2
      · intro c j c1 c2
        rw [xup_bj _ _ _ _ _ c1]; exact g3 c j c1 c2
    · rintro s ⟨I1, rfl, f1, f2, f3⟩
      simp (disch := omega) only [b_X12_listsPartitions_3, f_X12_listsPartitions_5, nt_clamp, nt_le, nt_lt, nt_eq, lit_le, lit_lt, le_lit, lt_lit, eq_lit, lit_eq, nt_neg, nt_ge, nt_add, nt_mul, nt_addl, lit_add, nt_mull, lit_mul, nt_sub, nt_subl, lit_sub, nt_divl, nt_m1, nt_m2, nt_m1', nt_m2', if_pos]
      apply ok_map
      unfold f_X12_listsPartitions_6
      refine ok_loop (fun i s => ∃ z2 z3 z4 z5 I', s = (bi (decide (i < (pts n).length)), z2, z3, z4, z5, I', J) ∧ I' 61 40 = nt i ∧ rPt n m w i (I' 82) (I' 83) (I' 84) (I' 85) ∧ (i < (pts n).length → ∀ s, s < 6 → I' 85 (6 * i + s) = nt (bo n i s)) ∧ ∀ c j, ¬ c = 82 → ¬ c = 83 → ¬ c = 84 → ¬ c = 85 → ¬ (c = 61 ∧ j = 40) → I' c j = I c j) (pts n).length ?_ ?_ 5000 0 _ (by omega) (by omega) ⟨none, none, none, none, I1, by rw [decide_eq_true hN0]; rfl, f2, fun i hi => absurd hi (by omega), ?_, ?_⟩
      · rintro i hi s ⟨z2, z3, z4, z5, I', rfl, g1, g2, g3, g4⟩
        obtain ⟨p1, p2, p3, p4, p5, p6⟩ := pt_fact hn hi
        have g3' := g3 hi
        have e17 : I' 61 17 = nt n := (g4 61 17 (by omega) (by omega) (by omega) (by omega) (by omega)).trans h0
        have e18 : I' 61 18 = nt m := (g4 61 18 (by omega) (by omega) (by omega) (by omega) (by omega)).trans h1
        have e70 : I' 70 = I 70 := funext fun j => g4 70 j (by omega) (by omega) (by omega) (by omega) (by omega)
        simp (disch := omega) only [decide_eq_true, b_X12_listsPartitions_6, bi_0, Bool.true_eq_false, if_false, f_X12_listsPartitions_7, g1, nt_clamp, nt_le, nt_lt, nt_eq, lit_le, lit_lt, le_lit, lt_lit, eq_lit, lit_eq, nt_neg, nt_ge, nt_add, nt_mul, nt_addl, lit_add, nt_mull, lit_mul, nt_sub, nt_subl, lit_sub, nt_divl, nt_m1, nt_m2, nt_m1', nt_m2']
        unfold f_X12_listsPartitions_8
        refine ok_loop (fun k s => s = (bi true, nt (6 * i), nt (rw2 (bo n i) k).1, nt (rw2 (bo n i) k).2, nt k, I', J)) n ?_ ?_ 5000 0 _ (by omega) (by omega) rfl
        · rintro k hk s rfl
          have hb := p3 k (by omega)
          have hr := rw2_le p3 k (by omega)
          have hpw := pow10 k (by omega)
          simp (disch := omega) only [b_X12_listsPartitions_8, f_X12_listsPartitions_9, f_X12_listsPartitions_10, f_X12_listsPartitions_11, e17, nt_clamp, nt_le, nt_lt, nt_eq, lit_le, lit_lt, le_lit, lt_lit, eq_lit, lit_eq, nt_neg, nt_ge, nt_add, nt_mul, nt_addl, lit_add, nt_mull, lit_mul, nt_sub, nt_subl, lit_sub, nt_divl, nt_m1, nt_m2, nt_m1', nt_m2', false_or, if_neg, g3' k (by omega)]
          by_cases c : bo n i k < (rw2 (bo n i) k).2
          · rw [if_pos c]
            refine ok_some ?_
            show _ = _
            rw [rw2, if_pos c, Nat.mul_comm (rw2 (bo n i) k).1 10]
          · rw [if_neg c]
            refine ok_some ?_
            show _ = _
            rw [rw2, if_neg c, Nat.mul_comm (rw2 (bo n i) k).1 10]
        · rintro s rfl
          rw [p2]
          simp (disch := omega) only [b_X12_listsPartitions_8, f_X12_listsPartitions_12, e17, g1, nt_clamp, nt_le, nt_lt, nt_eq, lit_le, lit_lt, le_lit, lt_lit, eq_lit, lit_eq, nt_neg, nt_ge, nt_add, nt_mul, nt_addl, lit_add, nt_mull, lit_mul, nt_sub, nt_subl, lit_sub, nt_divl, nt_m1, nt_m2, nt_m1', nt_m2', false_or, if_neg, if_pos, xup_bj]
          have dg : ∀ (X : xI), (∀ c j, ¬ c = 82 → ¬ c = 83 → X c j = I' c j) → f_X12_doesGo (nt i) (nt i) X J = some (bi (go n m w i i), X, J) := by
            intro X hX
            have a17 : X 61 17 = nt n := (hX 61 17 (by omega) (by omega)).trans e17
            have a18 : X 61 18 = nt m := (hX 61 18 (by omega) (by omega)).trans e18
            have a70 : X 70 = I 70 := (funext fun j => hX 70 j (by omega) (by omega)).trans e70
            have a85 : ∀ s, s < 6 → X 85 (6 * i + s) = nt (bo n i s) ∧ bo n i s < 6 := fun s hs => ⟨(hX 85 _ (by omega) (by omega)).trans (g3' s hs), p3 s hs⟩
            exact doesGo_ok hn hm V a17 a18 (by rw [a70]; exact h) (by omega) (by omega) a85 a85
          rw [dg _ (fun c j c1 c2 => by rw [xup_bj _ _ _ _ _ c2, xup_bj _ _ _ _ _ c1]), Option.bind_some]
          have enar : vp_nar .boolean (bi (go n m w i i)) = bi (go n m w i i) := by
            cases go n m w i i with
            | false => exact nar_0
            | true => exact nar_1
          simp (disch := omega) only [f_X12_listsPartitions_13, nt_clamp, nt_le, nt_lt, nt_eq, lit_le, lit_lt, le_lit, lt_lit, eq_lit, lit_eq, nt_neg, nt_ge, nt_add, nt_mul, nt_addl, lit_add, nt_mull, lit_mul, nt_sub, nt_subl, lit_sub, nt_divl, nt_m1, nt_m2, nt_m1', nt_m2', false_or, if_neg, enar, xup_bj, g1]
          rw [Option.map_bind]
          apply ok_bind
          refine (hasNext_ok (n := n) (at0 := 6 * i) (d := bo n i) hn (by omega) ?_ ?_ (by omega) ?_).imp ?_
          · simp (disch := omega) only [xup_bj, xup_j]; exact e17
          · intro s hs
            simp (disch := omega) only [xup_bj]
            exact ⟨g3' s hs, p3 s hs⟩
          · intro hne
            rw [p1] at hne
            by_cases c : i + 1 < (pts n).length
            · omega
            · rw [if_neg c] at hne; exact absurd rfl hne
          · rintro ⟨b, I2, J2⟩ ⟨rfl, b1, b2, b3, b4⟩
            dsimp only at b1 b2 b3 b4 ⊢
            have hb1 : b = bi (decide (i + 1 < (pts n).length)) := by
              rw [b1, p1]
              by_cases c : i + 1 < (pts n).length
              · rw [if_pos c, decide_eq_true c]; rfl
              · rw [if_neg c, decide_eq_false c]; rfl
            refine ok_map (ok_some ?_)
            refine ⟨_, _, _, _, I2, by rw [hb1], ?_, ?_, ?_, ?_⟩
            · rw [b4 61 40 (by omega), xup_at]
            · intro j hj
              have e82 : I2 82 j = if j = i then nt (pnum n i) else I' 82 j := by
                rw [b4 82 j (by omega)]; simp (disch := omega) only [xup_bj, xup_if]
              have e83 : I2 83 j = if j = i then nt (pblk n i) else I' 83 j := by
                rw [b4 83 j (by omega)]; simp (disch := omega) only [xup_bj, xup_if]
              have e84 : I2 84 j = if j = i then bi (go n m w i i) else I' 84 j := by
                rw [b4 84 j (by omega)]; simp (disch := omega) only [xup_bj, xup_if]
              have e85 : ∀ s, s < 6 → I2 85 (6 * j + s) = I' 85 (6 * j + s) := by
                intro s hs
                rw [b3 _ (by omega)]; simp (disch := omega) only [xup_bj]
              by_cases c : j = i
              · rw [e82, e83, e84, if_pos c, if_pos c, if_pos c, c]
                refine ⟨rfl, rfl, rfl, fun s hs => ?_⟩
                have := e85 s hs
                rw [c] at this
                rw [this]; exact g3' s hs
              · have hji := g2 j (by omega)
                rw [e82, e83, e84, if_neg c, if_neg c, if_neg c]
                exact ⟨hji.1, hji.2.1, hji.2.2.1, fun s hs => by rw [e85 s hs]; exact hji.2.2.2 s hs⟩
            · intro hlt s hs
              rw [show 6 * (i + 1) + s = 6 * i + 6 + s from by omega]
              rw [b2 _ (by rw [p1, if_pos hlt]) s hs]
              rw [List.getD_eq_getElem?_getD, List.getElem?_map, List.getElem?_range hs]
              rfl
            · intro c j c1 c2 c3 c4 c5
              rw [b4 c j c4]
              simp (disch := omega) only [xup_no, xup_bj]
              exact g4 c j c1 c2 c3 c4 c5
      · rintro s ⟨z2, z3, z4, z5, I', rfl, g1, g2, g3, g4⟩
        rw [decide_eq_false (by omega)]
        simp only [b_X12_listsPartitions_6, bi_0, if_true, f_X12_listsPartitions_15, Option.map_some]
        exact ok_some ⟨rfl, g1, g2, g4⟩
      · intro _ s hs
        rw [f1 _ (by omega), bo_zero n (by omega) s hs]; rfl
      · intro c j c1 c2 c3 c4 c5
        exact f3 c j c4 c5
