/-! cubes of the reference: heldBy, laysCubes, sumNow -/
def hbd (v c j : Nat) : Bool := al v (fun k => decide (2 ≤ c / 3 ^ k % 3) || decide (c / 3 ^ k % 3 = j / 2 ^ k % 2))
theorem hbd_ok : ∀ v, v < 4 → ∀ c, c < 3 ^ v → ∀ j, j < 8 → (decide (j < 2 ^ v) && hbd v c j) = (hh c).testBit j := by decide +kernel
theorem shb : ∀ j, j < 8 → ∀ k, k < 3 → (nt j >>> (nt k &&& 31)) &&& 1 = nt (j / 2 ^ k % 2) := by decide +kernel
theorem m3 (a : Nat) : a - a / 3 * 3 = a % 3 := by omega
theorem heldBy_ok {v c : Nat} {I : xI} {J : xJ} (hv : v ≤ 3) (hc : c < 3 ^ v) : f_X12_heldBy (nt c) (nt v) I J = some (nt (hh c), I, J) := by
  apply Ok.eq
  have hw := pow3 v (by omega)
  unfold f_X12_heldBy f_X12_heldBy_0 f_X12_heldBy_1
  refine ok_loop (fun j s => ∃ u z1 z2 z3, s = (nt c, nt v, u, nt j, z1, z2, z3, I, J) ∧ ∀ q, q < 32 → bt u q = (decide (q < j) && hbd v c q)) (2 ^ v) ?_ ?_ 5000 0 _ (Nat.zero_le _) (by omega) ⟨0, none, none, none, rfl, fun q hq => bt_zero q⟩
  · rintro j hj s ⟨u, z1, z2, z3, rfl, g1⟩
    simp (disch := omega) only [b_X12_heldBy_1, f_X12_heldBy_2, shl3 v (by omega), nt_clamp, nt_le, nt_lt, nt_eq, lit_le, lit_lt, le_lit, lt_lit, eq_lit, lit_eq, nt_neg, nt_ge, nt_add, nt_mul, nt_addl, lit_add, nt_mull, lit_mul, nt_sub, nt_subl, lit_sub, nt_divl, nt_m1, nt_m2, nt_m1', nt_m2', if_neg]
    unfold f_X12_heldBy_3
    refine ok_loop (fun k s => s = (nt c, nt v, u, nt j, nt (c / 3 ^ k), bi (al k (fun k => decide (2 ≤ c / 3 ^ k % 3) || decide (c / 3 ^ k % 3 = j / 2 ^ k % 2))), nt k, I, J)) v ?_ ?_ 5000 0 _ (by omega) (by omega) ?_
    · rintro k hk s rfl
      have hd : c / 3 ^ k ≤ c := Nat.div_le_self _ _
      have hd3 : c / 3 ^ (k + 1) = c / 3 ^ k / 3 := by rw [Nat.pow_succ, Nat.div_div_eq_div_mul]
      have hj2 : j / 2 ^ k % 2 < 2 := Nat.mod_lt _ (by omega)
      have hal : al (k + 1) (fun k => decide (2 ≤ c / 3 ^ k % 3) || decide (c / 3 ^ k % 3 = j / 2 ^ k % 2)) = (al k (fun k => decide (2 ≤ c / 3 ^ k % 3) || decide (c / 3 ^ k % 3 = j / 2 ^ k % 2)) && (decide (2 ≤ c / 3 ^ k % 3) || decide (c / 3 ^ k % 3 = j / 2 ^ k % 2))) := rfl
      have hsb := shb j (by omega) k (by omega)
      rw [hd3, hal]
      generalize c / 3 ^ k = u3 at *
      generalize j / 2 ^ k % 2 = jb at *
      have hu3 : u3 / 3 * 3 ≤ u3 := Nat.div_mul_le_self _ _
      simp (disch := omega) only [b_X12_heldBy_3, f_X12_heldBy_4, f_X12_heldBy_5, f_X12_heldBy_6, f_X12_heldBy_7, hsb, nt_clamp, nt_le, nt_lt, nt_eq, lit_le, lit_lt, le_lit, lt_lit, eq_lit, lit_eq, nt_neg, nt_ge, nt_add, nt_mul, nt_addl, lit_add, nt_mull, lit_mul, nt_sub, nt_subl, lit_sub, nt_divl, nt_m1, nt_m2, nt_m1', nt_m2', if_neg, m3]
      by_cases c1 : 2 ≤ u3 % 3
      · rw [if_pos c1, decide_eq_true c1, Bool.true_or, Bool.and_true]
        exact ok_some rfl
      · rw [if_neg c1, decide_eq_false c1, Bool.false_or]
        by_cases c2 : u3 % 3 = jb
        · rw [if_pos c2, decide_eq_true c2, Bool.and_true]
          exact ok_some rfl
        · rw [if_neg c2, decide_eq_false c2, Bool.and_false]
          exact ok_some rfl
    · rintro s rfl
      simp (disch := omega) only [b_X12_heldBy_3, f_X12_heldBy_8, f_X12_heldBy_9, f_X12_heldBy_10, bi_0, nt_31, nt_clamp, nt_le, nt_lt, nt_eq, lit_le, lit_lt, le_lit, lt_lit, eq_lit, lit_eq, nt_neg, nt_ge, nt_add, nt_mul, nt_addl, lit_add, nt_mull, lit_mul, nt_sub, nt_subl, lit_sub, nt_divl, nt_m1, nt_m2, nt_m1', nt_m2', if_pos]
      have hst : ∀ q, q < 32 → (decide (q < j + 1) && hbd v c q) = ((decide (q < j) && hbd v c q) || (decide (q = j) && hbd v c j)) := by
        intro q hq
        by_cases e : q = j
        · subst e
          rw [decide_eq_true (show q < q + 1 from by omega), decide_eq_false (show ¬ q < q from by omega), decide_eq_true rfl]; rfl
        · rw [decide_eq_false e, Bool.false_and, Bool.or_false]
          by_cases e2 : q < j
          · rw [decide_eq_true e2, decide_eq_true (by omega)]
          · rw [decide_eq_false e2, decide_eq_false (by omega)]
      have hdef : al v (fun k => decide (2 ≤ c / 3 ^ k % 3) || decide (c / 3 ^ k % 3 = j / 2 ^ k % 2)) = hbd v c j := rfl
      rw [hdef]
      cases e : hbd v c j with
      | false =>
        rw [if_pos rfl]
        refine ok_some ⟨u, _, _, _, rfl, ?_⟩
        intro q hq
        rw [hst q hq, g1 q hq, e, Bool.and_false, Bool.or_false]
      | true =>
        rw [if_neg (by decide)]
        refine ok_some ⟨_, _, _, _, rfl, ?_⟩
        intro q hq
        rw [hst q hq, bt_or, g1 q hq, one_shl (by omega) hq, e, Bool.and_true]
    · show _ = (nt c, nt v, u, nt j, nt (c / 3 ^ 0), bi true, nt 0, I, J)
      rw [Nat.pow_zero, Nat.div_one]; rfl
  · rintro s ⟨u, z1, z2, z3, rfl, g1⟩
    simp (disch := omega) only [b_X12_heldBy_1, f_X12_heldBy_11, shl3 v (by omega), nt_clamp, nt_le, nt_lt, nt_eq, lit_le, lit_lt, le_lit, lt_lit, eq_lit, lit_eq, nt_neg, nt_ge, nt_add, nt_mul, nt_addl, lit_add, nt_mull, lit_mul, nt_sub, nt_subl, lit_sub, nt_divl, nt_m1, nt_m2, nt_m1', nt_m2', if_true, if_false, if_pos, if_neg, e01, e10, em12, em21, e0m1, e0m2, e1m1, e1m2, em10, em20, Int32.reduceLT, Int32.reduceLE, eq_self, Option.bind_some, Option.map_some, false_or, or_false, or_self, true_or, or_true, not_true_eq_false, not_false_eq_true, false_and, and_false, true_and, and_true]
    refine ok_some ?_
    show (u, I, J) = _
    have : u = nt (hh c) := by
      apply bt_ext
      intro q hq
      rw [g1 q hq, bt_nt, decide_eq_true hq, Bool.true_and]
      by_cases c8 : q < 8
      · exact hbd_ok v (by omega) c hc q c8
      · rw [tb_hi (hh_lt c (by omega)) (by omega), decide_eq_false (by omega)]; rfl
    rw [this]
theorem rproper_ok {n m : Nat} {w : aT} {I : xI} {J : xJ} (hn : n ≤ 6) (V : Vd n m w) (h0 : I 61 17 = nt n) (h : rMa n m w (I 70) 0) : f_X12_isProper I J = some (bi (pro n w.2.2), I, J) := by
  apply Ok.eq
  have hb3 := nb_le n
  have hp2 := nb_pow n (by omega)
  have cof : ∀ s, s < n → f_X12_codeOf (nt s) I J = some (nt (w.2.2 s), I, J) := by
    intro s hs
    have := h.2.2 s hs
    rw [Nat.zero_add] at this
    simp (disch := omega) only [f_X12_codeOf_0, f_X12_codeOf, nt_clamp, nt_le, nt_lt, nt_eq, lit_le, lit_lt, le_lit, lt_lit, eq_lit, lit_eq, nt_neg, nt_ge, nt_add, nt_mul, nt_addl, lit_add, nt_mull, lit_mul, nt_sub, nt_subl, lit_sub, nt_divl, nt_m1, nt_m2, nt_m1', nt_m2', false_or, if_neg, this]
  unfold f_X12_isProper f_X12_isProper_0 f_X12_isProper_1
  refine ok_loop (fun a s => ∃ z, s = (nt a, z, I, J) ∧ al a (fun a => decide (w.2.2 a < 2 ^ nb n) && al a (fun b => !decide (w.2.2 a = w.2.2 b))) = true) n ?_ ?_ 5000 0 _ (by omega) (by omega) ⟨none, rfl, rfl⟩
  · rintro a ha s ⟨z, rfl, g1⟩
    have h8 := V.2.2 a
    simp (disch := omega) only [b_X12_isProper_1, f_X12_isProper_2, f_X12_isProper_3, f_X12_isProper_4, h0, cof a ha, rbits_ok hn h0, shl3 (nb n) (by omega), Option.bind_some, nt_clamp, nt_le, nt_lt, nt_eq, lit_le, lit_lt, le_lit, lt_lit, eq_lit, lit_eq, nt_neg, nt_ge, nt_add, nt_mul, nt_addl, lit_add, nt_mull, lit_mul, nt_sub, nt_subl, lit_sub, nt_divl, nt_m1, nt_m2, nt_m1', nt_m2', if_neg]
    by_cases c1 : w.2.2 a < 2 ^ nb n
    · rw [if_pos c1]
      unfold f_X12_isProper_6 f_X12_isProper_7
      refine ok_loop (fun b s => s = (nt a, nt b, I, J) ∧ al b (fun b => !decide (w.2.2 a = w.2.2 b)) = true) a ?_ ?_ 5000 0 _ (by omega) (by omega) ⟨rfl, rfl⟩
      · rintro b hb s ⟨rfl, g2⟩
        have h8b := V.2.2 b
        simp (disch := omega) only [b_X12_isProper_7, f_X12_isProper_8, f_X12_isProper_9, f_X12_isProper_10, f_X12_isProper_12, cof a ha, cof b (by omega), Option.bind_some, nt_clamp, nt_le, nt_lt, nt_eq, lit_le, lit_lt, le_lit, lt_lit, eq_lit, lit_eq, nt_neg, nt_ge, nt_add, nt_mul, nt_addl, lit_add, nt_mull, lit_mul, nt_sub, nt_subl, lit_sub, nt_divl, nt_m1, nt_m2, nt_m1', nt_m2', if_neg]
        by_cases c2 : w.2.2 a = w.2.2 b
        · rw [if_pos c2]
          refine ok_some ?_
          show ((0 : Int32), I, J) = _
          have : pro n w.2.2 = false := al_false ha (by rw [al_false hb (by rw [decide_eq_true c2]; rfl), Bool.and_false])
          rw [this]; rfl
        · rw [if_neg c2]
          refine ok_some ⟨rfl, ?_⟩
          rw [al, g2, decide_eq_false c2]; rfl
      · rintro s ⟨rfl, g2⟩
        simp (disch := omega) only [b_X12_isProper_7, f_X12_isProper_13, nt_clamp, nt_le, nt_lt, nt_eq, lit_le, lit_lt, le_lit, lt_lit, eq_lit, lit_eq, nt_neg, nt_ge, nt_add, nt_mul, nt_addl, lit_add, nt_mull, lit_mul, nt_sub, nt_subl, lit_sub, nt_divl, nt_m1, nt_m2, nt_m1', nt_m2', if_true, if_false, if_pos, if_neg, e01, e10, em12, em21, e0m1, e0m2, e1m1, e1m2, em10, em20, Int32.reduceLT, Int32.reduceLE, eq_self, Option.bind_some, Option.map_some, false_or, or_false, or_self, true_or, or_true, not_true_eq_false, not_false_eq_true, false_and, and_false, true_and, and_true]
        refine ok_some ⟨_, rfl, ?_⟩
        rw [al, g1, decide_eq_true c1, g2]; rfl
    · rw [if_neg c1]
      refine ok_some ?_
      show ((0 : Int32), I, J) = _
      have : pro n w.2.2 = false := al_false ha (by rw [decide_eq_false c1]; rfl)
      rw [this]; rfl
  · rintro s ⟨z, rfl, g1⟩
    simp (disch := omega) only [b_X12_isProper_1, f_X12_isProper_14, h0, nt_clamp, nt_le, nt_lt, nt_eq, lit_le, lit_lt, le_lit, lt_lit, eq_lit, lit_eq, nt_neg, nt_ge, nt_add, nt_mul, nt_addl, lit_add, nt_mull, lit_mul, nt_sub, nt_subl, lit_sub, nt_divl, nt_m1, nt_m2, nt_m1', nt_m2', if_true, if_false, if_pos, if_neg, e01, e10, em12, em21, e0m1, e0m2, e1m1, e1m2, em10, em20, Int32.reduceLT, Int32.reduceLE, eq_self, Option.bind_some, Option.map_some, false_or, or_false, or_self, true_or, or_true, not_true_eq_false, not_false_eq_true, false_and, and_false, true_and, and_true]
    refine ok_some ?_
    show ((1 : Int32), I, J) = _
    rw [show pro n w.2.2 = true from g1]; rfl
/-- the cells of the reference's cubes -/
def cReg (a j : Nat) : Prop := a = 80 ∨ a = 86 ∨ (88 ≤ a ∧ a ≤ 91) ∨ (a = 61 ∧ (j = 48 ∨ j = 49 ∨ j = 52 ∨ j = 54))
theorem sumNow_ok {n m : Nat} {w : aT} {c : Nat → Nat} {I : xI} {J : xJ} (hn : n ≤ 6) (hm : m ≤ 4) (V : Vd n m w) (h0 : I 61 17 = nt n) (h1 : I 61 18 = nt m) (h : rMa n m w (I 70) 0) (hc : ∀ s, s < n → I 86 s = nt (c s) ∧ c s < 8) (hi : inj6 c n) (hT : rT I) (hK : rK I) : Ok (f_X12_sumNow I J) (fun o => o.2.2 = J ∧ o.1 = nt (smT w c n m (nb n)) ∧ rK o.2.1 ∧ ∀ a j, ¬ (a = 88 ∨ a = 89 ∨ (a = 61 ∧ (j = 48 ∨ j = 49))) → o.2.1 a j = I a j) := by
  have hb3 := nb_le n
  have hx32 : ∀ b, ssum m (fun x => cmu w c n x b) ≤ m * 8 := fun b => ssum_le (fun x => cmu_8 w c n x b) m
  have hmx : ∀ b, b ≤ nb n → ssum b (fun b => ssum m (fun x => cmu w c n x b)) ≤ 96 := fun b hb => Nat.le_trans (ssum_le hx32 b) (Nat.le_trans (Nat.mul_le_mul (Nat.le_trans hb hb3) (Nat.mul_le_mul hm (Nat.le_refl _))) (by omega))
  have hsw : smT w c n m (nb n) = ssum (nb n) (fun b => ssum m (fun x => cmu w c n x b)) := (ssum_comm (fun x b => cmu w c n x b) m (nb n)).symm
  have fr_ok : ∀ I' : xI, (∀ a j, ¬ (a = 88 ∨ a = 89 ∨ (a = 61 ∧ (j = 48 ∨ j = 49))) → I' a j = I a j) → I' 61 17 = nt n ∧ I' 61 18 = nt m ∧ rMa n m w (I' 70) 0 ∧ (∀ s, s < n → I' 86 s = nt (c s) ∧ c s < 8) ∧ rT I' := by
    intro I' hf
    refine ⟨(hf 61 17 (by omega)).trans h0, (hf 61 18 (by omega)).trans h1, ?_, fun s hs => ⟨(hf 86 s (by omega)).trans (hc s hs).1, (hc s hs).2⟩, fun c hc => (hf 87 c (by omega)).trans (hT c hc)⟩
    rw [show I' 70 = I 70 from funext fun j => hf 70 j (by omega)]; exact h
  unfold f_X12_sumNow f_X12_sumNow_0 f_X12_sumNow_1
  refine ok_loop (fun b s => ∃ z I', s = (nt (ssum b (fun b => ssum m (fun x => cmu w c n x b))), nt b, z, I', J) ∧ rK I' ∧ ∀ a j, ¬ (a = 88 ∨ a = 89 ∨ (a = 61 ∧ (j = 48 ∨ j = 49))) → I' a j = I a j) (nb n) ?_ ?_ 5000 0 _ (by omega) (by omega) ⟨none, I, rfl, hK, fun _ _ _ => rfl⟩
  · rintro b hb s ⟨z, I', rfl, g1, g2⟩
    obtain ⟨f0, f1, f2, f3, f4⟩ := fr_ok I' g2
    simp (disch := omega) only [b_X12_sumNow_1, f_X12_sumNow_2, f_X12_sumNow_3, rbits_ok hn f0, Option.bind_some, nt_clamp, nt_le, nt_lt, nt_eq, lit_le, lit_lt, le_lit, lt_lit, eq_lit, lit_eq, nt_neg, nt_ge, nt_add, nt_mul, nt_addl, lit_add, nt_mull, lit_mul, nt_sub, nt_subl, lit_sub, nt_divl, nt_m1, nt_m2, nt_m1', nt_m2', if_neg]
    unfold f_X12_sumNow_4
    have hbm := hmx b (by omega)
    refine ok_loop (fun x s => ∃ I', s = (nt (ssum b (fun b => ssum m (fun x => cmu w c n x b)) + ssum x (fun x => cmu w c n x b)), nt b, nt x, I', J) ∧ rK I' ∧ ∀ a j, ¬ (a = 88 ∨ a = 89 ∨ (a = 61 ∧ (j = 48 ∨ j = 49))) → I' a j = I a j) m ?_ ?_ 5000 0 _ (by omega) (by omega) ⟨I', rfl, g1, g2⟩
    · rintro x hx s ⟨I2, rfl, k1, k2⟩
      obtain ⟨q0, q1, q2, q3, q4⟩ := fr_ok I2 k2
      simp (disch := omega) only [b_X12_sumNow_4, f_X12_sumNow_5, q1, nt_clamp, nt_le, nt_lt, nt_eq, lit_le, lit_lt, le_lit, lt_lit, eq_lit, lit_eq, nt_neg, nt_ge, nt_add, nt_mul, nt_addl, lit_add, nt_mull, lit_mul, nt_sub, nt_subl, lit_sub, nt_divl, nt_m1, nt_m2, nt_m1', nt_m2', if_neg]
      apply ok_bind
      refine (laysCodes_ok hn hm V q0 q2 q3 hx (show b < 3 from by omega)).imp ?_
      rintro ⟨_, I3, J3⟩ ⟨rfl, a1, a2, a3⟩
      dsimp only at a1 a2 a3 ⊢
      unfold f_X12_sumNow_6
      apply ok_bind
      refine (howFew_ok (onS_lt _ _ _ _ _) (ofS_lt _ _ _ _ _) (onof hi) a1 a2 (fun c hc => (a3 87 c (by omega)).trans (q4 c hc)) (by intro R O r1 r2 r3; rw [a3 88 _ (by omega)]; exact k1 R O r1 r2 r3)).imp ?_
      rintro ⟨_, I4, J4⟩ ⟨rfl, rfl, b1, b2⟩
      dsimp only at b1 b2 ⊢
      simp only [f_X12_sumNow_7, nt_add, nt_addl]
      refine ok_some ⟨I4, ?_, b1, ?_⟩
      · rw [Nat.add_assoc]; rfl
      · intro a j hr
        exact ((b2 a j (by omega) (by omega)).trans (a3 a j (by omega))).trans (k2 a j hr)
    · rintro s ⟨I2, rfl, k1, k2⟩
      obtain ⟨q0, q1, q2, q3, q4⟩ := fr_ok I2 k2
      simp (disch := omega) only [b_X12_sumNow_4, f_X12_sumNow_8, q1, nt_clamp, nt_le, nt_lt, nt_eq, lit_le, lit_lt, le_lit, lt_lit, eq_lit, lit_eq, nt_neg, nt_ge, nt_add, nt_mul, nt_addl, lit_add, nt_mull, lit_mul, nt_sub, nt_subl, lit_sub, nt_divl, nt_m1, nt_m2, nt_m1', nt_m2', if_true, if_false, if_pos, if_neg, e01, e10, em12, em21, e0m1, e0m2, e1m1, e1m2, em10, em20, Int32.reduceLT, Int32.reduceLE, eq_self, Option.bind_some, Option.map_some, false_or, or_false, or_self, true_or, or_true, not_true_eq_false, not_false_eq_true, false_and, and_false, true_and, and_true]
      exact ok_some ⟨_, I2, rfl, k1, k2⟩
  · rintro s ⟨z, I', rfl, g1, g2⟩
    obtain ⟨f0, f1, f2, f3, f4⟩ := fr_ok I' g2
    simp (disch := omega) only [b_X12_sumNow_1, f_X12_sumNow_2, f_X12_sumNow_9, rbits_ok hn f0, Option.bind_some, nt_clamp, nt_le, nt_lt, nt_eq, lit_le, lit_lt, le_lit, lt_lit, eq_lit, lit_eq, nt_neg, nt_ge, nt_add, nt_mul, nt_addl, lit_add, nt_mull, lit_mul, nt_sub, nt_subl, lit_sub, nt_divl, nt_m1, nt_m2, nt_m1', nt_m2', if_true, if_false, if_pos, if_neg, e01, e10, em12, em21, e0m1, e0m2, e1m1, e1m2, em10, em20, Int32.reduceLT, Int32.reduceLE, eq_self, Option.bind_some, Option.map_some, false_or, or_false, or_self, true_or, or_true, not_true_eq_false, not_false_eq_true, false_and, and_false, true_and, and_true]
    exact ok_some ⟨rfl, by rw [hsw], g1, g2⟩
theorem rsum_ok {n m : Nat} {w : aT} {I : xI} {J : xJ} (hn : n ≤ 6) (hm : m ≤ 4) (V : Vd n m w) (h0 : I 61 17 = nt n) (h1 : I 61 18 = nt m) (h : rMa n m w (I 70) 0) (hT : rT I) (hK : rK I) : Ok (f_X12_sum I J) (fun o => o.2.2 = J ∧ o.1 = sumR n m w ∧ rK o.2.1 ∧ ∀ a j, ¬ cReg a j → o.2.1 a j = I a j) := by
  simp only [f_X12_sum, f_X12_sum_0, rproper_ok hn V h0 h, Option.bind_some, f_X12_sum_1, bi_0]
  unfold sumR
  cases c3 : pro n w.2.2 with
  | false =>
    simp only [eq_self, Bool.true_eq_false, Bool.false_eq_true, if_true, if_false, and_self, and_false, false_and, true_and, and_true]
    exact ok_some ⟨rfl, rfl, hK, fun _ _ _ => rfl⟩
  | true =>
    simp only [eq_self, Bool.true_eq_false, Bool.false_eq_true, if_true, if_false, and_self, and_false, false_and, true_and, and_true]
    unfold f_X12_sum_3
    apply ok_bind
    refine asThey_ok.imp ?_
    rintro ⟨_, I1, J1⟩ ⟨rfl, a1, a2⟩
    dsimp only at a1 a2 ⊢
    have e70 : I1 70 = I 70 := funext fun j => a2 70 j (by omega)
    unfold f_X12_sum_4
    apply ok_bind
    refine (sumNow_ok (c := w.2.2) hn hm V ((a2 61 17 (by omega)).trans h0) ((a2 61 18 (by omega)).trans h1) (by rw [e70]; exact h) (fun s hs => ⟨by rw [a1 s (by omega)]; have := h.2.2 s hs; rwa [Nat.zero_add] at this, V.2.2 s⟩) (pro_iff.mp c3).1 (fun c hc => (a2 87 c (by omega)).trans (hT c hc)) (by intro R O r1 r2 r3; rw [a2 88 _ (by omega)]; exact hK R O r1 r2 r3)).imp ?_
    rintro ⟨_, I2, J2⟩ ⟨rfl, rfl, b1, b2⟩
    dsimp only at b1 b2 ⊢
    refine ok_some ⟨rfl, rfl, b1, ?_⟩
    intro a j hr
    unfold cReg at hr
    exact (b2 a j (by omega)).trans (a2 a j (by omega))
/-- a row as a number, by a base -/
def vlb (B : Nat) (k : Nat) (p : Nat → Nat) : Nat := match k with
  | 0 => 0
  | k + 1 => vlb B k p * B + p k
theorem vlb_congr {B k : Nat} {p q : Nat → Nat} (h : ∀ i, i < k → p i = q i) : vlb B k p = vlb B k q := by
  induction k with
  | zero => rfl
  | succ k ih => unfold vlb; rw [ih (fun i hi => h i (by omega)), h k (by omega)]
theorem vlb_lt {B k : Nat} {p q : Nat → Nat} (hp : ∀ i, i < k → p i < B) (h : lx k p q) : vlb B k p < vlb B k q := by
  induction k with
  | zero => obtain ⟨i, hi, _⟩ := h; omega
  | succ k ih =>
    obtain ⟨i, hi, h1, h2⟩ := h
    unfold vlb
    have := hp k (by omega)
    by_cases c : i = k
    · subst c
      rw [vlb_congr h2]; omega
    · have := ih (fun i hi => hp i (by omega)) ⟨i, by omega, h1, h2⟩
      have h3 : (vlb B k p + 1) * B ≤ vlb B k q * B := Nat.mul_le_mul this (Nat.le_refl _)
      rw [Nat.succ_mul] at h3
      omega
theorem vlb_max {B k : Nat} {p : Nat → Nat} (hp : ∀ i, i < k → p i < B) : vlb B k p < B ^ k := by
  induction k with
  | zero => exact Nat.zero_lt_one
  | succ k ih =>
    unfold vlb
    have h1 := ih (fun i hi => hp i (by omega))
    have h2 := hp k (by omega)
    have h3 : (vlb B k p + 1) * B ≤ B ^ k * B := Nat.mul_le_mul h1 (Nat.le_refl _)
    rw [Nat.succ_mul] at h3
    rw [Nat.pow_succ]
    omega
