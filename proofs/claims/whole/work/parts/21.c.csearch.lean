/-! the best codes: the class's search -/
theorem bit57 {b : Nat} {x : Int32} {k : Nat} (hb : b < 3) (h : x = nt k) : (x >>> (nt b &&& 31)) &&& 1 = bi (k.testBit b) := by
  rw [nt_31 b (by omega), has_bi (by omega), h, bt_nt, decide_eq_true (by omega), Bool.true_and]
theorem isFirst_ok {b k : Nat} {c : Nat → Nat} {I : xI} {J : xJ} (hb : b < 3) (hb0 : 0 < b) (hk : k ≤ 6) (hc : ∀ s, s < k → I 57 s = nt (c s)) : Ok (f_X0_isFirstIn (nt b) (nt (b - 1)) (nt k) I J) (fun o => o.2 = (I, J) ∧ ((o.1 = 1 ∧ FI k c b) ∨ (o.1 = 0 ∧ ¬ FI k c b))) := by
  unfold f_X0_isFirstIn f_X0_isFirstIn_0 f_X0_isFirstIn_1
  refine ok_loop (fun i s => ∃ z1 z2, s = (nt b, nt (b - 1), nt k, nt i, z1, z2, I, J) ∧ ∀ j, j < i → (c j).testBit b = (c j).testBit (b - 1)) k ?_ ?_ 5000 0 _ (by omega) (by omega) ⟨none, none, rfl, fun j hj => absurd hj (by omega)⟩
  · rintro i hi s ⟨z1, z2, rfl, g⟩
    have e1 := bit57 hb (hc i hi)
    have e2 := bit57 (show b - 1 < 3 from by omega) (hc i hi)
    simp (disch := omega) only [b_X0_isFirstIn_1, f_X0_isFirstIn_2, nt_clamp, nt_le, nt_lt, nt_eq, lit_le, lit_lt, le_lit, lt_lit, eq_lit, lit_eq, nt_neg, nt_ge, nt_add, nt_mul, nt_addl, lit_add, nt_mull, lit_mul, nt_sub, nt_subl, lit_sub, nt_divl, nt_m1, nt_m2, nt_m1', nt_m2', false_or, if_neg, e1, e2]
    cases e3 : (c i).testBit b with
    | false =>
      cases e4 : (c i).testBit (b - 1) with
      | false =>
        rw [if_pos rfl]
        simp only [f_X0_isFirstIn_7, nt_addl]
        refine ok_some ⟨_, _, rfl, ?_⟩
        intro j hj
        by_cases e : j = i
        · rw [e, e3, e4]
        · exact g j (by omega)
      | true =>
        rw [if_neg (by decide)]
        simp only [f_X0_isFirstIn_3, f_X0_isFirstIn_5, f_X0_isFirstIn_6, bi_1, eq_self, Bool.true_eq_false, Bool.false_eq_true, if_true, if_false, and_self, and_false, false_and, true_and, and_true, if_true, if_false, if_pos, if_neg, e01, e10, em12, em21, e0m1, e0m2, e1m1, e1m2, em10, em20, Int32.reduceLT, Int32.reduceLE, eq_self, Option.bind_some, Option.map_some, false_or, or_false, or_self, true_or, or_true, not_true_eq_false, not_false_eq_true, false_and, and_false, true_and, and_true]
        refine ok_some ⟨rfl, Or.inr ⟨rfl, ?_⟩⟩
        rintro ⟨s, h1, h2, h3, h4⟩
        rcases Nat.lt_trichotomy s i with q | q | q
        · have := g s q
          rw [h2, h3] at this; cases this
        · rw [q, e3] at h2; cases h2
        · have := h4 i q
          rw [e3, e4] at this; cases this
    | true =>
      cases e4 : (c i).testBit (b - 1) with
      | true =>
        rw [if_pos rfl]
        simp only [f_X0_isFirstIn_7, nt_addl]
        refine ok_some ⟨_, _, rfl, ?_⟩
        intro j hj
        by_cases e : j = i
        · rw [e, e3, e4]
        · exact g j (by omega)
      | false =>
        rw [if_neg (by decide)]
        simp only [f_X0_isFirstIn_3, f_X0_isFirstIn_4, f_X0_isFirstIn_6, bi_1, eq_self, Bool.true_eq_false, Bool.false_eq_true, if_true, if_false, and_self, and_false, false_and, true_and, and_true, if_true, if_false, if_pos, if_neg, e01, e10, em12, em21, e0m1, e0m2, e1m1, e1m2, em10, em20, Int32.reduceLT, Int32.reduceLE, eq_self, Option.bind_some, Option.map_some, false_or, or_false, or_self, true_or, or_true, not_true_eq_false, not_false_eq_true, false_and, and_false, true_and, and_true]
        exact ok_some ⟨rfl, Or.inl ⟨rfl, i, hi, e3, e4, g⟩⟩
  · rintro s ⟨z1, z2, rfl, g⟩
    simp (disch := omega) only [b_X0_isFirstIn_1, f_X0_isFirstIn_8, nt_clamp, nt_le, nt_lt, nt_eq, lit_le, lit_lt, le_lit, lt_lit, eq_lit, lit_eq, nt_neg, nt_ge, nt_add, nt_mul, nt_addl, lit_add, nt_mull, lit_mul, nt_sub, nt_subl, lit_sub, nt_divl, nt_m1, nt_m2, nt_m1', nt_m2', if_true, if_false, if_pos, if_neg, e01, e10, em12, em21, e0m1, e0m2, e1m1, e1m2, em10, em20, Int32.reduceLT, Int32.reduceLE, eq_self, Option.bind_some, Option.map_some, false_or, or_false, or_self, true_or, or_true, not_true_eq_false, not_false_eq_true, false_and, and_false, true_and, and_true]
    refine ok_some ⟨rfl, Or.inr ⟨rfl, ?_⟩⟩
    rintro ⟨s, h1, h2, h3, h4⟩
    have := g s h1
    rw [h2, h3] at this; cases this
theorem inOrder_ok {n k : Nat} {c : Nat → Nat} {I : xI} {J : xJ} (hn : n ≤ 6) (h10 : I 1 0 = nt n) (hk : k ≤ 6) (hc : ∀ s, s < k → I 57 s = nt (c s)) : Ok (f_X0_areBitsInOrder (nt k) I J) (fun o => o.2 = (I, J) ∧ ((o.1 = 1 ∧ ∀ b, 0 < b → b < nb n → ¬ FI k c b) ∨ (o.1 = 0 ∧ ∃ b, 0 < b ∧ b < nb n ∧ FI k c b))) := by
  have hb3 := nb_le n
  unfold f_X0_areBitsInOrder f_X0_areBitsInOrder_0 f_X0_areBitsInOrder_1
  refine ok_loop (fun i s => s = (nt k, nt (i + 1), I, J) ∧ ∀ b, 0 < b → b < i + 1 → ¬ FI k c b) (nb n - 1) ?_ ?_ 5000 0 _ (by omega) (by omega) ⟨rfl, fun b h1 h2 => by omega⟩
  · rintro i hi s ⟨rfl, g⟩
    simp (disch := omega) only [b_X0_areBitsInOrder_1, cbits_ok hn h10, Option.bind_some, f_X0_areBitsInOrder_2, f_X0_areBitsInOrder_3, nt_clamp, nt_le, nt_lt, nt_eq, lit_le, lit_lt, le_lit, lt_lit, eq_lit, lit_eq, nt_neg, nt_ge, nt_add, nt_mul, nt_addl, lit_add, nt_mull, lit_mul, nt_sub, nt_subl, lit_sub, nt_divl, nt_m1, nt_m2, nt_m1', nt_m2', if_neg]
    apply ok_bind
    refine (isFirst_ok (b := i + 1) (by omega) (by omega) hk hc).imp ?_
    rintro ⟨v, o⟩ ⟨e, h⟩
    dsimp only at e h ⊢
    subst e
    rcases h with ⟨rfl, hf⟩ | ⟨rfl, hf⟩
    · simp only [f_X0_areBitsInOrder_4, f_X0_areBitsInOrder_5, if_true, if_false, if_pos, if_neg, e01, e10, em12, em21, e0m1, e0m2, e1m1, e1m2, em10, em20, Int32.reduceLT, Int32.reduceLE, eq_self, Option.bind_some, Option.map_some, false_or, or_false, or_self, true_or, or_true, not_true_eq_false, not_false_eq_true, false_and, and_false, true_and, and_true]
      exact ok_some ⟨rfl, Or.inr ⟨rfl, i + 1, by omega, by omega, hf⟩⟩
    · simp only [f_X0_areBitsInOrder_4, f_X0_areBitsInOrder_6, if_true, nt_addl]
      refine ok_some ⟨rfl, ?_⟩
      intro b h1 h2
      by_cases e : b = i + 1
      · rw [e]; exact hf
      · exact g b h1 (by omega)
  · rintro s ⟨rfl, g⟩
    simp (disch := omega) only [b_X0_areBitsInOrder_1, cbits_ok hn h10, Option.bind_some, f_X0_areBitsInOrder_2, f_X0_areBitsInOrder_7, nt_clamp, nt_le, nt_lt, nt_eq, lit_le, lit_lt, le_lit, lt_lit, eq_lit, lit_eq, nt_neg, nt_ge, nt_add, nt_mul, nt_addl, lit_add, nt_mull, lit_mul, nt_sub, nt_subl, lit_sub, nt_divl, nt_m1, nt_m2, nt_m1', nt_m2', if_pos, Option.map_some]
    exact ok_some ⟨rfl, Or.inl ⟨rfl, fun b h1 h2 => g b h1 (by omega)⟩⟩
theorem canBe_ok {n m k y lim : Nat} {w : aT} {c : Nat → Nat} {I : xI} {J : xJ} (hn : n ≤ 6) (hm : m ≤ 4) (V : Vd n m w) (hx : bCx n m w I) (hM : mK I) (hy : y < 2) (hk : k ≤ n) (hc : ∀ s, s < k → I 57 s = nt (c s) ∧ c s < 8) (hi : inj6 c k) (hl : lim ≤ 1000) (h59 : I 59 y = nt lim) : Ok (f_X0_canBeLess (nt y) (nt k) I J) (fun o => o.2.2 = J ∧ mK o.2.1 ∧ (∀ a j, ¬ zReg a j → o.2.1 a j = I a j) ∧ (o.1 = 1 ∨ (o.1 = 0 ∧ y = 1 ∧ lim ≤ smT w c k m (nb n)))) := by
  rcases (show y = 0 ∨ y = 1 from by omega) with rfl | rfl
  · simp (disch := omega) only [f_X0_canBeLess, f_X0_canBeLess_0, f_X0_canBeLess_3, f_X0_canBeLess_5, nt_clamp, nt_le, nt_lt, nt_eq, lit_le, lit_lt, le_lit, lt_lit, eq_lit, lit_eq, nt_neg, nt_ge, nt_add, nt_mul, nt_addl, lit_add, nt_mull, lit_mul, nt_sub, nt_subl, lit_sub, nt_divl, nt_m1, nt_m2, nt_m1', nt_m2', if_true, if_false, if_pos, if_neg, e01, e10, em12, em21, e0m1, e0m2, e1m1, e1m2, em10, em20, Int32.reduceLT, Int32.reduceLE, eq_self, Option.bind_some, Option.map_some, false_or, or_false, or_self, true_or, or_true, not_true_eq_false, not_false_eq_true, false_and, and_false, true_and, and_true]
    exact ok_some ⟨rfl, hM, fun _ _ _ => rfl, Or.inl rfl⟩
  · simp (disch := omega) only [f_X0_canBeLess, f_X0_canBeLess_0, f_X0_canBeLess_1, nt_clamp, nt_le, nt_lt, nt_eq, lit_le, lit_lt, le_lit, lt_lit, eq_lit, lit_eq, nt_neg, nt_ge, nt_add, nt_mul, nt_addl, lit_add, nt_mull, lit_mul, nt_sub, nt_subl, lit_sub, nt_divl, nt_m1, nt_m2, nt_m1', nt_m2', false_or, if_neg, h59]
    apply ok_bind
    refine (total57_ok hn hm V hx.1 hk hc hi hl hx.2.2 hM).imp ?_
    rintro ⟨_, I1, J1⟩ ⟨rfl, ⟨T, rfl, t1, t2⟩, b1, b2⟩
    dsimp only at b1 b2 ⊢
    have hb3 := nb_le n
    have hT : T < 2000 := by
      have h1 := smT_le w c k m (nb n)
      have h2 : m * (nb n * 8) ≤ 4 * (3 * 8) := Nat.mul_le_mul hm (Nat.mul_le_mul hb3 (Nat.le_refl _))
      omega
    have g59 : I1 59 1 = nt lim := (b2 59 1 (by unfold zReg; omega)).trans h59
    simp (disch := omega) only [f_X0_canBeLess_2, nt_clamp, nt_le, nt_lt, nt_eq, lit_le, lit_lt, le_lit, lt_lit, eq_lit, lit_eq, nt_neg, nt_ge, nt_add, nt_mul, nt_addl, lit_add, nt_mull, lit_mul, nt_sub, nt_subl, lit_sub, nt_divl, nt_m1, nt_m2, nt_m1', nt_m2', false_or, if_neg, g59]
    by_cases q : lim ≤ T
    · rw [if_pos q]
      simp only [f_X0_canBeLess_4, f_X0_canBeLess_5, if_true, if_false, if_pos, if_neg, e01, e10, em12, em21, e0m1, e0m2, e1m1, e1m2, em10, em20, Int32.reduceLT, Int32.reduceLE, eq_self, Option.bind_some, Option.map_some, false_or, or_false, or_self, true_or, or_true, not_true_eq_false, not_false_eq_true, false_and, and_false, true_and, and_true]
      exact ok_some ⟨rfl, b1, b2, Or.inr ⟨rfl, by omega⟩⟩
    · rw [if_neg q]
      simp only [f_X0_canBeLess_3, f_X0_canBeLess_5, if_true, if_false, if_pos, if_neg, e01, e10, em12, em21, e0m1, e0m2, e1m1, e1m2, em10, em20, Int32.reduceLT, Int32.reduceLE, eq_self, Option.bind_some, Option.map_some, false_or, or_false, or_self, true_or, or_true, not_true_eq_false, not_false_eq_true, false_and, and_false, true_and, and_true]
      exact ok_some ⟨rfl, b1, b2, Or.inl rfl⟩
theorem weigh6_ok {n m y lim v : Nat} {w : aT} {I I0 : xI} {J : xJ} (hy : y < 2) (hl : lim ≤ 1000) (hv : v < 2000) (h59 : I 59 y = nt lim) : Ok (f_X0_weigh_6 (nt y) (nt v) I J) (fun o => o.2.2 = J ∧ (∀ a j, ¬ ((a = 59 ∧ j = y) ∨ (a = 58 ∧ 6 * y ≤ j ∧ j < 6 * y + 6)) → o.2.1 a j = I a j) ∧ ((v < lim ∧ o.2.1 59 y = nt v ∧ ∀ s, s < 6 → o.2.1 58 (6 * y + s) = I 57 s) ∨ (lim ≤ v ∧ o.2.1 59 y = nt lim ∧ ∀ s, s < 6 → o.2.1 58 (6 * y + s) = I 58 (6 * y + s)))) := by
  simp (disch := omega) only [f_X0_weigh_6, nt_clamp, nt_le, nt_lt, nt_eq, lit_le, lit_lt, le_lit, lt_lit, eq_lit, lit_eq, nt_neg, nt_ge, nt_add, nt_mul, nt_addl, lit_add, nt_mull, lit_mul, nt_sub, nt_subl, lit_sub, nt_divl, nt_m1, nt_m2, nt_m1', nt_m2', false_or, if_neg, h59]
  by_cases q : lim ≤ v
  · rw [if_pos q]
    exact ok_some ⟨rfl, fun _ _ _ => rfl, Or.inr ⟨q, h59, fun _ _ => rfl⟩⟩
  · rw [if_neg q]
    have e6 : nt y * 6 = nt (6 * y) := by rw [show (6 : Int32) = nt 6 from rfl, nt_mul, Nat.mul_comm]
    have e06 : (6 : Int32).toNatClampNeg = 6 := rfl
    have e00 : (0 : Int32).toNatClampNeg = 0 := rfl
    have c1 : ¬ (((0 : Int32) < 0 ∨ nt (6 * y) < 0 ∨ (6 : Int32) < 0) ∨ 6 < (0 : Int32).toNatClampNeg + (6 : Int32).toNatClampNeg ∨ 12 < (nt (6 * y)).toNatClampNeg + (6 : Int32).toNatClampNeg) := by
      rw [e06, e00, nt_clamp (by omega), nt_neg (by omega)]
      rintro ((h | h | h) | h | h)
      · exact absurd h (by decide)
      · exact h
      · exact absurd h (by decide)
      · omega
      · omega
    unfold f_X0_weigh_7
    rw [e6]
    refine ok_nn (by rw [nt_neg (show y < 2147483648 from by omega), nt_clamp (show y < 2147483648 from by omega), false_or]; omega) (ok_nn c1 ?_)
    rw [nt_clamp (show 6 * y < 2147483648 from by omega), nt_clamp (show y < 2147483648 from by omega)]
    refine ok_some ⟨rfl, ?_, Or.inl ⟨by omega, ?_, ?_⟩⟩
    · intro a j h
      dsimp only
      by_cases e : a = 58
      · subst e
        rw [xcp_at, if_neg (by omega), xup_bj _ _ _ _ _ (by omega)]
      · rw [xcp_bj _ _ _ _ _ _ _ e, xup_no _ _ _ _ (by omega)]
    · dsimp only
      rw [xcp_bj _ _ _ _ _ _ _ (by omega), xup_at]
    · intro s hs
      dsimp only
      rw [xcp_at, if_pos (by omega), xup_bj _ _ _ _ _ (by omega), show 0 + (6 * y + s - 6 * y) = s from by omega]
theorem weigh_ok {n m y lim : Nat} {w : aT} {c : Nat → Nat} {I : xI} {J : xJ} (hn : n ≤ 6) (hm : m ≤ 4) (V : Vd n m w) (hx : bCx n m w I) (hM : mK I) (hy : y < 2) (hc : ∀ s, s < n → I 57 s = nt (c s)) (hp : prp n c) (hl : lim ≤ 1000) (h59 : I 59 y = nt lim) : Ok (f_X0_weigh (nt y) I J) (fun o => o.2.2 = J ∧ mK o.2.1 ∧ (∀ a j, ¬ bR y a j ∨ a = 57 → o.2.1 a j = I a j) ∧ ((wor n m w y c < lim ∧ o.2.1 59 y = nt (wor n m w y c) ∧ ∀ s, s < 6 → o.2.1 58 (6 * y + s) = I 57 s) ∨ (lim ≤ wor n m w y c ∧ o.2.1 59 y = nt lim ∧ ∀ s, s < 6 → o.2.1 58 (6 * y + s) = I 58 (6 * y + s)))) := by
  have hc8 : ∀ s, s < n → I 57 s = nt (c s) ∧ c s < 8 := fun s hs => ⟨hc s hs, prp_8 hn hp hs⟩
  have hwl := wor_lt (n := n) (y := y) (w := w) (c := c) hm
  have mKf : ∀ I1 I2 : xI, mK I1 → (∀ a j, ¬ ((a = 59 ∧ j = y) ∨ (a = 58 ∧ 6 * y ≤ j ∧ j < 6 * y + 6)) → I2 a j = I1 a j) → mK I2 := by
    intro I1 I2 h1 h2 R O r1 r2 r3 r4
    rw [h2 54 _ (by omega)]
    exact h1 R O r1 r2 r3 r4
  rcases (show y = 0 ∨ y = 1 from by omega) with rfl | rfl
  · simp (disch := omega) only [f_X0_weigh, f_X0_weigh_0, nt_clamp, nt_le, nt_lt, nt_eq, lit_le, lit_lt, le_lit, lt_lit, eq_lit, lit_eq, nt_neg, nt_ge, nt_add, nt_mul, nt_addl, lit_add, nt_mull, lit_mul, nt_sub, nt_subl, lit_sub, nt_divl, nt_m1, nt_m2, nt_m1', nt_m2', if_true, if_false, if_pos, if_neg, e01, e10, em12, em21, e0m1, e0m2, e1m1, e1m2, em10, em20, Int32.reduceLT, Int32.reduceLE, eq_self, Option.bind_some, Option.map_some, false_or, or_false, or_self, true_or, or_true, not_true_eq_false, not_false_eq_true, false_and, and_false, true_and, and_true]
    unfold f_X0_weigh_1
    apply ok_bind
    refine (load57_ok hn hx.1.1 hc8).imp ?_
    rintro ⟨_, I1, J1⟩ ⟨rfl, a1, a2⟩
    dsimp only at a1 a2 ⊢
    have e33 : I1 33 = I 33 := funext fun j => a2 33 j (by omega) (by omega)
    have e34 : I1 34 = I 34 := funext fun j => a2 34 j (by omega) (by omega)
    obtain ⟨v, hv⟩ : ∃ v, cosk n m w c (nb n) = some v := ⟨_, cosk_sum hn hp (nb n)⟩
    have hw : wor n m w 0 c = v := by unfold wor; rw [if_pos rfl, hv]; rfl
    rw [hw] at hwl ⊢
    have ht := total_ok (m := m) (w := w) (c := c) (I := I1) (J := J1) hn V ((a2 1 0 (by omega) (by omega)).trans hx.1.1) (by rw [a2 32 3 (by omega) (by omega), e33, e34]; exact hx.2.1) (by rw [e33]; exact a1)
    rw [hv] at ht
    simp only [f_X0_weigh_2, ht, Option.bind_some, f_X0_weigh_3]
    refine (weigh6_ok (n := n) (m := m) (w := w) (I0 := I) (I := I1) (J := J1) (y := 0) (lim := lim) (v := v) (by omega) hl (by omega) ((a2 59 0 (by omega) (by omega)).trans h59)).imp ?_
    rintro ⟨_, I2, J2⟩ ⟨rfl, b1, b2⟩
    dsimp only at b1 b2 ⊢
    refine ⟨rfl, mKf I1 I2 ?_ b1, ?_, ?_⟩
    · intro R O r1 r2 r3 r4
      rw [a2 54 _ (by omega) (by omega)]; exact hM R O r1 r2 r3 r4
    · intro a j h
      unfold bR zReg at h
      rw [b1 a j (by omega), a2 a j (by omega) (by omega)]
    · rcases b2 with ⟨q1, q2, q3⟩ | ⟨q1, q2, q3⟩
      · exact Or.inl ⟨q1, q2, fun s hs => (q3 s hs).trans (a2 57 s (by omega) (by omega))⟩
      · exact Or.inr ⟨q1, q2, fun s hs => (q3 s hs).trans (a2 58 _ (by omega) (by omega))⟩
  · simp (disch := omega) only [f_X0_weigh, f_X0_weigh_0, f_X0_weigh_4, nt_clamp, nt_le, nt_lt, nt_eq, lit_le, lit_lt, le_lit, lt_lit, eq_lit, lit_eq, nt_neg, nt_ge, nt_add, nt_mul, nt_addl, lit_add, nt_mull, lit_mul, nt_sub, nt_subl, lit_sub, nt_divl, nt_m1, nt_m2, nt_m1', nt_m2', false_or, if_neg, h59, hx.1.1]
    apply ok_bind
    refine (total57_ok hn hm V hx.1 (Nat.le_refl n) hc8 hp.1 hl hx.2.2 hM).imp ?_
    rintro ⟨_, I1, J1⟩ ⟨rfl, ⟨T, rfl, t1, t2⟩, a1, a2⟩
    dsimp only at a1 a2 ⊢
    have hw : wor n m w 1 c = smT w c n m (nb n) := by unfold wor; rw [if_neg (by omega)]
    rw [hw] at hwl ⊢
    have fz : ∀ a j, ¬ (a = 54 ∨ a = 55 ∨ a = 51) → I1 a j = I a j := fun a j h => a2 a j (by unfold zReg; omega)
    simp only [f_X0_weigh_5]
    refine (weigh6_ok (n := n) (m := m) (w := w) (I0 := I) (I := I1) (J := J1) (y := 1) (lim := lim) (v := T) (by omega) hl (by omega) ((fz 59 1 (by omega)).trans h59)).imp ?_
    rintro ⟨_, I2, J2⟩ ⟨rfl, b1, b2⟩
    dsimp only at b1 b2 ⊢
    refine ⟨rfl, mKf I1 I2 a1 b1, ?_, ?_⟩
    · intro a j h
      by_cases hz : zReg a j
      · unfold bR at h
        unfold zReg at hz h
        omega
      · unfold bR at h
        rw [b1 a j (by omega), a2 a j hz]
    · rcases b2 with ⟨q1, q2, q3⟩ | ⟨q1, q2, q3⟩
      · have : T = smT w c n m (nb n) := by omega
        rw [← this]
        exact Or.inl ⟨q1, q2, fun s hs => (q3 s hs).trans (fz 57 s (by omega))⟩
      · exact Or.inr ⟨by omega, q2, fun s hs => (q3 s hs).trans (fz 58 _ (by omega))⟩
