/-! the tape -/
theorem xup_no {α : Type} (f : Nat → Nat → α) {a i : Nat} (v : α) (b j : Nat) (h : ¬ (b = a ∧ j = i)) : xup f a i v b j = f b j := by
  by_cases hb : b = a
  · subst hb
    exact xup_j f b i v (fun e => h ⟨rfl, e⟩)
  · exact xup_bj f a i v j hb
/-- how far a word is shifted for its bytes -/
def sv (k : Nat) : Int32 := match k with
  | 0 => 24
  | 1 => 16
  | 2 => 8
  | 3 => 0
  | _ => -8
theorem sv_ge : ∀ k, k < 4 → ¬ (sv k < 0) := by decide
theorem sv_next : ∀ k, k < 4 → sv k + -8 = sv (k + 1) := by decide
def bz (x : Int32) (k : Nat) : Int32 := byt (byt (x >>> (sv k &&& 31)))
theorem put_ok {I : xI} {J : xJ} {x : Int32} {l : Nat} (h : I 24 1 = nt l) (hl : l + 4 ≤ 2000) : Ok (f_X9_put x I J) (fun t => t.2.2 = J ∧ t.2.1 24 1 = nt (l + 4) ∧ (∀ j, t.2.1 25 j = if l ≤ j ∧ j < l + 4 then bz x (j - l) else I 25 j) ∧ ∀ a j, ¬ a = 25 → ¬ (a = 24 ∧ j = 1) → t.2.1 a j = I a j) := by
  unfold f_X9_put f_X9_put_0 f_X9_put_1
  refine ok_loop (fun k s => ∃ I', s = (x, sv k, I', J) ∧ I' 24 1 = nt (l + k) ∧ (∀ j, I' 25 j = if l ≤ j ∧ j < l + k then bz x (j - l) else I 25 j) ∧ ∀ a j, ¬ a = 25 → ¬ (a = 24 ∧ j = 1) → I' a j = I a j) 4 ?_ ?_ 5000 0 _ (by omega) (by omega) ⟨I, rfl, h, ?_, fun _ _ _ _ => rfl⟩
  · rintro k hk s ⟨I', rfl, h1, h2, h3⟩
    have e0 : ¬ (sv k < 0) := sv_ge k hk
    simp (disch := omega) only [f_X9_put_4, f_X9_put_3, f_X9_put_2, b_X9_put_1, f_X9_put_0, f_X9_put, if_neg e0, h1, xup_bj, xup_at, nt_clamp, nt_le, nt_lt, nt_eq, lit_le, lit_lt, le_lit, lt_lit, eq_lit, lit_eq, nt_neg, nt_ge, nt_add, nt_mul, nt_addl, lit_add, nt_mull, lit_mul, nt_sub, nt_subl, lit_sub, nt_divl, nt_m1, nt_m2, nt_m1', nt_m2', if_true, if_false, if_pos, if_neg, e01, e10, em12, em21, e0m1, e0m2, e1m1, e1m2, em10, em20, Int32.reduceLT, Int32.reduceLE, eq_self, Option.bind_some, Option.map_some, false_or, or_false, or_self, true_or, or_true, not_true_eq_false, not_false_eq_true, false_and, and_false, true_and, and_true]
    refine ok_some ⟨_, by rw [sv_next k hk], ?_, ?_, ?_⟩
    · rw [xup_at]; rfl
    · intro j
      rw [xup_bj _ _ _ _ _ (by omega), xup_if]
      by_cases hj : j = l + k
      · subst hj
        rw [if_pos rfl, if_pos (by omega)]
        unfold bz byt
        rw [show l + k - l = k from by omega]
      · rw [if_neg hj, h2]
        by_cases hc : l ≤ j ∧ j < l + k
        · rw [if_pos hc, if_pos (by omega)]
        · rw [if_neg hc, if_neg (by omega)]
    · intro a j ha hb
      rw [xup_no _ _ _ _ hb, xup_no _ _ _ _ (by omega), h3 a j ha hb]
  · rintro s ⟨I', rfl, h1, h2, h3⟩
    simp (disch := omega) only [f_X9_put_4, f_X9_put_3, f_X9_put_2, b_X9_put_1, f_X9_put_0, f_X9_put, if_pos (show sv 4 < 0 from by decide), Option.map_some]
    exact ok_some ⟨rfl, h1, h2, h3⟩
  · intro j; rw [if_neg (by omega)]

theorem lays_ok {I : xI} {J : xJ} {x : Int32} {l : Nat} (h : I 61 2 = nt l) (hl : l + 4 ≤ 2000) : Ok (f_X12_lays x I J) (fun t => t.2.2 = J ∧ t.2.1 61 2 = nt (l + 4) ∧ (∀ j, t.2.1 62 j = if l ≤ j ∧ j < l + 4 then bz x (j - l) else I 62 j) ∧ ∀ a j, ¬ a = 62 → ¬ (a = 61 ∧ j = 2) → t.2.1 a j = I a j) := by
  unfold f_X12_lays f_X12_lays_0 f_X12_lays_1
  refine ok_loop (fun k s => ∃ I', s = (x, sv k, I', J) ∧ I' 61 2 = nt (l + k) ∧ (∀ j, I' 62 j = if l ≤ j ∧ j < l + k then bz x (j - l) else I 62 j) ∧ ∀ a j, ¬ a = 62 → ¬ (a = 61 ∧ j = 2) → I' a j = I a j) 4 ?_ ?_ 5000 0 _ (by omega) (by omega) ⟨I, rfl, h, ?_, fun _ _ _ _ => rfl⟩
  · rintro k hk s ⟨I', rfl, h1, h2, h3⟩
    have e0 : ¬ (sv k < 0) := sv_ge k hk
    simp (disch := omega) only [f_X12_lays_3, f_X12_lays_2, b_X12_lays_1, f_X12_lays_0, f_X12_lays, if_neg e0, h1, xup_bj, xup_at, nt_clamp, nt_le, nt_lt, nt_eq, lit_le, lit_lt, le_lit, lt_lit, eq_lit, lit_eq, nt_neg, nt_ge, nt_add, nt_mul, nt_addl, lit_add, nt_mull, lit_mul, nt_sub, nt_subl, lit_sub, nt_divl, nt_m1, nt_m2, nt_m1', nt_m2', if_true, if_false, if_pos, if_neg, e01, e10, em12, em21, e0m1, e0m2, e1m1, e1m2, em10, em20, Int32.reduceLT, Int32.reduceLE, eq_self, Option.bind_some, Option.map_some, false_or, or_false, or_self, true_or, or_true, not_true_eq_false, not_false_eq_true, false_and, and_false, true_and, and_true]
    refine ok_some ⟨_, by rw [sv_next k hk], ?_, ?_, ?_⟩
    · rw [xup_at]; rfl
    · intro j
      rw [xup_bj _ _ _ _ _ (by omega), xup_if]
      by_cases hj : j = l + k
      · subst hj
        rw [if_pos rfl, if_pos (by omega)]
        unfold bz byt
        rw [show l + k - l = k from by omega]
      · rw [if_neg hj, h2]
        by_cases hc : l ≤ j ∧ j < l + k
        · rw [if_pos hc, if_pos (by omega)]
        · rw [if_neg hc, if_neg (by omega)]
    · intro a j ha hb
      rw [xup_no _ _ _ _ hb, xup_no _ _ _ _ (by omega), h3 a j ha hb]
  · rintro s ⟨I', rfl, h1, h2, h3⟩
    simp (disch := omega) only [f_X12_lays_3, f_X12_lays_2, b_X12_lays_1, f_X12_lays_0, f_X12_lays, if_pos (show sv 4 < 0 from by decide), Option.map_some]
    exact ok_some ⟨rfl, h1, h2, h3⟩
  · intro j; rw [if_neg (by omega)]

/-- five words behind what was there -/
def bs5 (l : Nat) (bs : Nat → Int32) (a b c d e : Int32) (k : Nat) : Int32 := if k < l then bs k else if k < l + 4 then bz a (k - l) else if k < l + 8 then bz b (k - (l + 4)) else if k < l + 12 then bz c (k - (l + 8)) else if k < l + 16 then bz d (k - (l + 12)) else bz e (k - (l + 16))
theorem bs5_ok {l : Nat} {bs : Nat → Int32} {a b c d e : Int32} {c0 c1 c2 c3 c4 c5 : Nat → Int32} (h0 : ∀ k, k < l → c0 k = bs k) (h1 : ∀ j, c1 j = if l ≤ j ∧ j < l + 4 then bz a (j - l) else c0 j) (h2 : ∀ j, c2 j = if l + 4 ≤ j ∧ j < l + 4 + 4 then bz b (j - (l + 4)) else c1 j) (h3 : ∀ j, c3 j = if l + 4 + 4 ≤ j ∧ j < l + 4 + 4 + 4 then bz c (j - (l + 4 + 4)) else c2 j) (h4 : ∀ j, c4 j = if l + 4 + 4 + 4 ≤ j ∧ j < l + 4 + 4 + 4 + 4 then bz d (j - (l + 4 + 4 + 4)) else c3 j) (h5 : ∀ j, c5 j = if l + 4 + 4 + 4 + 4 ≤ j ∧ j < l + 4 + 4 + 4 + 4 + 4 then bz e (j - (l + 4 + 4 + 4 + 4)) else c4 j) : ∀ k, k < l + 20 → c5 k = bs5 l bs a b c d e k := by
  intro k hk
  unfold bs5
  by_cases g0 : k < l
  · rw [if_pos g0, h5, if_neg (by omega), h4, if_neg (by omega), h3, if_neg (by omega), h2, if_neg (by omega), h1, if_neg (by omega), h0 k g0]
  · rw [if_neg g0]
    by_cases g1 : k < l + 4
    · rw [if_pos g1, h5, if_neg (by omega), h4, if_neg (by omega), h3, if_neg (by omega), h2, if_neg (by omega), h1, if_pos (by omega)]
    · rw [if_neg g1]
      by_cases g2 : k < l + 8
      · rw [if_pos g2, h5, if_neg (by omega), h4, if_neg (by omega), h3, if_neg (by omega), h2, if_pos (by omega)]
      · rw [if_neg g2]
        by_cases g3 : k < l + 12
        · rw [if_pos g3, h5, if_neg (by omega), h4, if_neg (by omega), h3, if_pos (by omega)]
        · rw [if_neg g3]
          by_cases g4 : k < l + 16
          · rw [if_pos g4, h5, if_neg (by omega), h4, if_pos (by omega)]
          · rw [if_neg g4, h5, if_pos (by omega)]

theorem cfeed_ok {I : xI} {J : xJ} {l : Nat} {bs : Nat → Int32} {a b c d e : Int32} (h : cTa l bs (I 24 1) (I 25)) (hl : l ≤ 2000) : Ok (f_X11_feed a b c d e I J) (fun t => t.2.2 = J ∧ t.1 = (if l + 20 ≤ 2000 then nt (l + 20) else -1) ∧ (if l + 20 ≤ 2000 then cTa (l + 20) (bs5 l bs a b c d e) (t.2.1 24 1) (t.2.1 25) else t.2.1 = I) ∧ ∀ a j, ¬ a = 25 → ¬ (a = 24 ∧ j = 1) → t.2.1 a j = I a j) := by
  obtain ⟨hv, hb⟩ := h
  by_cases hc : l + 20 ≤ 2000
  · simp only [if_pos hc]
    simp (disch := omega) only [f_X11_feed_8, f_X11_feed_7, f_X11_feed_6, f_X11_feed_5, f_X11_feed_4, f_X11_feed_3, f_X11_feed_2, f_X11_feed_1, f_X11_feed_0, f_X11_feed, f_X9_hasRoom_3, f_X9_hasRoom_2, f_X9_hasRoom_1, f_X9_hasRoom_0, f_X9_hasRoom, hv, nt_clamp, nt_le, nt_lt, nt_eq, lit_le, lit_lt, le_lit, lt_lit, eq_lit, lit_eq, nt_neg, nt_ge, nt_add, nt_mul, nt_addl, lit_add, nt_mull, lit_mul, nt_sub, nt_subl, lit_sub, nt_divl, nt_m1, nt_m2, nt_m1', nt_m2', if_true, if_false, if_pos, if_neg, e01, e10, em12, em21, e0m1, e0m2, e1m1, e1m2, em10, em20, Int32.reduceLT, Int32.reduceLE, eq_self, Option.bind_some, Option.map_some, false_or, or_false, or_self, true_or, or_true, not_true_eq_false, not_false_eq_true, false_and, and_false, true_and, and_true]
    skip
    apply ok_bind
    refine (put_ok (l := l) hv (by omega)).imp ?_
    rintro ⟨_, I1, J1⟩ ⟨rfl, k1, q1, f1⟩
    dsimp only at k1 q1 f1 ⊢
    apply ok_bind
    refine (put_ok (l := l + 4) k1 (by omega)).imp ?_
    rintro ⟨_, I2, J2⟩ ⟨rfl, k2, q2, f2⟩
    dsimp only at k2 q2 f2 ⊢
    apply ok_bind
    refine (put_ok (l := l + 4 + 4) k2 (by omega)).imp ?_
    rintro ⟨_, I3, J3⟩ ⟨rfl, k3, q3, f3⟩
    dsimp only at k3 q3 f3 ⊢
    apply ok_bind
    refine (put_ok (l := l + 4 + 4 + 4) k3 (by omega)).imp ?_
    rintro ⟨_, I4, J4⟩ ⟨rfl, k4, q4, f4⟩
    dsimp only at k4 q4 f4 ⊢
    apply ok_bind
    refine (put_ok (l := l + 4 + 4 + 4 + 4) k4 (by omega)).imp ?_
    rintro ⟨_, I5, J5⟩ ⟨rfl, k5, q5, f5⟩
    dsimp only at k5 q5 f5 ⊢
    refine ok_some ⟨rfl, k5, ⟨k5, bs5_ok hb q1 q2 q3 q4 q5⟩, ?_⟩
    intro a j ha hb
    dsimp only
    rw [f5 a j ha hb, f4 a j ha hb, f3 a j ha hb, f2 a j ha hb, f1 a j ha hb]
  · simp only [if_neg hc]
    simp (disch := omega) only [f_X11_feed_8, f_X11_feed_7, f_X11_feed_6, f_X11_feed_5, f_X11_feed_4, f_X11_feed_3, f_X11_feed_2, f_X11_feed_1, f_X11_feed_0, f_X11_feed, f_X9_hasRoom_3, f_X9_hasRoom_2, f_X9_hasRoom_1, f_X9_hasRoom_0, f_X9_hasRoom, hv, nt_clamp, nt_le, nt_lt, nt_eq, lit_le, lit_lt, le_lit, lt_lit, eq_lit, lit_eq, nt_neg, nt_ge, nt_add, nt_mul, nt_addl, lit_add, nt_mull, lit_mul, nt_sub, nt_subl, lit_sub, nt_divl, nt_m1, nt_m2, nt_m1', nt_m2', if_true, if_false, if_pos, if_neg, e01, e10, em12, em21, e0m1, e0m2, e1m1, e1m2, em10, em20, Int32.reduceLT, Int32.reduceLE, eq_self, Option.bind_some, Option.map_some, false_or, or_false, or_self, true_or, or_true, not_true_eq_false, not_false_eq_true, false_and, and_false, true_and, and_true]
    skip
    exact ok_some ⟨rfl, rfl, rfl, fun _ _ _ _ => rfl⟩

theorem rfeed_ok {I : xI} {J : xJ} {l : Nat} {bs : Nat → Int32} {a b c d e : Int32} (h : cTa l bs (I 61 2) (I 62)) (hl : l ≤ 2000) : Ok (f_X12_feed a b c d e I J) (fun t => t.2.2 = J ∧ t.1 = (if l + 20 ≤ 2000 then nt (l + 20) else -1) ∧ (if l + 20 ≤ 2000 then cTa (l + 20) (bs5 l bs a b c d e) (t.2.1 61 2) (t.2.1 62) else t.2.1 = I) ∧ ∀ a j, ¬ a = 62 → ¬ (a = 61 ∧ j = 2) → t.2.1 a j = I a j) := by
  obtain ⟨hv, hb⟩ := h
  by_cases hc : l + 20 ≤ 2000
  · simp only [if_pos hc]
    simp (disch := omega) only [f_X12_feed_7, f_X12_feed_6, f_X12_feed_5, f_X12_feed_4, f_X12_feed_3, f_X12_feed_2, f_X12_feed_1, f_X12_feed_0, f_X12_feed, hv, nt_clamp, nt_le, nt_lt, nt_eq, lit_le, lit_lt, le_lit, lt_lit, eq_lit, lit_eq, nt_neg, nt_ge, nt_add, nt_mul, nt_addl, lit_add, nt_mull, lit_mul, nt_sub, nt_subl, lit_sub, nt_divl, nt_m1, nt_m2, nt_m1', nt_m2', if_true, if_false, if_pos, if_neg, e01, e10, em12, em21, e0m1, e0m2, e1m1, e1m2, em10, em20, Int32.reduceLT, Int32.reduceLE, eq_self, Option.bind_some, Option.map_some, false_or, or_false, or_self, true_or, or_true, not_true_eq_false, not_false_eq_true, false_and, and_false, true_and, and_true]
    skip
    apply ok_bind
    refine (lays_ok (l := l) hv (by omega)).imp ?_
    rintro ⟨_, I1, J1⟩ ⟨rfl, k1, q1, f1⟩
    dsimp only at k1 q1 f1 ⊢
    apply ok_bind
    refine (lays_ok (l := l + 4) k1 (by omega)).imp ?_
    rintro ⟨_, I2, J2⟩ ⟨rfl, k2, q2, f2⟩
    dsimp only at k2 q2 f2 ⊢
    apply ok_bind
    refine (lays_ok (l := l + 4 + 4) k2 (by omega)).imp ?_
    rintro ⟨_, I3, J3⟩ ⟨rfl, k3, q3, f3⟩
    dsimp only at k3 q3 f3 ⊢
    apply ok_bind
    refine (lays_ok (l := l + 4 + 4 + 4) k3 (by omega)).imp ?_
    rintro ⟨_, I4, J4⟩ ⟨rfl, k4, q4, f4⟩
    dsimp only at k4 q4 f4 ⊢
    apply ok_bind
    refine (lays_ok (l := l + 4 + 4 + 4 + 4) k4 (by omega)).imp ?_
    rintro ⟨_, I5, J5⟩ ⟨rfl, k5, q5, f5⟩
    dsimp only at k5 q5 f5 ⊢
    refine ok_some ⟨rfl, k5, ⟨k5, bs5_ok hb q1 q2 q3 q4 q5⟩, ?_⟩
    intro a j ha hb
    dsimp only
    rw [f5 a j ha hb, f4 a j ha hb, f3 a j ha hb, f2 a j ha hb, f1 a j ha hb]
  · simp only [if_neg hc]
    simp (disch := omega) only [f_X12_feed_7, f_X12_feed_6, f_X12_feed_5, f_X12_feed_4, f_X12_feed_3, f_X12_feed_2, f_X12_feed_1, f_X12_feed_0, f_X12_feed, hv, nt_clamp, nt_le, nt_lt, nt_eq, lit_le, lit_lt, le_lit, lt_lit, eq_lit, lit_eq, nt_neg, nt_ge, nt_add, nt_mul, nt_addl, lit_add, nt_mull, lit_mul, nt_sub, nt_subl, lit_sub, nt_divl, nt_m1, nt_m2, nt_m1', nt_m2', if_true, if_false, if_pos, if_neg, e01, e10, em12, em21, e0m1, e0m2, e1m1, e1m2, em10, em20, Int32.reduceLT, Int32.reduceLE, eq_self, Option.bind_some, Option.map_some, false_or, or_false, or_self, true_or, or_true, not_true_eq_false, not_false_eq_true, false_and, and_false, true_and, and_true]
    skip
    exact ok_some ⟨rfl, rfl, rfl, fun _ _ _ _ => rfl⟩

theorem cback_ok {I : xI} {J : xJ} {l : Nat} {bs : Nat → Int32} {x : Int32} (h : cTa l bs (I 24 1) (I 25)) (hl : l ≤ 2000) : Ok (f_X11_back x I J) (fun t => t.2.2 = J ∧ t.1 = (if isS (l + 1) x then nt (l - x.toNatClampNeg) else -1) ∧ (if isS (l + 1) x then cTa (l - x.toNatClampNeg) bs (t.2.1 24 1) (t.2.1 25) else t.2.1 = I) ∧ ∀ a j, ¬ (a = 24 ∧ j = 1) → t.2.1 a j = I a j) := by
  obtain ⟨hv, hb⟩ := h
  rcases nt_all x with hx | ⟨k, hk, rfl⟩
  · simp only [f_X11_back_2, f_X11_back_3, f_X11_back_1, f_X11_back_0, f_X11_back, if_pos hx, isS_neg hx]
    exact ok_some ⟨rfl, rfl, rfl, fun _ _ _ => rfl⟩
  · rw [isS_nt (by omega) hk, nt_clamp hk]
    by_cases hc : k ≤ l
    · rw [decide_eq_true (by omega)]
      simp (disch := omega) only [f_X11_back_2, f_X11_back_3, f_X11_back_1, f_X11_back_0, f_X11_back, hv, nt_clamp, nt_le, nt_lt, nt_eq, lit_le, lit_lt, le_lit, lt_lit, eq_lit, lit_eq, nt_neg, nt_ge, nt_add, nt_mul, nt_addl, lit_add, nt_mull, lit_mul, nt_sub, nt_subl, lit_sub, nt_divl, nt_m1, nt_m2, nt_m1', nt_m2', if_true, if_false, if_pos, if_neg, e01, e10, em12, em21, e0m1, e0m2, e1m1, e1m2, em10, em20, Int32.reduceLT, Int32.reduceLE, eq_self, Option.bind_some, Option.map_some, false_or, or_false, or_self, true_or, or_true, not_true_eq_false, not_false_eq_true, false_and, and_false, true_and, and_true, xup_at]
      refine ok_some ⟨rfl, rfl, ⟨xup_at I 24 1 _, ?_⟩, ?_⟩
      · intro j hj
        dsimp only
        rw [xup_bj _ _ _ _ _ (by omega)]
        exact hb j (by omega)
      · intro a j h
        exact xup_no _ _ _ _ h
    · rw [decide_eq_false (by omega)]
      simp (disch := omega) only [f_X11_back_2, f_X11_back_3, f_X11_back_1, f_X11_back_0, f_X11_back, hv, nt_clamp, nt_le, nt_lt, nt_eq, lit_le, lit_lt, le_lit, lt_lit, eq_lit, lit_eq, nt_neg, nt_ge, nt_add, nt_mul, nt_addl, lit_add, nt_mull, lit_mul, nt_sub, nt_subl, lit_sub, nt_divl, nt_m1, nt_m2, nt_m1', nt_m2', if_true, if_false, if_pos, if_neg, e01, e10, em12, em21, e0m1, e0m2, e1m1, e1m2, em10, em20, Int32.reduceLT, Int32.reduceLE, eq_self, Option.bind_some, Option.map_some, false_or, or_false, or_self, true_or, or_true, not_true_eq_false, not_false_eq_true, false_and, and_false, true_and, and_true]
      exact ok_some ⟨rfl, rfl, rfl, fun _ _ _ => rfl⟩

theorem rback_ok {I : xI} {J : xJ} {l : Nat} {bs : Nat → Int32} {x : Int32} (h : cTa l bs (I 61 2) (I 62)) (hl : l ≤ 2000) : Ok (f_X12_back x I J) (fun t => t.2.2 = J ∧ t.1 = (if isS (l + 1) x then nt (l - x.toNatClampNeg) else -1) ∧ (if isS (l + 1) x then cTa (l - x.toNatClampNeg) bs (t.2.1 61 2) (t.2.1 62) else t.2.1 = I) ∧ ∀ a j, ¬ (a = 61 ∧ j = 2) → t.2.1 a j = I a j) := by
  obtain ⟨hv, hb⟩ := h
  rcases nt_all x with hx | ⟨k, hk, rfl⟩
  · simp only [f_X12_back_2, f_X12_back_3, f_X12_back_1, f_X12_back_0, f_X12_back, if_pos hx, isS_neg hx]
    exact ok_some ⟨rfl, rfl, rfl, fun _ _ _ => rfl⟩
  · rw [isS_nt (by omega) hk, nt_clamp hk]
    by_cases hc : k ≤ l
    · rw [decide_eq_true (by omega)]
      simp (disch := omega) only [f_X12_back_2, f_X12_back_3, f_X12_back_1, f_X12_back_0, f_X12_back, hv, nt_clamp, nt_le, nt_lt, nt_eq, lit_le, lit_lt, le_lit, lt_lit, eq_lit, lit_eq, nt_neg, nt_ge, nt_add, nt_mul, nt_addl, lit_add, nt_mull, lit_mul, nt_sub, nt_subl, lit_sub, nt_divl, nt_m1, nt_m2, nt_m1', nt_m2', if_true, if_false, if_pos, if_neg, e01, e10, em12, em21, e0m1, e0m2, e1m1, e1m2, em10, em20, Int32.reduceLT, Int32.reduceLE, eq_self, Option.bind_some, Option.map_some, false_or, or_false, or_self, true_or, or_true, not_true_eq_false, not_false_eq_true, false_and, and_false, true_and, and_true, xup_at]
      refine ok_some ⟨rfl, rfl, ⟨xup_at I 61 2 _, ?_⟩, ?_⟩
      · intro j hj
        dsimp only
        rw [xup_bj _ _ _ _ _ (by omega)]
        exact hb j (by omega)
      · intro a j h
        exact xup_no _ _ _ _ h
    · rw [decide_eq_false (by omega)]
      simp (disch := omega) only [f_X12_back_2, f_X12_back_3, f_X12_back_1, f_X12_back_0, f_X12_back, hv, nt_clamp, nt_le, nt_lt, nt_eq, lit_le, lit_lt, le_lit, lt_lit, eq_lit, lit_eq, nt_neg, nt_ge, nt_add, nt_mul, nt_addl, lit_add, nt_mull, lit_mul, nt_sub, nt_subl, lit_sub, nt_divl, nt_m1, nt_m2, nt_m1', nt_m2', if_true, if_false, if_pos, if_neg, e01, e10, em12, em21, e0m1, e0m2, e1m1, e1m2, em10, em20, Int32.reduceLT, Int32.reduceLE, eq_self, Option.bind_some, Option.map_some, false_or, or_false, or_self, true_or, or_true, not_true_eq_false, not_false_eq_true, false_and, and_false, true_and, and_true]
      exact ok_some ⟨rfl, rfl, rfl, fun _ _ _ => rfl⟩
