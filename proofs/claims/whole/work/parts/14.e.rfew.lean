/-! the reference's fewest -/
def ff (k : Nat) (q : Nat → Bool) : Option Nat := match k with
  | 0 => none
  | k + 1 => match ff k q with
    | some i => some i
    | none => if q k = true then some k else none
theorem ff_none {k : Nat} {q : Nat → Bool} : ff k q = none ↔ ∀ i, i < k → q i = false := by
  induction k with
  | zero => exact ⟨fun _ i hi => absurd hi (by omega), fun _ => rfl⟩
  | succ k ih =>
    constructor
    · intro h
      unfold ff at h
      cases e : ff k q with
      | some i => rw [e] at h; cases h
      | none =>
        rw [e] at h
        dsimp only at h
        intro i hi
        by_cases c : i = k
        · cases e2 : q k with
          | false => rw [c]; exact e2
          | true => rw [e2] at h; cases h
        · exact ih.mp e i (by omega)
    · intro h
      unfold ff
      rw [ih.mpr (fun i hi => h i (by omega)), h k (by omega)]; rfl
theorem ff_some {k i : Nat} {q : Nat → Bool} : ff k q = some i ↔ i < k ∧ q i = true ∧ ∀ j, j < i → q j = false := by
  induction k with
  | zero => exact ⟨fun h => (by cases h), fun h => absurd h.1 (by omega)⟩
  | succ k ih =>
    constructor
    · intro h
      unfold ff at h
      cases e : ff k q with
      | some i' => rw [e] at h; cases h; have := ih.mp e; exact ⟨by omega, this.2⟩
      | none =>
        rw [e] at h
        dsimp only at h
        split at h
        · rename_i hq
          cases h
          exact ⟨by omega, hq, ff_none.mp e⟩
        · cases h
    · rintro ⟨h1, h2, h3⟩
      unfold ff
      by_cases c : i = k
      · subst c
        rw [ff_none.mpr h3, h2]; rfl
      · rw [ih.mpr ⟨by omega, h2, h3⟩]
def o1 (o : Option Nat) : Int32 := match o with
  | none => -1
  | some i => nt i
theorem sub_def (x y : Int32) : (x &&& (y ^^^ -1) = 0) = (sub x y = true) := by
  unfold sub; simp
theorem firstWith_ok {k : Nat} {I : xI} {J : xJ} (hk : k ≤ 6) (h : I 61 37 = nt k) (x : Int32) : f_X12_firstWith x I J = some (o1 (ff k (fun i => sub x (I 79 i))), I, J) := by
  apply Ok.eq
  unfold f_X12_firstWith f_X12_firstWith_0 f_X12_firstWith_1
  refine ok_loop (fun i s => s = (x, nt i, I, J) ∧ ∀ j, j < i → sub x (I 79 j) = false) k ?_ ?_ 5000 0 _ (by omega) (by omega) ⟨rfl, fun j hj => absurd hj (by omega)⟩
  · rintro i hi s ⟨rfl, hg⟩
    simp (disch := omega) only [b_X12_firstWith_1, f_X12_firstWith_2, f_X12_firstWith_4, h, nt_clamp, nt_le, nt_lt, nt_eq, lit_le, lit_lt, le_lit, lt_lit, eq_lit, lit_eq, nt_neg, nt_ge, nt_add, nt_mul, nt_addl, lit_add, nt_mull, lit_mul, nt_sub, nt_subl, lit_sub, nt_divl, nt_m1, nt_m2, nt_m1', nt_m2', false_or, if_neg, sub_def]
    cases e : sub x (I 79 i) with
    | true =>
      simp only [if_true, f_X12_firstWith_3, Option.map_some]
      refine ok_some ?_
      rw [ff_some.mpr ⟨hi, e, hg⟩]; rfl
    | false =>
      simp only [Bool.false_eq_true, if_false]
      refine ok_some ⟨rfl, ?_⟩
      intro j hj
      by_cases c : j = i
      · rw [c]; exact e
      · exact hg j (by omega)
  · rintro s ⟨rfl, hg⟩
    simp (disch := omega) only [b_X12_firstWith_1, f_X12_firstWith_5, h, nt_clamp, nt_le, nt_lt, nt_eq, lit_le, lit_lt, le_lit, lt_lit, eq_lit, lit_eq, nt_neg, nt_ge, nt_add, nt_mul, nt_addl, lit_add, nt_mull, lit_mul, nt_sub, nt_subl, lit_sub, nt_divl, nt_m1, nt_m2, nt_m1', nt_m2', if_true, if_false, if_pos, if_neg, e01, e10, em12, em21, e0m1, e0m2, e1m1, e1m2, em10, em20, Int32.reduceLT, Int32.reduceLE, eq_self, Option.bind_some, Option.map_some, false_or, or_false, or_self, true_or, or_true, not_true_eq_false, not_false_eq_true, false_and, and_false, true_and, and_true]
    refine ok_some ?_
    rw [ff_none.mpr hg]; rfl
theorem o1_ge {k : Nat} {q : Nat → Bool} (hk : k < 1000) : (0 ≤ o1 (ff k q)) = (ex k q = true) := by
  cases e : ff k q with
  | none =>
    have : ex k q = false := ex_false.mpr (ff_none.mp e)
    rw [this]
    show ((0 : Int32) ≤ -1) = _
    simp
  | some i =>
    have := ff_some.mp e
    rw [ex_iff.mpr ⟨i, this.1, this.2.1⟩]
    show (0 ≤ nt i) = _
    rw [nt_ge (by omega)]; simp
theorem isCover_ok {n m k : Nat} {w : aT} {I : xI} {J : xJ} (hn : n ≤ 6) (hm : m ≤ 4) (hk : k ≤ 6) (V : Vd n m w) (h0 : I 61 17 = nt n) (h1 : I 61 18 = nt m) (h : rMa n m w (I 70) 0) (h37 : I 61 37 = nt k) : f_X12_isCover I J = some (bi (cvb n m w k (I 79)), I, J) := by
  apply Ok.eq
  unfold f_X12_isCover f_X12_isCover_0 f_X12_isCover_1
  refine ok_loop (fun i s => (∃ z, s = (nt i, z, I, J)) ∧ al i (fun i => al m (fun x => ex k (fun j => sub (ld n w (I 79 i) x) (I 79 j)))) = true) k ?_ ?_ 5000 0 _ (by omega) (by omega) ⟨⟨none, rfl⟩, rfl⟩
  · rintro i hi s ⟨⟨z, rfl⟩, hg⟩
    simp (disch := omega) only [b_X12_isCover_1, f_X12_isCover_2, h37, nt_clamp, nt_le, nt_lt, nt_eq, lit_le, lit_lt, le_lit, lt_lit, eq_lit, lit_eq, nt_neg, nt_ge, nt_add, nt_mul, nt_addl, lit_add, nt_mull, lit_mul, nt_sub, nt_subl, lit_sub, nt_divl, nt_m1, nt_m2, nt_m1', nt_m2', if_true, if_false, if_pos, if_neg, e01, e10, em12, em21, e0m1, e0m2, e1m1, e1m2, em10, em20, Int32.reduceLT, Int32.reduceLE, eq_self, Option.bind_some, Option.map_some, false_or, or_false, or_self, true_or, or_true, not_true_eq_false, not_false_eq_true, false_and, and_false, true_and, and_true]
    unfold f_X12_isCover_3
    refine ok_loop (fun x s => s = (nt i, nt x, I, J) ∧ al x (fun x => ex k (fun j => sub (ld n w (I 79 i) x) (I 79 j))) = true) m ?_ ?_ 5000 0 _ (by omega) (by omega) ⟨rfl, rfl⟩
    · rintro x hx s ⟨rfl, hg2⟩
      simp (disch := omega) only [b_X12_isCover_3, f_X12_isCover_4, f_X12_isCover_5, f_X12_isCover_6, f_X12_isCover_8, h1, nt_clamp, nt_le, nt_lt, nt_eq, lit_le, lit_lt, le_lit, lt_lit, eq_lit, lit_eq, nt_neg, nt_ge, nt_add, nt_mul, nt_addl, lit_add, nt_mull, lit_mul, nt_sub, nt_subl, lit_sub, nt_divl, nt_m1, nt_m2, nt_m1', nt_m2', false_or, if_neg, ledTo_ok hn hm V h0 h, firstWith_ok hk h37, Option.bind_some, o1_ge]
      cases e : ex k (fun j => sub (ld n w (I 79 i) x) (I 79 j)) with
      | true =>
        simp only [if_true]
        refine ok_some ⟨rfl, ?_⟩
        rw [al, hg2, e]; rfl
      | false =>
        simp only [Bool.false_eq_true, if_false, f_X12_isCover_7, Option.map_some]
        refine ok_some ?_
        have : cvb n m w k (I 79) = false := al_false hi (al_false hx e)
        rw [this]; rfl
    · rintro s ⟨rfl, hg2⟩
      simp (disch := omega) only [b_X12_isCover_3, f_X12_isCover_9, h1, nt_clamp, nt_le, nt_lt, nt_eq, lit_le, lit_lt, le_lit, lt_lit, eq_lit, lit_eq, nt_neg, nt_ge, nt_add, nt_mul, nt_addl, lit_add, nt_mull, lit_mul, nt_sub, nt_subl, lit_sub, nt_divl, nt_m1, nt_m2, nt_m1', nt_m2', if_true, if_false, if_pos, if_neg, e01, e10, em12, em21, e0m1, e0m2, e1m1, e1m2, em10, em20, Int32.reduceLT, Int32.reduceLE, eq_self, Option.bind_some, Option.map_some, false_or, or_false, or_self, true_or, or_true, not_true_eq_false, not_false_eq_true, false_and, and_false, true_and, and_true]
      refine ok_some ⟨⟨_, rfl⟩, ?_⟩
      rw [al, hg, hg2]; rfl
  · rintro s ⟨⟨z, rfl⟩, hg⟩
    simp (disch := omega) only [b_X12_isCover_1, f_X12_isCover_10, h37, nt_clamp, nt_le, nt_lt, nt_eq, lit_le, lit_lt, le_lit, lt_lit, eq_lit, lit_eq, nt_neg, nt_ge, nt_add, nt_mul, nt_addl, lit_add, nt_mull, lit_mul, nt_sub, nt_subl, lit_sub, nt_divl, nt_m1, nt_m2, nt_m1', nt_m2', if_true, if_false, if_pos, if_neg, e01, e10, em12, em21, e0m1, e0m2, e1m1, e1m2, em10, em20, Int32.reduceLT, Int32.reduceLE, eq_self, Option.bind_some, Option.map_some, false_or, or_false, or_self, true_or, or_true, not_true_eq_false, not_false_eq_true, false_and, and_false, true_and, and_true]
    refine ok_some ?_
    rw [show cvb n m w k (I 79) = true from hg]; rfl
theorem firstPick_ok {I : xI} {J : xJ} {k : Nat} (hk : k ≤ 8) : Ok (f_X12_firstPick (nt k) I J) (fun o => o.2.2 = J ∧ (∀ i, i < k → o.2.1 80 i = nt i) ∧ ∀ c j, ¬ c = 80 → o.2.1 c j = I c j) := by
  unfold f_X12_firstPick f_X12_firstPick_0 f_X12_firstPick_1
  refine ok_loop (fun i s => ∃ I', s = (nt k, nt i, I', J) ∧ (∀ j, j < i → I' 80 j = nt j) ∧ ∀ c j, ¬ c = 80 → I' c j = I c j) k ?_ ?_ 5000 0 _ (by omega) (by omega) ⟨I, rfl, fun j hj => absurd hj (by omega), fun _ _ _ => rfl⟩
  · rintro i hi s ⟨I', rfl, g1, g2⟩
    simp (disch := omega) only [b_X12_firstPick_1, f_X12_firstPick_2, nt_clamp, nt_le, nt_lt, nt_eq, lit_le, lit_lt, le_lit, lt_lit, eq_lit, lit_eq, nt_neg, nt_ge, nt_add, nt_mul, nt_addl, lit_add, nt_mull, lit_mul, nt_sub, nt_subl, lit_sub, nt_divl, nt_m1, nt_m2, nt_m1', nt_m2', if_true, if_false, if_pos, if_neg, e01, e10, em12, em21, e0m1, e0m2, e1m1, e1m2, em10, em20, Int32.reduceLT, Int32.reduceLE, eq_self, Option.bind_some, Option.map_some, false_or, or_false, or_self, true_or, or_true, not_true_eq_false, not_false_eq_true, false_and, and_false, true_and, and_true]
    refine ok_some ⟨_, rfl, ?_, ?_⟩
    · intro j hj
      rw [xup_if]
      by_cases c : j = i
      · rw [if_pos c, c]
      · rw [if_neg c]; exact g1 j (by omega)
    · intro c j hc
      rw [xup_bj _ _ _ _ _ hc, g2 c j hc]
  · rintro s ⟨I', rfl, g1, g2⟩
    simp (disch := omega) only [b_X12_firstPick_1, f_X12_firstPick_3, nt_clamp, nt_le, nt_lt, nt_eq, lit_le, lit_lt, le_lit, lt_lit, eq_lit, lit_eq, nt_neg, nt_ge, nt_add, nt_mul, nt_addl, lit_add, nt_mull, lit_mul, nt_sub, nt_subl, lit_sub, nt_divl, nt_m1, nt_m2, nt_m1', nt_m2', if_true, if_false, if_pos, if_neg, e01, e10, em12, em21, e0m1, e0m2, e1m1, e1m2, em10, em20, Int32.reduceLT, Int32.reduceLE, eq_self, Option.bind_some, Option.map_some, false_or, or_false, or_self, true_or, or_true, not_true_eq_false, not_false_eq_true, false_and, and_false, true_and, and_true]
    exact ok_some ⟨rfl, g1, g2⟩
theorem nt_m1s {c : Nat} (h : 1 ≤ c) : nt c - 1 = nt (c - 1) := nt_sub (b := 1) h
theorem add_m1 (x : Int32) : x + Int32.ofInt (-1) = x - 1 := by
  rw [Int32.sub_eq_add_neg]; rfl
theorem nextPick_ok {I : xI} {J : xJ} {N k : Nat} {p : Nat → Nat} (hk : k ≤ 8) (hN : N ≤ 64) (hp : Pk N k p) (h : ∀ j, j < k → I 80 j = nt (p j)) : Ok (f_X12_nextPick (nt k) (nt N) I J) (fun o => o.2.2 = J ∧ (∀ c j, ¬ c = 80 → o.2.1 c j = I c j) ∧ ((o.1 = 1 ∧ ∃ q, Pk N k q ∧ (∀ j, j < k → o.2.1 80 j = nt (q j)) ∧ lx k p q ∧ ∀ r, Pk N k r → lx k p r → ¬ lx k r q) ∨ (o.1 = 0 ∧ ∀ r, Pk N k r → ¬ lx k p r))) := by
  unfold f_X12_nextPick f_X12_nextPick_0 f_X12_nextPick_1
  refine ok_loop (fun i s => s = (nt k, nt N, nt (k - i) - 1, I, J) ∧ ∀ j, k - i ≤ j → j < k → p j + (k - j) = N) k ?_ ?_ 5000 0 _ (by omega) (by omega) ⟨rfl, fun j h1 h2 => absurd h1 (by omega)⟩
  · rintro i hi s ⟨rfl, hg⟩
    have hc : k - i - 1 < k := by omega
    have hb := hp.1 (k - i - 1) hc
    have hmx := Pk_max hp hc
    have hmx0 := Pk_max hp (show 0 < k from by omega)
    simp (disch := omega) only [b_X12_nextPick_1, f_X12_nextPick_2, nt_m1s, nt_clamp, nt_le, nt_lt, nt_eq, lit_le, lit_lt, le_lit, lt_lit, eq_lit, lit_eq, nt_neg, nt_ge, nt_add, nt_mul, nt_addl, lit_add, nt_mull, lit_mul, nt_sub, nt_subl, lit_sub, nt_divl, nt_m1, nt_m2, nt_m1', nt_m2', false_or, if_neg, h (k - i - 1) hc]
    by_cases hlt : p (k - i - 1) < N - k + (k - i - 1)
    · rw [if_pos hlt]
      simp (disch := omega) only [f_X12_nextPick_4, nt_clamp, nt_le, nt_lt, nt_eq, lit_le, lit_lt, le_lit, lt_lit, eq_lit, lit_eq, nt_neg, nt_ge, nt_add, nt_mul, nt_addl, lit_add, nt_mull, lit_mul, nt_sub, nt_subl, lit_sub, nt_divl, nt_m1, nt_m2, nt_m1', nt_m2', false_or, if_neg, h (k - i - 1) hc]
      apply ok_map
      unfold f_X12_nextPick_5
      have hpos : p (k - i - 1) + (k - (k - i - 1)) < N := by omega
      refine ok_loop (fun j s => ∃ I', s = (nt k, nt N, nt (k - i - 1), nt j, I', J) ∧ k - i - 1 < j ∧ (∀ l, l < j → I' 80 l = nt (nxp p (k - i - 1) l)) ∧ ∀ c j, ¬ c = 80 → I' c j = I c j) k ?_ ?_ 5000 (k - i - 1 + 1) _ (by omega) (by omega) ⟨_, rfl, by omega, ?_, ?_⟩
      · rintro j hj s ⟨I', rfl, hij, g1, g2⟩
        have e1 := g1 (j - 1) (by omega)
        have e2 : nxp p (k - i - 1) j = nxp p (k - i - 1) (j - 1) + 1 := by
          unfold nxp; rw [if_neg (by omega), if_neg (by omega)]; omega
        simp (disch := omega) only [b_X12_nextPick_5, f_X12_nextPick_6, nt_clamp, nt_le, nt_lt, nt_eq, lit_le, lit_lt, le_lit, lt_lit, eq_lit, lit_eq, nt_neg, nt_ge, nt_add, nt_mul, nt_addl, lit_add, nt_mull, lit_mul, nt_sub, nt_subl, lit_sub, nt_divl, nt_m1, nt_m2, nt_m1', nt_m2', false_or, if_neg, e1]
        refine ok_some ⟨_, rfl, by omega, ?_, ?_⟩
        · intro l hl
          rw [xup_if]
          by_cases c : l = j
          · rw [if_pos c, c, e2]
          · rw [if_neg c]; exact g1 l (by omega)
        · intro c j hc
          rw [xup_bj _ _ _ _ _ hc, g2 c j hc]
      · rintro s ⟨I', rfl, hij, g1, g2⟩
        simp (disch := omega) only [b_X12_nextPick_5, f_X12_nextPick_7, nt_clamp, nt_le, nt_lt, nt_eq, lit_le, lit_lt, le_lit, lt_lit, eq_lit, lit_eq, nt_neg, nt_ge, nt_add, nt_mul, nt_addl, lit_add, nt_mull, lit_mul, nt_sub, nt_subl, lit_sub, nt_divl, nt_m1, nt_m2, nt_m1', nt_m2', if_true, if_false, if_pos, if_neg, e01, e10, em12, em21, e0m1, e0m2, e1m1, e1m2, em10, em20, Int32.reduceLT, Int32.reduceLE, eq_self, Option.bind_some, Option.map_some, false_or, or_false, or_self, true_or, or_true, not_true_eq_false, not_false_eq_true, false_and, and_false, true_and, and_true]
        refine ok_some ?_
        refine ⟨rfl, g2, Or.inl ⟨rfl, nxp p (k - i - 1), nx_pk hp hc hpos, g1, nx_lx hc, ?_⟩⟩
        intro r hr hlx
        exact nx_least hr (fun j h1 h2 => hg j (by omega) h2) hlx
      · intro l hl
        rw [xup_if]
        unfold nxp
        by_cases c : l = k - i - 1
        · rw [if_pos c, if_neg (by omega), c, show p (k - i - 1) + 1 + (k - i - 1 - (k - i - 1)) = p (k - i - 1) + 1 from by omega]
        · rw [if_neg c, if_pos (by omega)]; exact h l (by omega)
      · intro c j hc
        rw [xup_bj _ _ _ _ _ hc]
    · rw [if_neg hlt]
      simp only [f_X12_nextPick_3, f_X12_nextPick_8, add_m1]
      refine ok_some ⟨?_, ?_⟩
      · rw [show k - (i + 1) = k - i - 1 from by omega]
      · intro j h1 h2
        by_cases c : j = k - i - 1
        · rw [c]; omega
        · exact hg j (by omega) h2
  · rintro s ⟨rfl, hg⟩
    have e : (nt (k - k) - 1 < 0) := by
      rw [show k - k = 0 from by omega]; decide
    simp only [b_X12_nextPick_1, if_pos e, f_X12_nextPick_9, Option.map_some]
    refine ok_some ?_
    exact ⟨rfl, fun _ _ _ => rfl, Or.inr ⟨rfl, fun r hr => no_next hr (fun j hj => hg j (by omega) hj)⟩⟩
/-- a row as a number -/
def vl (k : Nat) (p : Nat → Nat) : Nat := match k with
  | 0 => 0
  | k + 1 => vl k p * 64 + p k
theorem vl_congr {k : Nat} {p q : Nat → Nat} (h : ∀ i, i < k → p i = q i) : vl k p = vl k q := by
  induction k with
  | zero => rfl
  | succ k ih => unfold vl; rw [ih (fun i hi => h i (by omega)), h k (by omega)]
theorem vl_lt {k : Nat} {p q : Nat → Nat} (hp : ∀ i, i < k → p i < 64) (h : lx k p q) : vl k p < vl k q := by
  induction k with
  | zero => obtain ⟨i, hi, _⟩ := h; omega
  | succ k ih =>
    obtain ⟨i, hi, h1, h2⟩ := h
    unfold vl
    have := hp k (by omega)
    by_cases c : i = k
    · subst c
      rw [vl_congr h2]; omega
    · have := ih (fun i hi => hp i (by omega)) ⟨i, by omega, h1, h2⟩
      omega
theorem vl_max {k : Nat} {p : Nat → Nat} (hp : ∀ i, i < k → p i < 64) : vl k p < 64 ^ k := by
  induction k with
  | zero => exact Nat.zero_lt_one
  | succ k ih =>
    unfold vl
    have h1 := ih (fun i hi => hp i (by omega))
    have h2 := hp k (by omega)
    rw [Nat.pow_succ]
    omega
