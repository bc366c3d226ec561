/-! on which bits the next bits hang: the class -/
def nb (n : Nat) : Nat := if n ≤ 1 then 0 else if n = 2 then 1 else if n ≤ 4 then 2 else 3
theorem nb_le (n : Nat) : nb n ≤ 3 := by
  unfold nb; split
  · omega
  · split
    · omega
    · split <;> omega
theorem nb_pow : ∀ n, n < 7 → 2 ^ nb n ≤ 8 ∧ n ≤ 2 ^ nb n := by decide
theorem cbits_ok {n : Nat} {I : xI} {J : xJ} (hn : n ≤ 6) (h : I 1 0 = nt n) : f_X5_bits I J = some (nt (nb n), I, J) := by
  simp (disch := omega) only [f_X5_bits_7, f_X5_bits_6, f_X5_bits_5, f_X5_bits_4, f_X5_bits_3, f_X5_bits_2, f_X5_bits_1, f_X5_bits_0, f_X5_bits, h, nt_clamp, nt_le, nt_lt, nt_eq, lit_le, lit_lt, le_lit, lt_lit, eq_lit, lit_eq, nt_neg, nt_ge, nt_add, nt_mul, nt_addl, lit_add, nt_mull, lit_mul, nt_sub, nt_subl, lit_sub, nt_divl, nt_m1, nt_m2, nt_m1', nt_m2']
  unfold nb
  by_cases c1 : n ≤ 1
  · rw [if_neg (by omega), if_pos c1]; rfl
  · rw [if_pos (by omega), if_neg c1]
    by_cases c2 : n = 2
    · rw [if_pos c2, if_pos c2]; rfl
    · rw [if_neg c2, if_neg c2]
      by_cases c3 : n ≤ 4
      · rw [if_neg (by omega), if_pos c3]; rfl
      · rw [if_pos (by omega), if_neg c3]; rfl
theorem rbits_ok {n : Nat} {I : xI} {J : xJ} (hn : n ≤ 6) (h : I 61 17 = nt n) : f_X12_bits I J = some (nt (nb n), I, J) := by
  simp (disch := omega) only [f_X12_bits_7, f_X12_bits_6, f_X12_bits_5, f_X12_bits_4, f_X12_bits_3, f_X12_bits_2, f_X12_bits_1, f_X12_bits_0, f_X12_bits, h, nt_clamp, nt_le, nt_lt, nt_eq, lit_le, lit_lt, le_lit, lt_lit, eq_lit, lit_eq, nt_neg, nt_ge, nt_add, nt_mul, nt_addl, lit_add, nt_mull, lit_mul, nt_sub, nt_subl, lit_sub, nt_divl, nt_m1, nt_m2, nt_m1', nt_m2']
  unfold nb
  by_cases c1 : n ≤ 1
  · rw [if_neg (by omega), if_pos c1]; rfl
  · rw [if_pos (by omega), if_neg c1]
    by_cases c2 : n = 2
    · rw [if_pos c2, if_pos c2]; rfl
    · rw [if_neg c2, if_neg c2]
      by_cases c3 : n ≤ 4
      · rw [if_neg (by omega), if_pos c3]; rfl
      · rw [if_pos (by omega), if_neg c3]; rfl
theorem hasBit_ok {n : Nat} {I : xI} {J : xJ} {x : Int32} (hn : n ≤ 6) (h : I 1 0 = nt n) : f_X5_hasBit x I J = some (bi (isS (nb n) x), I, J) := by
  have := nb_le n
  rcases nt_all x with hx | ⟨k, hk, rfl⟩
  · rw [isS_neg hx]
    simp only [f_X5_hasBit_5, f_X5_hasBit_4, f_X5_hasBit_3, f_X5_hasBit_2, f_X5_hasBit_1, f_X5_hasBit_0, f_X5_hasBit, if_pos hx]
    rfl
  · rw [isS_nt (by omega) hk]
    simp (disch := omega) only [f_X5_hasBit_5, f_X5_hasBit_4, f_X5_hasBit_3, f_X5_hasBit_2, f_X5_hasBit_1, f_X5_hasBit_0, f_X5_hasBit, cbits_ok hn h, nt_clamp, nt_le, nt_lt, nt_eq, lit_le, lit_lt, le_lit, lt_lit, eq_lit, lit_eq, nt_neg, nt_ge, nt_add, nt_mul, nt_addl, lit_add, nt_mull, lit_mul, nt_sub, nt_subl, lit_sub, nt_divl, nt_m1, nt_m2, nt_m1', nt_m2', if_true, if_false, if_pos, if_neg, e01, e10, em12, em21, e0m1, e0m2, e1m1, e1m2, em10, em20, Int32.reduceLT, Int32.reduceLE, eq_self, Option.bind_some, Option.map_some, false_or, or_false, or_self, true_or, or_true, not_true_eq_false, not_false_eq_true, false_and, and_false, true_and, and_true]
    by_cases hc : nb n ≤ k
    · rw [if_pos hc, decide_eq_false (by omega)]; rfl
    · rw [if_neg hc, decide_eq_true (by omega)]; rfl
/-- alike in some bits -/
def eqb (c : Nat → Nat) (S a b : Nat) : Bool := decide ((c a ^^^ c b) &&& S = 0)
theorem xa8 : ∀ a, a < 8 → ∀ b, b < 8 → ∀ S, S < 8 → ((nt a ^^^ nt b) &&& nt S = 0) = ((a ^^^ b) &&& S = 0) := by decide +kernel
theorem eqb_comm (c : Nat → Nat) (S a b : Nat) : eqb c S a b = eqb c S b a := by unfold eqb; rw [Nat.xor_comm]
theorem eqb_self (c : Nat → Nat) (S a : Nat) : eqb c S a a = true := by unfold eqb; rw [Nat.xor_self, Nat.zero_and]; rfl
theorem eqb_or (c : Nat → Nat) (S T a b : Nat) : (eqb c S a b && eqb c T a b) = eqb c (S ||| T) a b := by
  unfold eqb
  rw [Nat.and_or_distrib_left]
  generalize (c a ^^^ c b) &&& S = x
  generalize (c a ^^^ c b) &&& T = y
  have := Nat.or_eq_zero_iff (m := y) (n := x)
  by_cases h1 : x = 0
  · by_cases h2 : y = 0
    · rw [h1, h2]; rfl
    · rw [decide_eq_true h1, decide_eq_false h2, decide_eq_false (fun h => h2 (this.mp h).2)]; rfl
  · rw [decide_eq_false h1, decide_eq_false (p := x ||| y = 0) (fun h => h1 (this.mp h).1)]; rfl
def akp (n : Nat) (c : Nat → Nat) (S : Nat) : Int32 := pmk (fun q => decide (pH q < n) && eqb c S (pL q) (pH q))
theorem akp_or (n : Nat) (c : Nat → Nat) (S T : Nat) : akp n c S &&& akp n c T = akp n c (S ||| T) := by
  apply bt_ext
  intro q hq
  unfold akp
  rw [bt_and, pmk_bt hq, pmk_bt hq, pmk_bt hq, ← eqb_or]
  cases decide (q < 15) <;> cases decide (pH q < n) <;> cases eqb c S (pL q) (pH q) <;> cases eqb c T (pL q) (pH q) <;> rfl
theorem akp_bt {n : Nat} {c : Nat → Nat} {S q : Nat} (hq : q < 32) : bt (akp n c S) q = (decide (q < 15) && (decide (pH q < n) && eqb c S (pL q) (pH q))) := pmk_bt hq
theorem alike4_ok {n S : Nat} {c : Nat → Nat} {I : xI} {J : xJ} (hn : n ≤ 6) (h : I 1 0 = nt n) (hc : ∀ s, s < n → I 4 s = nt (c s) ∧ c s < 8) (hS : S < 8) : f_X3_alikePairs_4 (nt S) I J = some (akp n c S, I, J) := by
  apply Ok.eq
  unfold f_X3_alikePairs_4 f_X3_alikePairs_4_0 f_X3_alikePairs_4_1
  refine ok_loop (fun a s => ∃ v z, s = (nt S, v, nt a, z, I, J) ∧ ∀ q, q < 32 → bt v q = (decide (q < 15) && (dn a 0 q && (decide (pH q < n) && eqb c S (pL q) (pH q))))) n ?_ ?_ 5000 0 _ (by omega) (by omega) ⟨0, none, rfl, ?_⟩
  · rintro a ha s ⟨v, z, rfl, g1⟩
    simp (disch := omega) only [b_X3_alikePairs_4_1, f_X3_alikePairs_4_2, h, nt_clamp, nt_le, nt_lt, nt_eq, lit_le, lit_lt, le_lit, lt_lit, eq_lit, lit_eq, nt_neg, nt_ge, nt_add, nt_mul, nt_addl, lit_add, nt_mull, lit_mul, nt_sub, nt_subl, lit_sub, nt_divl, nt_m1, nt_m2, nt_m1', nt_m2', if_true, if_false, if_pos, if_neg, e01, e10, em12, em21, e0m1, e0m2, e1m1, e1m2, em10, em20, Int32.reduceLT, Int32.reduceLE, eq_self, Option.bind_some, Option.map_some, false_or, or_false, or_self, true_or, or_true, not_true_eq_false, not_false_eq_true, false_and, and_false, true_and, and_true]
    unfold f_X3_alikePairs_4_3
    refine ok_loop (fun b s => ∃ v, s = (nt S, v, nt a, nt b, I, J) ∧ a < b ∧ ∀ q, q < 32 → bt v q = (decide (q < 15) && (dn a b q && (decide (pH q < n) && eqb c S (pL q) (pH q))))) n ?_ ?_ 5000 (a + 1) _ (by omega) (by omega) ⟨v, rfl, by omega, ?_⟩
    · rintro b hb s ⟨v, rfl, hab, g2⟩
      simp (disch := omega) only [b_X3_alikePairs_4_3, f_X3_alikePairs_4_4, f_X3_alikePairs_4_5, f_X3_alikePairs_4_6, f_X3_alikePairs_4_7, h, nt_clamp, nt_le, nt_lt, nt_eq, lit_le, lit_lt, le_lit, lt_lit, eq_lit, lit_eq, nt_neg, nt_ge, nt_add, nt_mul, nt_addl, lit_add, nt_mull, lit_mul, nt_sub, nt_subl, lit_sub, nt_divl, nt_m1, nt_m2, nt_m1', nt_m2', false_or, if_neg, (hc a ha).1, (hc b hb).1, xa8 _ (hc a ha).2 _ (hc b hb).2 S hS, pairOf_ok, Option.bind_some]
      have hst := dn_step a (by omega) b (by omega) hab
      have el := pX_inv a (by omega) b (by omega) hab
      have hpx := pX_lt a (by omega) b (by omega)
      by_cases e : (c a ^^^ c b) &&& S = 0
      · rw [if_pos e]
        have e' : eqb c S a b = true := decide_eq_true e
        refine ok_some ⟨_, rfl, by omega, ?_⟩
        intro q hq
        rw [bt_or, g2 q hq, pm_bt (by omega) (by omega) hq, decide_eq_false (show ¬ a = b from by omega)]
        by_cases c15 : q < 15
        · rw [hst q c15]
          by_cases c : q = pX a b
          · rw [c, decide_eq_true rfl, decide_eq_true hpx, el.1, el.2, e', decide_eq_true hb]; simp
          · rw [decide_eq_false c]; simp
        · rw [decide_eq_false c15, decide_eq_false (show ¬ q = pX a b from by omega)]; simp
      · rw [if_neg e]
        have e' : eqb c S a b = false := decide_eq_false e
        refine ok_some ⟨_, rfl, by omega, ?_⟩
        intro q hq
        rw [g2 q hq]
        by_cases c15 : q < 15
        · rw [hst q c15]
          by_cases c : q = pX a b
          · rw [c, el.1, el.2, e']; simp
          · rw [decide_eq_false c, Bool.or_false]
        · rw [decide_eq_false c15]; rfl
    · rintro s ⟨v, rfl, hab, g2⟩
      simp (disch := omega) only [b_X3_alikePairs_4_3, f_X3_alikePairs_4_8, h, nt_clamp, nt_le, nt_lt, nt_eq, lit_le, lit_lt, le_lit, lt_lit, eq_lit, lit_eq, nt_neg, nt_ge, nt_add, nt_mul, nt_addl, lit_add, nt_mull, lit_mul, nt_sub, nt_subl, lit_sub, nt_divl, nt_m1, nt_m2, nt_m1', nt_m2', if_true, if_false, if_pos, if_neg, e01, e10, em12, em21, e0m1, e0m2, e1m1, e1m2, em10, em20, Int32.reduceLT, Int32.reduceLE, eq_self, Option.bind_some, Option.map_some, false_or, or_false, or_self, true_or, or_true, not_true_eq_false, not_false_eq_true, false_and, and_false, true_and, and_true]
      refine ok_some ⟨v, _, rfl, ?_⟩
      intro q hq
      rw [g2 q hq]
      by_cases c15 : q < 15
      · by_cases c : pH q < n
        · have : dn (a + 1) 0 q = dn a n q := by
            unfold dn
            rw [decide_eq_true c, decide_eq_false (show ¬ pH q < 0 from by omega), Bool.and_false, Bool.or_false, Bool.and_true]
            by_cases c1 : pL q < a
            · rw [decide_eq_true c1, decide_eq_true (show pL q < a + 1 from by omega)]; rfl
            · by_cases c2 : pL q = a
              · rw [decide_eq_true c2, decide_eq_true (show pL q < a + 1 from by omega), Bool.or_true]
              · rw [decide_eq_false c1, decide_eq_false c2, decide_eq_false (show ¬ pL q < a + 1 from by omega)]; rfl
          rw [this]
        · rw [decide_eq_false c]; simp
      · rw [decide_eq_false c15]; rfl
    · intro q hq
      rw [g1 q hq]
      by_cases c15 : q < 15
      · rw [dn_first a (by omega) q c15]
      · rw [decide_eq_false c15]; rfl
  · rintro s ⟨v, z, rfl, g1⟩
    simp (disch := omega) only [b_X3_alikePairs_4_1, f_X3_alikePairs_4_9, h, nt_clamp, nt_le, nt_lt, nt_eq, lit_le, lit_lt, le_lit, lt_lit, eq_lit, lit_eq, nt_neg, nt_ge, nt_add, nt_mul, nt_addl, lit_add, nt_mull, lit_mul, nt_sub, nt_subl, lit_sub, nt_divl, nt_m1, nt_m2, nt_m1', nt_m2', if_true, if_false, if_pos, if_neg, e01, e10, em12, em21, e0m1, e0m2, e1m1, e1m2, em10, em20, Int32.reduceLT, Int32.reduceLE, eq_self, Option.bind_some, Option.map_some, false_or, or_false, or_self, true_or, or_true, not_true_eq_false, not_false_eq_true, false_and, and_false, true_and, and_true]
    refine ok_some ?_
    have : v = akp n c S := by
      apply bt_ext
      intro q hq
      rw [g1 q hq, akp_bt hq]
      by_cases c15 : q < 15
      · by_cases c : pH q < n
        · have hlh := (pX_lh q c15).2.1
          unfold dn
          rw [decide_eq_true (show pL q < n from by omega)]; simp
        · rw [decide_eq_false c]; simp
      · rw [decide_eq_false c15]; rfl
    rw [this]; rfl
  · intro q hq
    rw [bt_zero]
    unfold dn
    simp
theorem alike57_ok {n S : Nat} {c : Nat → Nat} {I : xI} {J : xJ} (hn : n ≤ 6) (h : I 1 0 = nt n) (hc : ∀ s, s < n → I 57 s = nt (c s) ∧ c s < 8) (hS : S < 8) : f_X3_alikePairs_57 (nt S) I J = some (akp n c S, I, J) := by
  apply Ok.eq
  unfold f_X3_alikePairs_57 f_X3_alikePairs_57_0 f_X3_alikePairs_57_1
  refine ok_loop (fun a s => ∃ v z, s = (nt S, v, nt a, z, I, J) ∧ ∀ q, q < 32 → bt v q = (decide (q < 15) && (dn a 0 q && (decide (pH q < n) && eqb c S (pL q) (pH q))))) n ?_ ?_ 5000 0 _ (by omega) (by omega) ⟨0, none, rfl, ?_⟩
  · rintro a ha s ⟨v, z, rfl, g1⟩
    simp (disch := omega) only [b_X3_alikePairs_57_1, f_X3_alikePairs_57_2, h, nt_clamp, nt_le, nt_lt, nt_eq, lit_le, lit_lt, le_lit, lt_lit, eq_lit, lit_eq, nt_neg, nt_ge, nt_add, nt_mul, nt_addl, lit_add, nt_mull, lit_mul, nt_sub, nt_subl, lit_sub, nt_divl, nt_m1, nt_m2, nt_m1', nt_m2', if_true, if_false, if_pos, if_neg, e01, e10, em12, em21, e0m1, e0m2, e1m1, e1m2, em10, em20, Int32.reduceLT, Int32.reduceLE, eq_self, Option.bind_some, Option.map_some, false_or, or_false, or_self, true_or, or_true, not_true_eq_false, not_false_eq_true, false_and, and_false, true_and, and_true]
    unfold f_X3_alikePairs_57_3
    refine ok_loop (fun b s => ∃ v, s = (nt S, v, nt a, nt b, I, J) ∧ a < b ∧ ∀ q, q < 32 → bt v q = (decide (q < 15) && (dn a b q && (decide (pH q < n) && eqb c S (pL q) (pH q))))) n ?_ ?_ 5000 (a + 1) _ (by omega) (by omega) ⟨v, rfl, by omega, ?_⟩
    · rintro b hb s ⟨v, rfl, hab, g2⟩
      simp (disch := omega) only [b_X3_alikePairs_57_3, f_X3_alikePairs_57_4, f_X3_alikePairs_57_5, f_X3_alikePairs_57_6, f_X3_alikePairs_57_7, h, nt_clamp, nt_le, nt_lt, nt_eq, lit_le, lit_lt, le_lit, lt_lit, eq_lit, lit_eq, nt_neg, nt_ge, nt_add, nt_mul, nt_addl, lit_add, nt_mull, lit_mul, nt_sub, nt_subl, lit_sub, nt_divl, nt_m1, nt_m2, nt_m1', nt_m2', false_or, if_neg, (hc a ha).1, (hc b hb).1, xa8 _ (hc a ha).2 _ (hc b hb).2 S hS, pairOf_ok, Option.bind_some]
      have hst := dn_step a (by omega) b (by omega) hab
      have el := pX_inv a (by omega) b (by omega) hab
      have hpx := pX_lt a (by omega) b (by omega)
      by_cases e : (c a ^^^ c b) &&& S = 0
      · rw [if_pos e]
        have e' : eqb c S a b = true := decide_eq_true e
        refine ok_some ⟨_, rfl, by omega, ?_⟩
        intro q hq
        rw [bt_or, g2 q hq, pm_bt (by omega) (by omega) hq, decide_eq_false (show ¬ a = b from by omega)]
        by_cases c15 : q < 15
        · rw [hst q c15]
          by_cases c : q = pX a b
          · rw [c, decide_eq_true rfl, decide_eq_true hpx, el.1, el.2, e', decide_eq_true hb]; simp
          · rw [decide_eq_false c]; simp
        · rw [decide_eq_false c15, decide_eq_false (show ¬ q = pX a b from by omega)]; simp
      · rw [if_neg e]
        have e' : eqb c S a b = false := decide_eq_false e
        refine ok_some ⟨_, rfl, by omega, ?_⟩
        intro q hq
        rw [g2 q hq]
        by_cases c15 : q < 15
        · rw [hst q c15]
          by_cases c : q = pX a b
          · rw [c, el.1, el.2, e']; simp
          · rw [decide_eq_false c, Bool.or_false]
        · rw [decide_eq_false c15]; rfl
    · rintro s ⟨v, rfl, hab, g2⟩
      simp (disch := omega) only [b_X3_alikePairs_57_3, f_X3_alikePairs_57_8, h, nt_clamp, nt_le, nt_lt, nt_eq, lit_le, lit_lt, le_lit, lt_lit, eq_lit, lit_eq, nt_neg, nt_ge, nt_add, nt_mul, nt_addl, lit_add, nt_mull, lit_mul, nt_sub, nt_subl, lit_sub, nt_divl, nt_m1, nt_m2, nt_m1', nt_m2', if_true, if_false, if_pos, if_neg, e01, e10, em12, em21, e0m1, e0m2, e1m1, e1m2, em10, em20, Int32.reduceLT, Int32.reduceLE, eq_self, Option.bind_some, Option.map_some, false_or, or_false, or_self, true_or, or_true, not_true_eq_false, not_false_eq_true, false_and, and_false, true_and, and_true]
      refine ok_some ⟨v, _, rfl, ?_⟩
      intro q hq
      rw [g2 q hq]
      by_cases c15 : q < 15
      · by_cases c : pH q < n
        · have : dn (a + 1) 0 q = dn a n q := by
            unfold dn
            rw [decide_eq_true c, decide_eq_false (show ¬ pH q < 0 from by omega), Bool.and_false, Bool.or_false, Bool.and_true]
            by_cases c1 : pL q < a
            · rw [decide_eq_true c1, decide_eq_true (show pL q < a + 1 from by omega)]; rfl
            · by_cases c2 : pL q = a
              · rw [decide_eq_true c2, decide_eq_true (show pL q < a + 1 from by omega), Bool.or_true]
              · rw [decide_eq_false c1, decide_eq_false c2, decide_eq_false (show ¬ pL q < a + 1 from by omega)]; rfl
          rw [this]
        · rw [decide_eq_false c]; simp
      · rw [decide_eq_false c15]; rfl
    · intro q hq
      rw [g1 q hq]
      by_cases c15 : q < 15
      · rw [dn_first a (by omega) q c15]
      · rw [decide_eq_false c15]; rfl
  · rintro s ⟨v, z, rfl, g1⟩
    simp (disch := omega) only [b_X3_alikePairs_57_1, f_X3_alikePairs_57_9, h, nt_clamp, nt_le, nt_lt, nt_eq, lit_le, lit_lt, le_lit, lt_lit, eq_lit, lit_eq, nt_neg, nt_ge, nt_add, nt_mul, nt_addl, lit_add, nt_mull, lit_mul, nt_sub, nt_subl, lit_sub, nt_divl, nt_m1, nt_m2, nt_m1', nt_m2', if_true, if_false, if_pos, if_neg, e01, e10, em12, em21, e0m1, e0m2, e1m1, e1m2, em10, em20, Int32.reduceLT, Int32.reduceLE, eq_self, Option.bind_some, Option.map_some, false_or, or_false, or_self, true_or, or_true, not_true_eq_false, not_false_eq_true, false_and, and_false, true_and, and_true]
    refine ok_some ?_
    have : v = akp n c S := by
      apply bt_ext
      intro q hq
      rw [g1 q hq, akp_bt hq]
      by_cases c15 : q < 15
      · by_cases c : pH q < n
        · have hlh := (pX_lh q c15).2.1
          unfold dn
          rw [decide_eq_true (show pL q < n from by omega)]; simp
        · rw [decide_eq_false c]; simp
      · rw [decide_eq_false c15]; rfl
    rw [this]; rfl
  · intro q hq
    rw [bt_zero]
    unfold dn
    simp
/-- what the class's hanging holds for a coding -/
def cHn (n : Nat) (c : Nat → Nat) (c33 c49 c50 : Nat → Int32) : Prop := (∀ b, b < nb n → c49 b = akp n c (2 ^ b)) ∧ ∀ S, S < 2 ^ nb n → c50 S = fol c33 (akp n c S)
theorem shl3 : ∀ k, k < 4 → (1 : Int32) <<< (nt k &&& 31) = nt (2 ^ k) := by decide
theorem sbit : ∀ S, S < 8 → ∀ k, k < 3 → ((nt S >>> (nt k &&& 31)) &&& 1 = 1) = (S % 2 ^ (k + 1) = S % 2 ^ k ||| 2 ^ k ∧ S / 2 ^ k % 2 = 1) := by decide +kernel
theorem sbit0 : ∀ S, S < 8 → ∀ k, k < 3 → ¬ ((nt S >>> (nt k &&& 31)) &&& 1 = 1) → S % 2 ^ (k + 1) = S % 2 ^ k := by decide +kernel
theorem load4_ok {n : Nat} {c : Nat → Nat} {I : xI} {J : xJ} (hn : n ≤ 6) (h : I 1 0 = nt n) (hc : ∀ s, s < n → I 4 s = nt (c s) ∧ c s < 8) : Ok (f_X3_load_4 I J) (fun o => o.2.2 = J ∧ cHn n c (I 33) (o.2.1 49) (o.2.1 50) ∧ ∀ a j, ¬ a = 49 → ¬ a = 50 → o.2.1 a j = I a j) := by
  have hb3 := nb_le n
  have hp := nb_pow n (by omega)
  unfold f_X3_load_4 f_X3_load_4_0
  have a0 := alike4_ok (S := 0) (J := J) hn h hc (by omega)
  rw [show (0 : Int32) = nt 0 from rfl, a0]
  simp only [Option.bind_some, f_X3_load_4_1]
  unfold f_X3_load_4_2
  refine ok_loop (fun k s => ∃ I1, s = (akp n c 0, nt k, I1, J) ∧ (∀ b, b < k → I1 49 b = akp n c (2 ^ b)) ∧ ∀ a j, ¬ a = 49 → I1 a j = I a j) (nb n) ?_ ?_ 5000 0 _ (by omega) (by omega) ⟨I, rfl, fun b hb => absurd hb (by omega), fun a j _ => rfl⟩
  · rintro k hk s ⟨I1, rfl, g1, g2⟩
    have e10 : I1 1 0 = nt n := (g2 1 0 (by omega)).trans h
    have al := alike4_ok (S := 2 ^ k) (J := J) hn e10 (fun s hs => by rw [g2 4 s (by omega)]; exact hc s hs) (by rcases (show k = 0 ∨ k = 1 ∨ k = 2 from by omega) with rfl | rfl | rfl <;> decide)
    simp (disch := omega) only [b_X3_load_4_2, f_X3_load_4_3, f_X3_load_4_4, f_X3_load_4_5, cbits_ok hn e10, shl3 k (by omega), al, nt_clamp, nt_le, nt_lt, nt_eq, lit_le, lit_lt, le_lit, lt_lit, eq_lit, lit_eq, nt_neg, nt_ge, nt_add, nt_mul, nt_addl, lit_add, nt_mull, lit_mul, nt_sub, nt_subl, lit_sub, nt_divl, nt_m1, nt_m2, nt_m1', nt_m2', if_true, if_false, if_pos, if_neg, e01, e10, em12, em21, e0m1, e0m2, e1m1, e1m2, em10, em20, Int32.reduceLT, Int32.reduceLE, eq_self, Option.bind_some, Option.map_some, false_or, or_false, or_self, true_or, or_true, not_true_eq_false, not_false_eq_true, false_and, and_false, true_and, and_true]
    refine ok_some ⟨_, rfl, ?_, ?_⟩
    · intro b hb
      rw [xup_if]
      by_cases e : b = k
      · rw [if_pos e, e]
      · rw [if_neg e]; exact g1 b (by omega)
    · intro a j ha
      rw [xup_bj _ _ _ _ _ ha]; exact g2 a j ha
  · rintro s ⟨I1, rfl, g1, g2⟩
    have e10 : I1 1 0 = nt n := (g2 1 0 (by omega)).trans h
    simp (disch := omega) only [b_X3_load_4_2, f_X3_load_4_3, f_X3_load_4_6, cbits_ok hn e10, nt_clamp, nt_le, nt_lt, nt_eq, lit_le, lit_lt, le_lit, lt_lit, eq_lit, lit_eq, nt_neg, nt_ge, nt_add, nt_mul, nt_addl, lit_add, nt_mull, lit_mul, nt_sub, nt_subl, lit_sub, nt_divl, nt_m1, nt_m2, nt_m1', nt_m2', if_true, if_false, if_pos, if_neg, e01, e10, em12, em21, e0m1, e0m2, e1m1, e1m2, em10, em20, Int32.reduceLT, Int32.reduceLE, eq_self, Option.bind_some, Option.map_some, false_or, or_false, or_self, true_or, or_true, not_true_eq_false, not_false_eq_true, false_and, and_false, true_and, and_true]
    apply ok_map
    unfold f_X3_load_4_7
    refine ok_loop (fun S s => ∃ I2 z z', s = (akp n c 0, nt S, z, z', I2, J) ∧ (∀ T, T < S → I2 50 T = fol (I 33) (akp n c T)) ∧ ∀ a j, ¬ a = 50 → I2 a j = I1 a j) (2 ^ nb n) ?_ ?_ 5000 0 _ (by omega) (by omega) ⟨I1, none, none, rfl, fun b hb => absurd hb (by omega), fun a j _ => rfl⟩
    · rintro S hS s ⟨I2, z, z', rfl, k1, k2⟩
      have f10 : I2 1 0 = nt n := (k2 1 0 (by omega)).trans e10
      simp (disch := omega) only [b_X3_load_4_7, f_X3_load_4_8, f_X3_load_4_9, cbits_ok hn f10, shl3 (nb n) (by omega), nt_clamp, nt_le, nt_lt, nt_eq, lit_le, lit_lt, le_lit, lt_lit, eq_lit, lit_eq, nt_neg, nt_ge, nt_add, nt_mul, nt_addl, lit_add, nt_mull, lit_mul, nt_sub, nt_subl, lit_sub, nt_divl, nt_m1, nt_m2, nt_m1', nt_m2', if_true, if_false, if_pos, if_neg, e01, e10, em12, em21, e0m1, e0m2, e1m1, e1m2, em10, em20, Int32.reduceLT, Int32.reduceLE, eq_self, Option.bind_some, Option.map_some, false_or, or_false, or_self, true_or, or_true, not_true_eq_false, not_false_eq_true, false_and, and_false, true_and, and_true]
      unfold f_X3_load_4_10
      refine ok_loop (fun k s => s = (akp n c 0, nt S, akp n c (S % 2 ^ k), nt k, I2, J)) (nb n) ?_ ?_ 5000 0 _ (by omega) (by omega) ?_
      · rintro k hk s rfl
        have f49 : I2 49 k = akp n c (2 ^ k) := (k2 49 k (by omega)).trans (g1 k hk)
        simp (disch := omega) only [b_X3_load_4_10, f_X3_load_4_11, f_X3_load_4_12, f_X3_load_4_13, f_X3_load_4_14, f_X3_load_4_15, cbits_ok hn f10, nt_clamp, nt_le, nt_lt, nt_eq, lit_le, lit_lt, le_lit, lt_lit, eq_lit, lit_eq, nt_neg, nt_ge, nt_add, nt_mul, nt_addl, lit_add, nt_mull, lit_mul, nt_sub, nt_subl, lit_sub, nt_divl, nt_m1, nt_m2, nt_m1', nt_m2', if_true, if_false, if_pos, if_neg, e01, e10, em12, em21, e0m1, e0m2, e1m1, e1m2, em10, em20, Int32.reduceLT, Int32.reduceLE, eq_self, Option.bind_some, Option.map_some, false_or, or_false, or_self, true_or, or_true, not_true_eq_false, not_false_eq_true, false_and, and_false, true_and, and_true, f49, akp_or, Nat.or_zero]
        by_cases e : (nt S >>> (nt k &&& 31)) &&& 1 = 1
        · rw [if_pos e]
          rw [sbit S (by omega) k (by omega)] at e
          rw [← e.1]
          exact ok_some rfl
        · rw [if_neg e]
          rw [← sbit0 S (by omega) k (by omega) e]
          exact ok_some rfl
      · rintro s rfl
        simp (disch := omega) only [b_X3_load_4_10, f_X3_load_4_11, f_X3_load_4_16, f_X3_load_4_17, cbits_ok hn f10, followed_ok, nt_clamp, nt_le, nt_lt, nt_eq, lit_le, lit_lt, le_lit, lt_lit, eq_lit, lit_eq, nt_neg, nt_ge, nt_add, nt_mul, nt_addl, lit_add, nt_mull, lit_mul, nt_sub, nt_subl, lit_sub, nt_divl, nt_m1, nt_m2, nt_m1', nt_m2', if_true, if_false, if_pos, if_neg, e01, e10, em12, em21, e0m1, e0m2, e1m1, e1m2, em10, em20, Int32.reduceLT, Int32.reduceLE, eq_self, Option.bind_some, Option.map_some, false_or, or_false, or_self, true_or, or_true, not_true_eq_false, not_false_eq_true, false_and, and_false, true_and, and_true]
        refine ok_some ⟨_, _, _, rfl, ?_, ?_⟩
        · intro T hT
          rw [xup_if]
          by_cases e : T = S
          · rw [if_pos e, e, Nat.mod_eq_of_lt hS]
            have : I2 33 = I 33 := funext fun j => (k2 33 j (by omega)).trans (g2 33 j (by omega))
            rw [this]
          · rw [if_neg e]; exact k1 T (by omega)
        · intro a j ha
          rw [xup_bj _ _ _ _ _ ha]; exact k2 a j ha
      · rw [Nat.pow_zero, Nat.mod_one]; rfl
    · rintro s ⟨I2, z, z', rfl, k1, k2⟩
      have f10 : I2 1 0 = nt n := (k2 1 0 (by omega)).trans e10
      simp (disch := omega) only [b_X3_load_4_7, f_X3_load_4_8, f_X3_load_4_18, cbits_ok hn f10, shl3 (nb n) (by omega), nt_clamp, nt_le, nt_lt, nt_eq, lit_le, lit_lt, le_lit, lt_lit, eq_lit, lit_eq, nt_neg, nt_ge, nt_add, nt_mul, nt_addl, lit_add, nt_mull, lit_mul, nt_sub, nt_subl, lit_sub, nt_divl, nt_m1, nt_m2, nt_m1', nt_m2', if_true, if_false, if_pos, if_neg, e01, e10, em12, em21, e0m1, e0m2, e1m1, e1m2, em10, em20, Int32.reduceLT, Int32.reduceLE, eq_self, Option.bind_some, Option.map_some, false_or, or_false, or_self, true_or, or_true, not_true_eq_false, not_false_eq_true, false_and, and_false, true_and, and_true]
      refine ok_some ⟨rfl, ⟨?_, k1⟩, ?_⟩
      · intro b hb
        show I2 49 b = _
        rw [k2 49 b (by omega)]; exact g1 b hb
      · intro a j h1 h2
        show I2 a j = _
        rw [k2 a j h2]; exact g2 a j h1
theorem load57_ok {n : Nat} {c : Nat → Nat} {I : xI} {J : xJ} (hn : n ≤ 6) (h : I 1 0 = nt n) (hc : ∀ s, s < n → I 57 s = nt (c s) ∧ c s < 8) : Ok (f_X3_load_57 I J) (fun o => o.2.2 = J ∧ cHn n c (I 33) (o.2.1 49) (o.2.1 50) ∧ ∀ a j, ¬ a = 49 → ¬ a = 50 → o.2.1 a j = I a j) := by
  have hb3 := nb_le n
  have hp := nb_pow n (by omega)
  unfold f_X3_load_57 f_X3_load_57_0
  have a0 := alike57_ok (S := 0) (J := J) hn h hc (by omega)
  rw [show (0 : Int32) = nt 0 from rfl, a0]
  simp only [Option.bind_some, f_X3_load_57_1]
  unfold f_X3_load_57_2
  refine ok_loop (fun k s => ∃ I1, s = (akp n c 0, nt k, I1, J) ∧ (∀ b, b < k → I1 49 b = akp n c (2 ^ b)) ∧ ∀ a j, ¬ a = 49 → I1 a j = I a j) (nb n) ?_ ?_ 5000 0 _ (by omega) (by omega) ⟨I, rfl, fun b hb => absurd hb (by omega), fun a j _ => rfl⟩
  · rintro k hk s ⟨I1, rfl, g1, g2⟩
    have e10 : I1 1 0 = nt n := (g2 1 0 (by omega)).trans h
    have al := alike57_ok (S := 2 ^ k) (J := J) hn e10 (fun s hs => by rw [g2 57 s (by omega)]; exact hc s hs) (by rcases (show k = 0 ∨ k = 1 ∨ k = 2 from by omega) with rfl | rfl | rfl <;> decide)
    simp (disch := omega) only [b_X3_load_57_2, f_X3_load_57_3, f_X3_load_57_4, f_X3_load_57_5, cbits_ok hn e10, shl3 k (by omega), al, nt_clamp, nt_le, nt_lt, nt_eq, lit_le, lit_lt, le_lit, lt_lit, eq_lit, lit_eq, nt_neg, nt_ge, nt_add, nt_mul, nt_addl, lit_add, nt_mull, lit_mul, nt_sub, nt_subl, lit_sub, nt_divl, nt_m1, nt_m2, nt_m1', nt_m2', if_true, if_false, if_pos, if_neg, e01, e10, em12, em21, e0m1, e0m2, e1m1, e1m2, em10, em20, Int32.reduceLT, Int32.reduceLE, eq_self, Option.bind_some, Option.map_some, false_or, or_false, or_self, true_or, or_true, not_true_eq_false, not_false_eq_true, false_and, and_false, true_and, and_true]
    refine ok_some ⟨_, rfl, ?_, ?_⟩
    · intro b hb
      rw [xup_if]
      by_cases e : b = k
      · rw [if_pos e, e]
      · rw [if_neg e]; exact g1 b (by omega)
    · intro a j ha
      rw [xup_bj _ _ _ _ _ ha]; exact g2 a j ha
  · rintro s ⟨I1, rfl, g1, g2⟩
    have e10 : I1 1 0 = nt n := (g2 1 0 (by omega)).trans h
    simp (disch := omega) only [b_X3_load_57_2, f_X3_load_57_3, f_X3_load_57_6, cbits_ok hn e10, nt_clamp, nt_le, nt_lt, nt_eq, lit_le, lit_lt, le_lit, lt_lit, eq_lit, lit_eq, nt_neg, nt_ge, nt_add, nt_mul, nt_addl, lit_add, nt_mull, lit_mul, nt_sub, nt_subl, lit_sub, nt_divl, nt_m1, nt_m2, nt_m1', nt_m2', if_true, if_false, if_pos, if_neg, e01, e10, em12, em21, e0m1, e0m2, e1m1, e1m2, em10, em20, Int32.reduceLT, Int32.reduceLE, eq_self, Option.bind_some, Option.map_some, false_or, or_false, or_self, true_or, or_true, not_true_eq_false, not_false_eq_true, false_and, and_false, true_and, and_true]
    apply ok_map
    unfold f_X3_load_57_7
    refine ok_loop (fun S s => ∃ I2 z z', s = (akp n c 0, nt S, z, z', I2, J) ∧ (∀ T, T < S → I2 50 T = fol (I 33) (akp n c T)) ∧ ∀ a j, ¬ a = 50 → I2 a j = I1 a j) (2 ^ nb n) ?_ ?_ 5000 0 _ (by omega) (by omega) ⟨I1, none, none, rfl, fun b hb => absurd hb (by omega), fun a j _ => rfl⟩
    · rintro S hS s ⟨I2, z, z', rfl, k1, k2⟩
      have f10 : I2 1 0 = nt n := (k2 1 0 (by omega)).trans e10
      simp (disch := omega) only [b_X3_load_57_7, f_X3_load_57_8, f_X3_load_57_9, cbits_ok hn f10, shl3 (nb n) (by omega), nt_clamp, nt_le, nt_lt, nt_eq, lit_le, lit_lt, le_lit, lt_lit, eq_lit, lit_eq, nt_neg, nt_ge, nt_add, nt_mul, nt_addl, lit_add, nt_mull, lit_mul, nt_sub, nt_subl, lit_sub, nt_divl, nt_m1, nt_m2, nt_m1', nt_m2', if_true, if_false, if_pos, if_neg, e01, e10, em12, em21, e0m1, e0m2, e1m1, e1m2, em10, em20, Int32.reduceLT, Int32.reduceLE, eq_self, Option.bind_some, Option.map_some, false_or, or_false, or_self, true_or, or_true, not_true_eq_false, not_false_eq_true, false_and, and_false, true_and, and_true]
      unfold f_X3_load_57_10
      refine ok_loop (fun k s => s = (akp n c 0, nt S, akp n c (S % 2 ^ k), nt k, I2, J)) (nb n) ?_ ?_ 5000 0 _ (by omega) (by omega) ?_
      · rintro k hk s rfl
        have f49 : I2 49 k = akp n c (2 ^ k) := (k2 49 k (by omega)).trans (g1 k hk)
        simp (disch := omega) only [b_X3_load_57_10, f_X3_load_57_11, f_X3_load_57_12, f_X3_load_57_13, f_X3_load_57_14, f_X3_load_57_15, cbits_ok hn f10, nt_clamp, nt_le, nt_lt, nt_eq, lit_le, lit_lt, le_lit, lt_lit, eq_lit, lit_eq, nt_neg, nt_ge, nt_add, nt_mul, nt_addl, lit_add, nt_mull, lit_mul, nt_sub, nt_subl, lit_sub, nt_divl, nt_m1, nt_m2, nt_m1', nt_m2', if_true, if_false, if_pos, if_neg, e01, e10, em12, em21, e0m1, e0m2, e1m1, e1m2, em10, em20, Int32.reduceLT, Int32.reduceLE, eq_self, Option.bind_some, Option.map_some, false_or, or_false, or_self, true_or, or_true, not_true_eq_false, not_false_eq_true, false_and, and_false, true_and, and_true, f49, akp_or, Nat.or_zero]
        by_cases e : (nt S >>> (nt k &&& 31)) &&& 1 = 1
        · rw [if_pos e]
          rw [sbit S (by omega) k (by omega)] at e
          rw [← e.1]
          exact ok_some rfl
        · rw [if_neg e]
          rw [← sbit0 S (by omega) k (by omega) e]
          exact ok_some rfl
      · rintro s rfl
        simp (disch := omega) only [b_X3_load_57_10, f_X3_load_57_11, f_X3_load_57_16, f_X3_load_57_17, cbits_ok hn f10, followed_ok, nt_clamp, nt_le, nt_lt, nt_eq, lit_le, lit_lt, le_lit, lt_lit, eq_lit, lit_eq, nt_neg, nt_ge, nt_add, nt_mul, nt_addl, lit_add, nt_mull, lit_mul, nt_sub, nt_subl, lit_sub, nt_divl, nt_m1, nt_m2, nt_m1', nt_m2', if_true, if_false, if_pos, if_neg, e01, e10, em12, em21, e0m1, e0m2, e1m1, e1m2, em10, em20, Int32.reduceLT, Int32.reduceLE, eq_self, Option.bind_some, Option.map_some, false_or, or_false, or_self, true_or, or_true, not_true_eq_false, not_false_eq_true, false_and, and_false, true_and, and_true]
        refine ok_some ⟨_, _, _, rfl, ?_, ?_⟩
        · intro T hT
          rw [xup_if]
          by_cases e : T = S
          · rw [if_pos e, e, Nat.mod_eq_of_lt hS]
            have : I2 33 = I 33 := funext fun j => (k2 33 j (by omega)).trans (g2 33 j (by omega))
            rw [this]
          · rw [if_neg e]; exact k1 T (by omega)
        · intro a j ha
          rw [xup_bj _ _ _ _ _ ha]; exact k2 a j ha
      · rw [Nat.pow_zero, Nat.mod_one]; rfl
    · rintro s ⟨I2, z, z', rfl, k1, k2⟩
      have f10 : I2 1 0 = nt n := (k2 1 0 (by omega)).trans e10
      simp (disch := omega) only [b_X3_load_57_7, f_X3_load_57_8, f_X3_load_57_18, cbits_ok hn f10, shl3 (nb n) (by omega), nt_clamp, nt_le, nt_lt, nt_eq, lit_le, lit_lt, le_lit, lt_lit, eq_lit, lit_eq, nt_neg, nt_ge, nt_add, nt_mul, nt_addl, lit_add, nt_mull, lit_mul, nt_sub, nt_subl, lit_sub, nt_divl, nt_m1, nt_m2, nt_m1', nt_m2', if_true, if_false, if_pos, if_neg, e01, e10, em12, em21, e0m1, e0m2, e1m1, e1m2, em10, em20, Int32.reduceLT, Int32.reduceLE, eq_self, Option.bind_some, Option.map_some, false_or, or_false, or_self, true_or, or_true, not_true_eq_false, not_false_eq_true, false_and, and_false, true_and, and_true]
      refine ok_some ⟨rfl, ⟨?_, k1⟩, ?_⟩
      · intro b hb
        show I2 49 b = _
        rw [k2 49 b (by omega)]; exact g1 b hb
      · intro a j h1 h2
        show I2 a j = _
        rw [k2 a j h2]; exact g2 a j h1
/-- the next bit b hangs on the set S alone -/
def hnx (w : aT) (c : Nat → Nat) (b a d x : Nat) : Bool := match w.1 a x, w.1 d x with
  | some p, some q => eqb c (2 ^ b) p q
  | _, _ => true
def hng (n m : Nat) (w : aT) (c : Nat → Nat) (b S : Nat) : Bool := al n (fun a => al a (fun d => !eqb c S a d || al m (hnx w c b a d)))
theorem fol_hng {n m : Nat} {w : aT} {v : Int32} {c33 c34 : Nat → Int32} (hn : n ≤ 6) (V : Vd n m w) (h : cPa m w v c33 c34) (c : Nat → Nat) (b S : Nat) : sub (fol c33 (akp n c S)) (akp n c (2 ^ b)) = hng n m w c b S := by
  obtain ⟨h1, _, _⟩ := h
  have key : sub (fol c33 (akp n c S)) (akp n c (2 ^ b)) = true ↔ hng n m w c b S = true := by
    rw [sub_iff]
    unfold hng
    rw [al_iff]
    constructor
    · intro hs a ha
      rw [al_iff]
      intro d hd
      cases c1 : eqb c S a d with
      | false => rfl
      | true =>
        show al m _ = true
        rw [al_iff]
        intro x hx
        unfold hnx
        cases ea : w.1 a x with
        | none => rfl
        | some t =>
          have ht := (V.1 a x t ea).2.2
          cases eb : w.1 d x with
          | none => rfl
          | some u =>
            have hu := (V.1 d x u eb).2.2
            dsimp only
            by_cases c2 : u = t
            · rw [c2, eqb_self]
            · have el := pX_inv d (by omega) a (by omega) hd
              have hp := pX_lt d (by omega) a (by omega)
              have hq := pX_lt u (by omega) t (by omega)
              have hb1 : bt (fol c33 (akp n c S)) (pX u t) = true := by
                unfold fol
                rw [orf_bt]
                refine ex_iff.mpr ⟨pX d a, hp, ?_⟩
                rw [akp_bt (by omega), decide_eq_true hp, el.1, el.2, decide_eq_true ha, eqb_comm, c1]
                show bt (c33 (pX d a)) (pX u t) = true
                rw [h1 _ hp _ (by omega)]
                refine ex_iff.mpr ⟨x, hx, ?_⟩
                rw [el.1, el.2]
                exact (sp_bt hn V (by omega)).mpr ⟨u, t, eb, ea, c2, rfl⟩
              have hb2 := hs _ (by omega) hb1
              rw [akp_bt (by omega), Bool.and_eq_true, Bool.and_eq_true] at hb2
              have hb3 := hb2.2.2
              rcases px_lh (a := u) (b := t) (by omega) (by omega) c2 with ⟨q1, q2⟩ | ⟨q1, q2⟩
              · rw [q1, q2, eqb_comm] at hb3
                exact hb3
              · rw [q1, q2] at hb3
                exact hb3
    · intro hg q hq hb
      unfold fol at hb
      rw [orf_bt] at hb
      obtain ⟨p0, hp0, hb⟩ := ex_iff.mp hb
      cases ej : bt (akp n c S) p0 with
      | false => rw [ej, if_neg (by decide), bt_zero] at hb; cases hb
      | true =>
        rw [ej, if_pos rfl, h1 p0 hp0 q hq] at hb
        obtain ⟨x, hx, hsp⟩ := ex_iff.mp hb
        obtain ⟨t, u, et, eu, hne, rfl⟩ := (sp_bt hn V hq).mp hsp
        have ht := (V.1 _ x t et).2.2
        have hu := (V.1 _ x u eu).2.2
        rw [akp_bt (by omega), Bool.and_eq_true, Bool.and_eq_true] at ej
        have hph := of_decide_eq_true ej.2.1
        have hbo := ej.2.2
        have hlh := (pX_lh p0 hp0).2.1
        have hgo := al_iff.mp (hg (pH p0) hph) (pL p0) hlh
        rw [eqb_comm, hbo] at hgo
        have hgx := al_iff.mp (show al m _ = true from hgo) x hx
        unfold hnx at hgx
        rw [et, eu] at hgx
        dsimp only at hgx
        have hqx := pX_lt t (by omega) u (by omega)
        rw [akp_bt (by omega), decide_eq_true hqx]
        rcases px_lh (a := t) (b := u) (by omega) (by omega) hne with ⟨q1, q2⟩ | ⟨q1, q2⟩
        · rw [q1, q2, decide_eq_true hu, eqb_comm, hgx]; rfl
        · rw [q1, q2, decide_eq_true ht, hgx]; rfl
  cases e1 : sub (fol c33 (akp n c S)) (akp n c (2 ^ b)) with
  | true => exact (key.mp e1).symm
  | false =>
    cases e2 : hng n m w c b S with
    | false => rfl
    | true => rw [key.mpr e2] at e1; cases e1
/-- sets by size -/
def bzs (i : Nat) : Nat := ([0, 1, 2, 4, 3, 5, 6, 7] : List Nat).getD i 0
theorem bzs_st : ∀ i, i < 8 → zst1002 i = nt (bzs i) := by decide
theorem bzs_lt : ∀ i, i < 8 → bzs i < 8 := by decide
def hso (n m : Nat) (w : aT) (c : Nat → Nat) (b : Nat) : Option Nat := (ff 8 (fun i => decide (bzs i < 2 ^ nb n) && hng n m w c b (bzs i))).map bzs
def o2 (o : Option Nat) : Int32 := match o with
  | none => -2
  | some k => nt k
theorem hso_lt {n m b k : Nat} {w : aT} {c : Nat → Nat} (h : hso n m w c b = some k) : k < 8 := by
  unfold hso at h
  cases e : ff 8 (fun i => decide (bzs i < 2 ^ nb n) && hng n m w c b (bzs i)) with
  | none => rw [e] at h; cases h
  | some i =>
    rw [e] at h
    cases h
    exact bzs_lt i (ff_some.mp e).1
theorem leastSet_ok {n m : Nat} {w : aT} {c : Nat → Nat} {I : xI} {J : xJ} (hn : n ≤ 6) (V : Vd n m w) (h : I 1 0 = nt n) (hp : cPa m w (I 32 3) (I 33) (I 34)) (hh : cHn n c (I 33) (I 49) (I 50)) {b : Nat} (hb : b < nb n) : f_X3_leastSet (nt b) I J = some (o2 (hso n m w c b), I, J) := by
  apply Ok.eq
  have hb3 := nb_le n
  have hp2 := nb_pow n (by omega)
  unfold f_X3_leastSet f_X3_leastSet_0 f_X3_leastSet_1
  refine ok_loop (fun i s => ∃ z, s = (nt b, nt i, z, I, J) ∧ ∀ j, j < i → (decide (bzs j < 2 ^ nb n) && hng n m w c b (bzs j)) = false) 8 ?_ ?_ 5000 0 _ (by omega) (by omega) ⟨none, rfl, fun j hj => absurd hj (by omega)⟩
  · rintro i hi s ⟨z, rfl, g⟩
    have hz := bzs_lt i hi
    have nx : ∀ {v : Bool}, v = false → (decide (bzs i < 2 ^ nb n) && hng n m w c b (bzs i)) = v → ∀ j, j < i + 1 → (decide (bzs j < 2 ^ nb n) && hng n m w c b (bzs j)) = false := by
      intro v hv e j hj
      by_cases c : j = i
      · rw [c, e, hv]
      · exact g j (by omega)
    simp (disch := omega) only [b_X3_leastSet_1, f_X3_leastSet_2, f_X3_leastSet_3, f_X3_leastSet_6, cbits_ok hn h, bzs_st i hi, shl3 (nb n) (by omega), nt_clamp, nt_le, nt_lt, nt_eq, lit_le, lit_lt, le_lit, lt_lit, eq_lit, lit_eq, nt_neg, nt_ge, nt_add, nt_mul, nt_addl, lit_add, nt_mull, lit_mul, nt_sub, nt_subl, lit_sub, nt_divl, nt_m1, nt_m2, nt_m1', nt_m2', if_true, if_false, if_pos, if_neg, e01, e10, em12, em21, e0m1, e0m2, e1m1, e1m2, em10, em20, Int32.reduceLT, Int32.reduceLE, eq_self, Option.bind_some, Option.map_some, false_or, or_false, or_self, true_or, or_true, not_true_eq_false, not_false_eq_true, false_and, and_false, true_and, and_true]
    by_cases c1 : 2 ^ nb n ≤ bzs i
    · rw [if_pos c1]
      refine ok_some ⟨_, rfl, nx rfl ?_⟩
      rw [decide_eq_false (by omega)]; rfl
    · rw [if_neg c1]
      simp (disch := omega) only [f_X3_leastSet_4, f_X3_leastSet_6, nt_clamp, nt_le, nt_lt, nt_eq, lit_le, lit_lt, le_lit, lt_lit, eq_lit, lit_eq, nt_neg, nt_ge, nt_add, nt_mul, nt_addl, lit_add, nt_mull, lit_mul, nt_sub, nt_subl, lit_sub, nt_divl, nt_m1, nt_m2, nt_m1', nt_m2', false_or, if_neg, hh.1 b hb, hh.2 (bzs i) (by omega)]
      have hs := fol_hng hn V hp c b (bzs i)
      unfold sub at hs
      by_cases c2 : fol (I 33) (akp n c (bzs i)) &&& (akp n c (2 ^ b) ^^^ -1) = 0
      · rw [if_pos c2]
        rw [decide_eq_true c2] at hs
        refine ok_some ?_
        show _ = _
        unfold hso
        rw [ff_some.mpr ⟨hi, by rw [decide_eq_true (by omega), ← hs]; rfl, g⟩]
        rfl
      · rw [if_neg c2]
        rw [decide_eq_false c2] at hs
        refine ok_some ⟨_, rfl, nx rfl ?_⟩
        rw [← hs, Bool.and_false]
  · rintro s ⟨z, rfl, g⟩
    simp (disch := omega) only [b_X3_leastSet_1, f_X3_leastSet_7, nt_clamp, nt_le, nt_lt, nt_eq, lit_le, lit_lt, le_lit, lt_lit, eq_lit, lit_eq, nt_neg, nt_ge, nt_add, nt_mul, nt_addl, lit_add, nt_mull, lit_mul, nt_sub, nt_subl, lit_sub, nt_divl, nt_m1, nt_m2, nt_m1', nt_m2', if_true, if_false, if_pos, if_neg, e01, e10, em12, em21, e0m1, e0m2, e1m1, e1m2, em10, em20, Int32.reduceLT, Int32.reduceLE, eq_self, Option.bind_some, Option.map_some, false_or, or_false, or_self, true_or, or_true, not_true_eq_false, not_false_eq_true, false_and, and_false, true_and, and_true]
    refine ok_some ?_
    show _ = _
    unfold hso
    rw [ff_none.mpr g]
    rfl
