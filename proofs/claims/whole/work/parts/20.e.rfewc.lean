/-! cubes of the reference: how few -/
theorem laysCodes_ok {n m x b : Nat} {w : aT} {c : Nat → Nat} {I : xI} {J : xJ} (hn : n ≤ 6) (hm : m ≤ 4) (V : Vd n m w) (h0 : I 61 17 = nt n) (h : rMa n m w (I 70) 0) (hc : ∀ s, s < n → I 86 s = nt (c s) ∧ c s < 8) (hx : x < m) (hb : b < 3) : Ok (f_X12_laysCodes (nt b) (nt x) I J) (fun o => o.2.2 = J ∧ o.2.1 61 48 = nt (onS w c n x b) ∧ o.2.1 61 49 = nt (ofS w c n x b) ∧ ∀ a j, ¬ (a = 61 ∧ (j = 48 ∨ j = 49)) → o.2.1 a j = I a j) := by
  unfold f_X12_laysCodes f_X12_laysCodes_0 f_X12_laysCodes_1
  refine ok_loop (fun i s => ∃ I', s = (nt b, nt x, nt i, I', J) ∧ (∀ k, k < 32 → bt (I' 61 48) k = ex i (onb w c n x b k)) ∧ (∀ k, k < 32 → bt (I' 61 49) k = ex i (ofb w c n x b k)) ∧ ∀ a j, ¬ (a = 61 ∧ (j = 48 ∨ j = 49)) → I' a j = I a j) n ?_ ?_ 5000 0 _ (by omega) (by omega) ⟨_, rfl, ?_, ?_, ?_⟩
  · rintro i hi s ⟨I', rfl, g1, g2, g3⟩
    have g17 : I' 61 17 = nt n := (g3 61 17 (by omega)).trans h0
    have g70 : rMa n m w (I' 70) 0 := by rw [show I' 70 = I 70 from funext fun j => g3 70 j (by omega)]; exact h
    have g86 : ∀ s, s < n → I' 86 s = nt (c s) ∧ c s < 8 := fun s hs => ⟨(g3 86 s (by omega)).trans (hc s hs).1, (hc s hs).2⟩
    simp (disch := omega) only [b_X12_laysCodes_1, f_X12_laysCodes_2, g17, to_ok hn hm g70 hi hx, Option.bind_some, nt_clamp, nt_le, nt_lt, nt_eq, lit_le, lit_lt, le_lit, lt_lit, eq_lit, lit_eq, nt_neg, nt_ge, nt_add, nt_mul, nt_addl, lit_add, nt_mull, lit_mul, nt_sub, nt_subl, lit_sub, nt_divl, nt_m1, nt_m2, nt_m1', nt_m2', if_neg]
    cases ew : w.1 i x with
    | none =>
      simp (disch := omega) only [f_X12_laysCodes_3, f_X12_laysCodes_4, f_X12_laysCodes_10, ov, if_true, if_false, if_pos, if_neg, e01, e10, em12, em21, e0m1, e0m2, e1m1, e1m2, em10, em20, Int32.reduceLT, Int32.reduceLE, eq_self, Option.bind_some, Option.map_some, false_or, or_false, or_self, true_or, or_true, not_true_eq_false, not_false_eq_true, false_and, and_false, true_and, and_true, nt_clamp, nt_le, nt_lt, nt_eq, lit_le, lit_lt, le_lit, lt_lit, eq_lit, lit_eq, nt_neg, nt_ge, nt_add, nt_mul, nt_addl, lit_add, nt_mull, lit_mul, nt_sub, nt_subl, lit_sub, nt_divl, nt_m1, nt_m2, nt_m1', nt_m2']
      refine ok_some ⟨I', rfl, ?_, ?_, g3⟩
      · intro k hk
        rw [ex_s, g1 k hk, show onb w c n x b k i = false from by unfold onb; rw [ew], Bool.or_false]
      · intro k hk
        rw [ex_s, g2 k hk, show ofb w c n x b k i = false from by unfold ofb; rw [ew], Bool.or_false]
    | some t =>
      have ht := (V.1 i x t ew).2.2
      have ci := g86 i hi
      have ct := g86 t ht
      have hci := ci.2
      have o1 : ∀ k, onb w c n x b k i = (decide (c i = k) && (c t).testBit b) := by
        intro k; unfold onb; rw [ew]; dsimp only; rw [decide_eq_true ht, Bool.true_and]
      have o2 : ∀ k, ofb w c n x b k i = (decide (c i = k) && !(c t).testBit b) := by
        intro k; unfold ofb; rw [ew]; dsimp only; rw [decide_eq_true ht, Bool.true_and]
      have sw : ∀ k, decide (k = c i) = decide (c i = k) := by
        intro k
        by_cases e : k = c i
        · rw [decide_eq_true e, decide_eq_true e.symm]
        · rw [decide_eq_false e, decide_eq_false (fun h => e h.symm)]
      simp (disch := omega) only [f_X12_laysCodes_3, f_X12_laysCodes_5, f_X12_laysCodes_6, ov, to_ok hn hm g70 hi hx, ew, Option.bind_some, ct.1, has_ok (show b < 32 from by omega), f_X12_laysCodes_7, bi_0, bt_nt, nt_clamp, nt_le, nt_lt, nt_eq, lit_le, lit_lt, le_lit, lt_lit, eq_lit, lit_eq, nt_neg, nt_ge, nt_add, nt_mul, nt_addl, lit_add, nt_mull, lit_mul, nt_sub, nt_subl, lit_sub, nt_divl, nt_m1, nt_m2, nt_m1', nt_m2', false_or, if_neg, Nat.zero_le, if_true]
      rw [decide_eq_true (show b < 32 from by omega), Bool.true_and]
      cases et : (c t).testBit b with
      | false =>
        rw [if_pos rfl]
        simp (disch := omega) only [f_X12_laysCodes_9, f_X12_laysCodes_10, ci.1, nt_31, nt_clamp, nt_le, nt_lt, nt_eq, lit_le, lit_lt, le_lit, lt_lit, eq_lit, lit_eq, nt_neg, nt_ge, nt_add, nt_mul, nt_addl, lit_add, nt_mull, lit_mul, nt_sub, nt_subl, lit_sub, nt_divl, nt_m1, nt_m2, nt_m1', nt_m2', false_or, if_neg]
        refine ok_some ⟨_, rfl, ?_, ?_, ?_⟩
        · intro k hk
          rw [xup_j _ _ _ _ (by omega), ex_s, g1 k hk, o1, et, Bool.and_false, Bool.or_false]
        · intro k hk
          rw [xup_at, bt_or, g2 k hk, one_shl (by omega) hk, ex_s, o2, et, sw, Bool.not_false, Bool.and_true]
        · intro a j ha
          rw [xup_no _ _ _ _ (by omega)]; exact g3 a j ha
      | true =>
        rw [if_neg (by decide)]
        simp (disch := omega) only [f_X12_laysCodes_8, f_X12_laysCodes_10, ci.1, nt_31, nt_clamp, nt_le, nt_lt, nt_eq, lit_le, lit_lt, le_lit, lt_lit, eq_lit, lit_eq, nt_neg, nt_ge, nt_add, nt_mul, nt_addl, lit_add, nt_mull, lit_mul, nt_sub, nt_subl, lit_sub, nt_divl, nt_m1, nt_m2, nt_m1', nt_m2', false_or, if_neg]
        refine ok_some ⟨_, rfl, ?_, ?_, ?_⟩
        · intro k hk
          rw [xup_at, bt_or, g1 k hk, one_shl (by omega) hk, ex_s, o1, et, sw, Bool.and_true]
        · intro k hk
          rw [xup_j _ _ _ _ (by omega), ex_s, g2 k hk, o2, et, Bool.not_true, Bool.and_false, Bool.or_false]
        · intro a j ha
          rw [xup_no _ _ _ _ (by omega)]; exact g3 a j ha
  · rintro s ⟨I', rfl, g1, g2, g3⟩
    have g17 : I' 61 17 = nt n := (g3 61 17 (by omega)).trans h0
    simp (disch := omega) only [b_X12_laysCodes_1, f_X12_laysCodes_11, g17, nt_clamp, nt_le, nt_lt, nt_eq, lit_le, lit_lt, le_lit, lt_lit, eq_lit, lit_eq, nt_neg, nt_ge, nt_add, nt_mul, nt_addl, lit_add, nt_mull, lit_mul, nt_sub, nt_subl, lit_sub, nt_divl, nt_m1, nt_m2, nt_m1', nt_m2', if_true, if_false, if_pos, if_neg, e01, e10, em12, em21, e0m1, e0m2, e1m1, e1m2, em10, em20, Int32.reduceLT, Int32.reduceLE, eq_self, Option.bind_some, Option.map_some, false_or, or_false, or_self, true_or, or_true, not_true_eq_false, not_false_eq_true, false_and, and_false, true_and, and_true]
    refine ok_some ⟨rfl, ?_, ?_, g3⟩
    · apply bt_ext
      intro k hk
      dsimp only
      unfold onS
      rw [g1 k hk, bt_nt, decide_eq_true hk, Bool.true_and, mkn_tb]
      by_cases c8 : k < 8
      · rw [decide_eq_true c8, Bool.true_and]
      · rw [decide_eq_false c8, Bool.false_and]
        apply ex_false.mpr
        intro s hs
        cases e : onb w c n x b k s with
        | false => rfl
        | true => obtain ⟨t, _, _, h3, _⟩ := onb_iff.mp e; have := (hc s hs).2; omega
    · apply bt_ext
      intro k hk
      dsimp only
      unfold ofS
      rw [g2 k hk, bt_nt, decide_eq_true hk, Bool.true_and, mkn_tb]
      by_cases c8 : k < 8
      · rw [decide_eq_true c8, Bool.true_and]
      · rw [decide_eq_false c8, Bool.false_and]
        apply ex_false.mpr
        intro s hs
        cases e : ofb w c n x b k s with
        | false => rfl
        | true => obtain ⟨t, _, _, h3, _⟩ := ofb_iff.mp e; have := (hc s hs).2; omega
  · intro k hk
    rw [xup_j _ _ _ _ (by omega), xup_at, bt_zero]; rfl
  · intro k hk
    rw [xup_at, bt_zero]; rfl
  · intro a j ha
    rw [xup_no _ _ _ _ (by omega), xup_no _ _ _ _ (by omega)]
/-- where it is kept -/
def ixf (on off : Nat) : Nat → Nat
  | 0 => 0
  | k + 1 => 3 * ixf on off k + (if on.testBit k = true then 1 else if off.testBit k = true then 0 else 2)
theorem ixf_lt (on off : Nat) : ∀ k, ixf on off k < 3 ^ k := by
  intro k
  induction k with
  | zero => exact Nat.zero_lt_one
  | succ k ih =>
    unfold ixf
    rw [Nat.pow_succ]
    split
    · omega
    · split <;> omega
theorem ixf_inj {on off on' off' : Nat} (hd : on &&& off = 0) (hd' : on' &&& off' = 0) : ∀ k, ixf on off k = ixf on' off' k → ∀ j, j < k → on.testBit j = on'.testBit j ∧ off.testBit j = off'.testBit j := by
  have dj : ∀ {a b : Nat}, a &&& b = 0 → ∀ j, a.testBit j = true → b.testBit j = false := by
    intro a b h j ha
    have : (a &&& b).testBit j = false := by rw [h, Nat.zero_testBit]
    rw [Nat.testBit_and, ha, Bool.true_and] at this
    exact this
  intro k
  induction k with
  | zero => intro _ j hj; omega
  | succ k ih =>
    intro h j hj
    have hk : ixf on off k = ixf on' off' k ∧ (if on.testBit k = true then 1 else if off.testBit k = true then 0 else 2) = (if on'.testBit k = true then 1 else if off'.testBit k = true then 0 else 2) := by
      unfold ixf at h
      have a : (if on.testBit k = true then 1 else if off.testBit k = true then 0 else 2) < 3 := by
        split
        · omega
        · split <;> omega
      have b : (if on'.testBit k = true then 1 else if off'.testBit k = true then 0 else 2) < 3 := by
        split
        · omega
        · split <;> omega
      omega
    by_cases c : j = k
    · subst c
      have h2 := hk.2
      have q1 := dj hd j
      have q2 := dj hd' j
      cases e1 : on.testBit j <;> cases e2 : on'.testBit j <;> cases e3 : off.testBit j <;> cases e4 : off'.testBit j <;> simp_all
    · exact ih hk.1 j (by omega)
def rK (I : xI) : Prop := ∀ R O, R < 256 → O < 256 → R &&& O = 0 → I 88 (ixf R O 8) = 0 ∨ I 88 (ixf R O 8) = nt (mu O R + 1)
theorem mnf_init {P : Nat → Bool} {f : Nat → Nat} {i i' k : Nat} (h : ∃ c, c < k ∧ P c = true ∧ f c ≤ i) (hi : i ≤ i') : mnf P f i' k = mnf P f i k := by
  obtain ⟨c, h1, h2, h3⟩ := h
  apply Nat.le_antisymm
  · rcases mnf_at (P := P) (f := f) (i := i) k with e | ⟨d, d1, d2, d3⟩
    · rw [e]; exact Nat.le_trans (mnf_le h2 k h1) h3
    · rw [d3]; exact mnf_le d2 k d1
  · rcases mnf_at (P := P) (f := f) (i := i') k with e | ⟨d, d1, d2, d3⟩
    · rw [e]; exact Nat.le_trans (mnf_i _ _ _ _) hi
    · rw [d3]; exact mnf_le d2 k d1
theorem and_pow {a l : Nat} : (a &&& 2 ^ l = 0) = (a.testBit l = false) := by
  apply propext
  constructor
  · intro h
    have : (a &&& 2 ^ l).testBit l = false := by rw [h, Nat.zero_testBit]
    rw [Nat.testBit_and, Nat.testBit_two_pow_self, Bool.and_true] at this
    exact this
  · intro h
    apply Nat.eq_of_testBit_eq
    intro k
    rw [Nat.testBit_and, Nat.testBit_two_pow, Nat.zero_testBit]
    by_cases e : l = k
    · rw [← e, h]; rfl
    · rw [decide_eq_false e, Bool.and_false]
theorem mu_99 {off R : Nat} (hR : R < 256) (h0 : ¬ R = 0) (hd : R &&& off = 0) : mnf (plo off R) (fun c => 1 + mu off (dif R (hh c))) 99 27 = mu off R := by
  rw [mu_s hR h0]
  have hl := lo_ok hR h0
  have hs := sgc_ok (lo R) hl.1
  have hb : (hh (sgc (lo R))).testBit (lo R) = true := by rw [hs.1, Nat.testBit_two_pow_self]
  refine mnf_init ⟨sgc (lo R), hs.2, ?_, ?_⟩ (by omega)
  · unfold plo okc
    rw [hb, Bool.true_and]
    apply decide_eq_true
    rw [hs.1, Nat.and_comm, and_pow]
    have : (R &&& off).testBit (lo R) = false := by rw [hd, Nat.zero_testBit]
    rw [Nat.testBit_and, hl.2, Bool.true_and] at this
    exact this
  · have h1 := pp8_dif hR h0 hb
    have h2 := pp8_le R
    have h3 := mu_pp (off := off) (dif_lt R (hh (sgc (lo R)))) (dif_dj hR hd)
    omega
theorem dif_less {R H : Nat} (hR : R < 256) {l : Nat} (h1 : R.testBit l = true) (h2 : H.testBit l = true) : dif R H < R := by
  have he : dif R H &&& R = dif R H := by
    apply Nat.eq_of_testBit_eq
    intro k
    rw [Nat.testBit_and, dif_tb hR]
    cases R.testBit k <;> cases H.testBit k <;> rfl
  have hle : dif R H ≤ R := by rw [← he]; exact Nat.and_le_right
  rcases Nat.lt_or_ge (dif R H) R with c | c
  · exact c
  · have e : dif R H = R := by omega
    have := dif_tb (H := H) (k := l) hR
    rw [e, h1, h2] at this
    cases this
theorem low_256 : ∀ S, S < 256 → ¬ S = 0 → nt S &&& -nt S = nt (2 ^ lo S) := by decide +kernel
def rT (I : xI) : Prop := ∀ c, c < 27 → I 87 c = nt (hh c)
theorem sub_dj {S on off : Nat} (hS : S < 256) (h : dif S on = 0) (hd : on &&& off = 0) : S &&& off = 0 := by
  apply Nat.eq_of_testBit_eq
  intro k
  have h1 : (dif S on).testBit k = false := by rw [h, Nat.zero_testBit]
  have h2 : (on &&& off).testBit k = false := by rw [hd, Nat.zero_testBit]
  rw [dif_tb hS] at h1
  rw [Nat.testBit_and] at h2
  rw [Nat.testBit_and, Nat.zero_testBit]
  cases e1 : S.testBit k <;> cases e2 : on.testBit k <;> cases e3 : off.testBit k <;> simp_all
theorem dif_sub {S H on : Nat} (hS : S < 256) (h : dif S on = 0) : dif (dif S H) on = 0 := by
  apply Nat.eq_of_testBit_eq
  intro k
  have h1 : (dif S on).testBit k = false := by rw [h, Nat.zero_testBit]
  rw [dif_tb hS] at h1
  rw [dif_tb (dif_lt _ _), dif_tb hS, Nat.zero_testBit]
  cases e1 : S.testBit k <;> cases e2 : on.testBit k <;> simp_all
theorem dif_self (R : Nat) (hR : R < 256) : dif R R = 0 := by
  apply Nat.eq_of_testBit_eq
  intro k
  rw [dif_tb hR, Nat.zero_testBit]
  cases R.testBit k <;> rfl
theorem fewOf_ok {on off : Nat} {I : xI} {J : xJ} (hon : on < 256) (hoff : off < 256) (hd : on &&& off = 0) (h48 : I 61 48 = nt on) (h49 : I 61 49 = nt off) (hT : rT I) : Ok (f_X12_fewOf I J) (fun o => o.2.2 = J ∧ o.1 = nt (mu off on) ∧ ∀ a j, ¬ a = 89 → o.2.1 a j = I a j) := by
  unfold f_X12_fewOf f_X12_fewOf_0 f_X12_fewOf_1
  refine ok_loop (fun S s => 1 ≤ S ∧ ∃ z1 z2 z3 I', s = (nt S, z1, z2, z3, I', J) ∧ (∀ T, T < S → dif T on = 0 → I' 89 T = nt (mu off T)) ∧ ∀ a j, ¬ a = 89 → I' a j = I a j) (on + 1) ?_ ?_ 5000 1 _ (by omega) (by omega) ⟨by omega, none, none, none, _, rfl, ?_, fun a j ha => xup_bj _ _ _ _ _ ha⟩
  · rintro S hS s ⟨hS1, z1, z2, z3, I', rfl, g1, g2⟩
    have hS8 : S < 256 := by omega
    have hS0 : ¬ S = 0 := by omega
    have e48 : I' 61 48 = nt on := (g2 61 48 (by omega)).trans h48
    have e49 : I' 61 49 = nt off := (g2 61 49 (by omega)).trans h49
    have hdS := dif_lt S on
    simp (disch := omega) only [b_X12_fewOf_1, f_X12_fewOf_2, e48, nt_dif hS8, nt_clamp, nt_le, nt_lt, nt_eq, lit_le, lit_lt, le_lit, lt_lit, eq_lit, lit_eq, nt_neg, nt_ge, nt_add, nt_mul, nt_addl, lit_add, nt_mull, lit_mul, nt_sub, nt_subl, lit_sub, nt_divl, nt_m1, nt_m2, nt_m1', nt_m2', if_neg]
    by_cases c0 : dif S on = 0
    · rw [if_pos c0]
      have hl := lo_ok hS8 hS0
      have hdj := sub_dj hS8 c0 hd
      simp (disch := omega) only [f_X12_fewOf_4, low_256 S hS8 hS0, nt_clamp, nt_le, nt_lt, nt_eq, lit_le, lit_lt, le_lit, lt_lit, eq_lit, lit_eq, nt_neg, nt_ge, nt_add, nt_mul, nt_addl, lit_add, nt_mull, lit_mul, nt_sub, nt_subl, lit_sub, nt_divl, nt_m1, nt_m2, nt_m1', nt_m2', false_or, if_neg]
      unfold f_X12_fewOf_5
      refine ok_loop (fun k s => ∃ z3 I', s = (nt S, nt (2 ^ lo S), nt k, z3, I', J) ∧ (∀ T, T < S → dif T on = 0 → I' 89 T = nt (mu off T)) ∧ I' 89 S = nt (mnf (plo off S) (fun c => 1 + mu off (dif S (hh c))) 99 k) ∧ ∀ a j, ¬ a = 89 → I' a j = I a j) 27 ?_ ?_ 5000 0 _ (by omega) (by omega) ⟨_, _, rfl, ?_, xup_at _ _ _ _, ?_⟩
      · rintro k hk s ⟨z3, I2, rfl, k1, k2, k3⟩
        have e87 : I2 87 k = nt (hh k) := (k3 87 k (by omega)).trans (hT k hk)
        have e49' : I2 61 49 = nt off := (k3 61 49 (by omega)).trans h49
        have hh8 := hh_lt k hk
        have hand : hh k &&& 2 ^ lo S ≤ hh k := Nat.and_le_left
        have hand2 : hh k &&& off ≤ hh k := Nat.and_le_left
        have hi := mnf_i (plo off S) (fun c => 1 + mu off (dif S (hh c))) 99 k
        have no : plo off S k = false → ∀ z, Ok (f_X12_fewOf_11 (nt S) (nt (2 ^ lo S)) (nt k) z I2 J) (Sum.elim (fun s => ∃ z3 I', s = (nt S, nt (2 ^ lo S), nt (k + 1), z3, I', J) ∧ (∀ T, T < S → dif T on = 0 → I' 89 T = nt (mu off T)) ∧ I' 89 S = nt (mnf (plo off S) (fun c => 1 + mu off (dif S (hh c))) 99 (k + 1)) ∧ ∀ a j, ¬ a = 89 → I' a j = I a j) (Sum.elim (fun s => 1 ≤ S + 1 ∧ ∃ z1 z2 z3 I', s = (nt (S + 1), z1, z2, z3, I', J) ∧ (∀ T, T < S + 1 → dif T on = 0 → I' 89 T = nt (mu off T)) ∧ ∀ a j, ¬ a = 89 → I' a j = I a j) (fun o => o.2.2 = J ∧ o.1 = nt (mu off on) ∧ ∀ a j, ¬ a = 89 → o.2.1 a j = I a j))) := by
          intro hp z
          simp only [f_X12_fewOf_11, nt_addl]
          refine ok_some ⟨z, I2, rfl, k1, ?_, k3⟩
          rw [k2]
          have : mnf (plo off S) (fun c => 1 + mu off (dif S (hh c))) 99 (k + 1) = mnf (plo off S) (fun c => 1 + mu off (dif S (hh c))) 99 k := by
            show (if plo off S k = true then _ else _) = _
            rw [hp]; rfl
          rw [this]
        simp (disch := omega) only [b_X12_fewOf_5, f_X12_fewOf_6, f_X12_fewOf_7, f_X12_fewOf_8, e87, e49', nt_and, nt_clamp, nt_le, nt_lt, nt_eq, lit_le, lit_lt, le_lit, lt_lit, eq_lit, lit_eq, nt_neg, nt_ge, nt_add, nt_mul, nt_addl, lit_add, nt_mull, lit_mul, nt_sub, nt_subl, lit_sub, nt_divl, nt_m1, nt_m2, nt_m1', nt_m2', false_or, if_neg, and_pow]
        cases eh : (hh k).testBit (lo S) with
        | false =>
          rw [if_pos rfl]
          exact no (by unfold plo; rw [eh]; rfl) _
        | true =>
          rw [if_neg (by decide)]
          by_cases co : hh k &&& off = 0
          · rw [if_pos co]
            have hpl : plo off S k = true := by unfold plo okc; rw [eh, decide_eq_true co]; rfl
            have hdl := dif_less hS8 hl.2 eh
            have e89 : I2 89 (dif S (hh k)) = nt (mu off (dif S (hh k))) := k1 _ hdl (dif_sub hS8 c0)
            have hm8 := mu_8 (off := off) (dif_lt S (hh k))
            have hst : mnf (plo off S) (fun c => 1 + mu off (dif S (hh c))) 99 (k + 1) = if 1 + mu off (dif S (hh k)) < mnf (plo off S) (fun c => 1 + mu off (dif S (hh c))) 99 k then 1 + mu off (dif S (hh k)) else mnf (plo off S) (fun c => 1 + mu off (dif S (hh c))) 99 k := by
              show (if plo off S k = true then _ else _) = _
              rw [hpl, if_pos rfl]
            simp (disch := omega) only [f_X12_fewOf_9, e87, nt_dif hS8, e89, k2, nt_clamp, nt_le, nt_lt, nt_eq, lit_le, lit_lt, le_lit, lt_lit, eq_lit, lit_eq, nt_neg, nt_ge, nt_add, nt_mul, nt_addl, lit_add, nt_mull, lit_mul, nt_sub, nt_subl, lit_sub, nt_divl, nt_m1, nt_m2, nt_m1', nt_m2', false_or, if_neg]
            by_cases cl : mnf (plo off S) (fun c => 1 + mu off (dif S (hh c))) 99 k ≤ mu off (dif S (hh k)) + 1
            · rw [if_pos cl]
              simp only [f_X12_fewOf_11, nt_addl]
              refine ok_some ⟨_, I2, rfl, k1, ?_, k3⟩
              rw [k2, hst, if_neg (by omega)]
            · rw [if_neg cl]
              simp (disch := omega) only [f_X12_fewOf_10, f_X12_fewOf_11, nt_clamp, nt_le, nt_lt, nt_eq, lit_le, lit_lt, le_lit, lt_lit, eq_lit, lit_eq, nt_neg, nt_ge, nt_add, nt_mul, nt_addl, lit_add, nt_mull, lit_mul, nt_sub, nt_subl, lit_sub, nt_divl, nt_m1, nt_m2, nt_m1', nt_m2', false_or, if_neg]
              refine ok_some ⟨_, _, rfl, ?_, ?_, ?_⟩
              · intro T hT1 hT2
                rw [xup_j _ _ _ _ (by omega)]; exact k1 T hT1 hT2
              · rw [xup_at, hst, if_pos (by omega), Nat.add_comm]
              · intro a j ha
                rw [xup_bj _ _ _ _ _ ha]; exact k3 a j ha
          · rw [if_neg co]
            exact no (by unfold plo okc; rw [decide_eq_false co, Bool.and_false]) _
      · rintro s ⟨z3, I2, rfl, k1, k2, k3⟩
        rw [mu_99 hS8 hS0 hdj] at k2
        simp (disch := omega) only [b_X12_fewOf_5, f_X12_fewOf_12, nt_clamp, nt_le, nt_lt, nt_eq, lit_le, lit_lt, le_lit, lt_lit, eq_lit, lit_eq, nt_neg, nt_ge, nt_add, nt_mul, nt_addl, lit_add, nt_mull, lit_mul, nt_sub, nt_subl, lit_sub, nt_divl, nt_m1, nt_m2, nt_m1', nt_m2', if_true, if_false, if_pos, if_neg, e01, e10, em12, em21, e0m1, e0m2, e1m1, e1m2, em10, em20, Int32.reduceLT, Int32.reduceLE, eq_self, Option.bind_some, Option.map_some, false_or, or_false, or_self, true_or, or_true, not_true_eq_false, not_false_eq_true, false_and, and_false, true_and, and_true]
        refine ok_some ⟨by omega, _, _, _, I2, rfl, ?_, k3⟩
        intro T hT1 hT2
        by_cases e : T = S
        · rw [e]; exact k2
        · exact k1 T (by omega) hT2
      · intro T hT1 hT2
        rw [xup_j _ _ _ _ (by omega)]; exact g1 T hT1 hT2
      · intro a j ha
        rw [xup_bj _ _ _ _ _ ha]; exact g2 a j ha
    · rw [if_neg c0]
      simp only [f_X12_fewOf_3, f_X12_fewOf_12, nt_addl]
      refine ok_some ⟨by omega, _, _, _, I', rfl, ?_, g2⟩
      intro T hT1 hT2
      by_cases e : T = S
      · rw [e] at hT2; exact absurd hT2 c0
      · exact g1 T (by omega) hT2
  · rintro s ⟨hS1, z1, z2, z3, I', rfl, g1, g2⟩
    have e48 : I' 61 48 = nt on := (g2 61 48 (by omega)).trans h48
    simp (disch := omega) only [b_X12_fewOf_1, f_X12_fewOf_13, e48, nt_clamp, nt_le, nt_lt, nt_eq, lit_le, lit_lt, le_lit, lt_lit, eq_lit, lit_eq, nt_neg, nt_ge, nt_add, nt_mul, nt_addl, lit_add, nt_mull, lit_mul, nt_sub, nt_subl, lit_sub, nt_divl, nt_m1, nt_m2, nt_m1', nt_m2', if_true, if_false, if_pos, if_neg, e01, e10, em12, em21, e0m1, e0m2, e1m1, e1m2, em10, em20, Int32.reduceLT, Int32.reduceLE, eq_self, Option.bind_some, Option.map_some, false_or, or_false, or_self, true_or, or_true, not_true_eq_false, not_false_eq_true, false_and, and_false, true_and, and_true]
    refine ok_some ⟨rfl, g1 on (by omega) (dif_self on hon), g2⟩
  · intro T hT1 hT2
    have : T = 0 := by omega
    subst this
    rw [xup_at, mu_0]; rfl
theorem howFew_ok {on off : Nat} {I : xI} {J : xJ} (hon : on < 256) (hoff : off < 256) (hd : on &&& off = 0) (h48 : I 61 48 = nt on) (h49 : I 61 49 = nt off) (hT : rT I) (hK : rK I) : Ok (f_X12_howFew I J) (fun o => o.2.2 = J ∧ o.1 = nt (mu off on) ∧ rK o.2.1 ∧ ∀ a j, ¬ a = 88 → ¬ a = 89 → o.2.1 a j = I a j) := by
  have e3 : (3 : Nat) ^ 8 = 6561 := by decide
  have hm8 := mu_8 (off := off) hon
  unfold f_X12_howFew f_X12_howFew_0 f_X12_howFew_1
  refine ok_loop (fun k s => s = (nt (ixf on off k), nt k, I, J)) 8 ?_ ?_ 5000 0 _ (by omega) (by omega) rfl
  · rintro k hk s rfl
    have hlt := ixf_lt on off k
    have h38 : 3 ^ k ≤ 3 ^ 8 := Nat.pow_le_pow_right (by omega) (by omega)
    simp (disch := omega) only [b_X12_howFew_1, f_X12_howFew_2, h48, has_ok (show k < 32 from by omega), Option.bind_some, f_X12_howFew_3, f_X12_howFew_4, f_X12_howFew_5, h49, f_X12_howFew_6, f_X12_howFew_7, f_X12_howFew_8, f_X12_howFew_9, bi_0, bt_nt, nt_clamp, nt_le, nt_lt, nt_eq, lit_le, lit_lt, le_lit, lt_lit, eq_lit, lit_eq, nt_neg, nt_ge, nt_add, nt_mul, nt_addl, lit_add, nt_mull, lit_mul, nt_sub, nt_subl, lit_sub, nt_divl, nt_m1, nt_m2, nt_m1', nt_m2', if_neg]
    rw [decide_eq_true (show k < 32 from by omega), Bool.true_and, Bool.true_and]
    have hs : ixf on off (k + 1) = 3 * ixf on off k + (if on.testBit k = true then 1 else if off.testBit k = true then 0 else 2) := rfl
    cases e1 : on.testBit k with
    | true =>
      rw [e1, if_pos rfl] at hs
      rw [if_neg (by decide)]
      rw [hs]
      exact ok_some rfl
    | false =>
      rw [e1, if_neg (by decide)] at hs
      rw [if_pos rfl]
      cases e2 : off.testBit k with
      | true =>
        rw [e2, if_pos rfl] at hs
        rw [if_neg (by decide)]
        rw [hs]
        exact ok_some rfl
      | false =>
        rw [e2, if_neg (by decide)] at hs
        rw [if_pos rfl]
        rw [hs]
        exact ok_some rfl
  · rintro s rfl
    have hlt := ixf_lt on off 8
    simp (disch := omega) only [b_X12_howFew_1, f_X12_howFew_10, nt_clamp, nt_le, nt_lt, nt_eq, lit_le, lit_lt, le_lit, lt_lit, eq_lit, lit_eq, nt_neg, nt_ge, nt_add, nt_mul, nt_addl, lit_add, nt_mull, lit_mul, nt_sub, nt_subl, lit_sub, nt_divl, nt_m1, nt_m2, nt_m1', nt_m2', false_or, if_neg, if_pos]
    rcases hK on off hon hoff hd with e | e
    · rw [if_pos e]
      apply ok_map
      unfold f_X12_howFew_11
      apply ok_bind
      refine (fewOf_ok hon hoff hd h48 h49 hT).imp ?_
      rintro ⟨_, I1, J1⟩ ⟨rfl, rfl, a1⟩
      dsimp only at a1 ⊢
      simp (disch := omega) only [f_X12_howFew_12, f_X12_howFew_13, nt_clamp, nt_le, nt_lt, nt_eq, lit_le, lit_lt, le_lit, lt_lit, eq_lit, lit_eq, nt_neg, nt_ge, nt_add, nt_mul, nt_addl, lit_add, nt_mull, lit_mul, nt_sub, nt_subl, lit_sub, nt_divl, nt_m1, nt_m2, nt_m1', nt_m2', false_or, if_neg, i8_ok, xup_at]
      refine ok_some ⟨rfl, ?_, ?_, ?_⟩
      · show nt (mu off on + 1 - 1) = _
        rw [Nat.add_sub_cancel]
      · intro R O h1 h2 h3
        dsimp only
        by_cases ce : ixf R O 8 = ixf on off 8
        · right
          have := ixf_inj h3 hd 8 ce
          rw [ce, xup_at, tb_ext8 h1 hon (fun k hk => (this k hk).1), tb_ext8 h2 hoff (fun k hk => (this k hk).2)]
        · rw [xup_j _ _ _ _ ce, a1 88 _ (by omega)]
          exact hK R O h1 h2 h3
      · intro a j h1 h2
        dsimp only
        rw [xup_bj _ _ _ _ _ h1]; exact a1 a j h2
    · rw [if_neg (by rw [e]; simp (disch := omega) only [nt_clamp, nt_le, nt_lt, nt_eq, lit_le, lit_lt, le_lit, lt_lit, eq_lit, lit_eq, nt_neg, nt_ge, nt_add, nt_mul, nt_addl, lit_add, nt_mull, lit_mul, nt_sub, nt_subl, lit_sub, nt_divl, nt_m1, nt_m2, nt_m1', nt_m2']; omega)]
      simp (disch := omega) only [f_X12_howFew_13, nt_clamp, nt_le, nt_lt, nt_eq, lit_le, lit_lt, le_lit, lt_lit, eq_lit, lit_eq, nt_neg, nt_ge, nt_add, nt_mul, nt_addl, lit_add, nt_mull, lit_mul, nt_sub, nt_subl, lit_sub, nt_divl, nt_m1, nt_m2, nt_m1', nt_m2', false_or, if_neg, e, Option.map_some]
      refine ok_some ⟨rfl, ?_, hK, fun _ _ _ _ => rfl⟩
      show nt (mu off on + 1 - 1) = _
      rw [Nat.add_sub_cancel]
