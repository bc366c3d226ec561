/-! the best codes of the reference -/
def aS (s : Nat) : Nat := ([42130, 5266, 658, 82, 10, 1] : List Nat).getD s 0
theorem aS_s : ∀ s, s < 5 → aS s = 8 * aS (s + 1) + 2 := by decide
theorem aS_p : ∀ s, s < 6 → 0 < aS s := by decide
def mS (s : Nat) (p : Nat → Nat) (k : Nat) : Nat := (8 - k) * aS s + 1 + ssum s (fun i => (8 - (p i + 1)) * aS i + 1)
theorem mS_k {s k : Nat} (hk : k < 8) : (8 - k) * aS s = (8 - (k + 1)) * aS s + aS s := by
  rw [show 8 - k = (8 - (k + 1)) + 1 from by omega, Nat.add_mul, Nat.one_mul]
theorem mS_next {s k : Nat} {p : Nat → Nat} (hs : s < 6) (hk : k < 8) : mS s p (k + 1) < mS s p k := by
  have h1 := mS_k (s := s) hk
  have := aS_p s hs
  unfold mS
  omega
theorem mS_pop {t k : Nat} {p : Nat → Nat} : mS t p (p t + 1) < mS (t + 1) p k := by
  have h : ssum (t + 1) (fun i => (8 - (p i + 1)) * aS i + 1) = ssum t (fun i => (8 - (p i + 1)) * aS i + 1) + ((8 - (p t + 1)) * aS t + 1) := rfl
  unfold mS
  rw [h]
  omega
theorem mS_down {s k : Nat} {p : Nat → Nat} (hs : s < 5) (hk : k < 8) : mS (s + 1) (upc p s k) 0 < mS s p k := by
  have h1 := mS_k (s := s) hk
  have h2 := aS_s s hs
  have h3 : ssum (s + 1) (fun i => (8 - (upc p s k i + 1)) * aS i + 1) = ssum s (fun i => (8 - (p i + 1)) * aS i + 1) + ((8 - (k + 1)) * aS s + 1) := by
    show ssum s (fun i => (8 - (upc p s k i + 1)) * aS i + 1) + ((8 - (upc p s k s + 1)) * aS s + 1) = _
    have h4 : ssum s (fun i => (8 - (upc p s k i + 1)) * aS i + 1) = ssum s (fun i => (8 - (p i + 1)) * aS i + 1) := ssum_ext s (fun i hi => by rw [upc_ne (show ¬ i = s from by omega)])
    rw [h4, upc_at]
  unfold mS
  rw [h3]
  omega
theorem QO_fin {n m y : Nat} {w : aT} {I : xI} (hn : n ≤ 6) (h : QO n m w y (fun _ => True) I) : BM n m w y (I 92) (I 93) := by
  rcases h with ⟨_, h⟩ | ⟨v, c, h1, h2, h3, _, h5, h6⟩
  · exact absurd trivial (h _ (vld_id (y := 0) hn).1)
  · exact ⟨v, c, ⟨h3, h5, fun d hd => h6 d hd trivial⟩, h1, h2⟩
theorem laysB9_ok {n m y : Nat} {w : aT} {I : xI} {J : xJ} (hn : n ≤ 6) (hm : m ≤ 4) (V : Vd n m w) (hy : y < 2) (hn0 : 0 < n) (hx : rCx n m w I) (hK : rK I) (h93 : I 93 y = -1) (h86 : I 86 0 = -1) : Ok (f_X12_laysBest_9 (nt y) 0 I J) (fun o => o.2.2 = J ∧ rK o.2.1 ∧ BM n m w y (o.2.1 92) (o.2.1 93) ∧ ∀ a j, ¬ uR y a j → o.2.1 a j = I a j) := by
  have hb3 := nb_le n
  have hw := nb_pow n (by omega)
  have hpos : 0 < 2 ^ nb n := Nat.pow_pos (by omega)
  unfold f_X12_laysBest_9
  refine ok_dec (fun M st => (∃ s p k I', st = (nt y, nt s, I', J) ∧ M = mS s p k + 1 ∧ s < n ∧ k ≤ 2 ^ nb n ∧ (∀ i, i < s → I' 86 i = nt (p i) ∧ p i < 2 ^ nb n) ∧ inj6 p s ∧ I' 86 s = nt k - 1 ∧ rK I' ∧ (∀ a j, ¬ uR y a j → I' a j = I a j) ∧ QO n m w y (Dn s p k) I') ∨ (∃ I', st = (nt y, -1, I', J) ∧ M = 0 ∧ rK I' ∧ (∀ a j, ¬ uR y a j → I' a j = I a j) ∧ QO n m w y (fun _ => True) I')) ?_ 10000000000000 (mS 0 (fun _ => 0) 0 + 1) _ (by decide) (Or.inl ⟨0, fun _ => 0, 0, I, rfl, rfl, hn0, by omega, fun i hi => absurd hi (by omega), fun i i' hi => absurd hi (by omega), h86.trans (by decide), hK, fun _ _ _ => rfl, Or.inl ⟨h93, fun d _ hD => ?_⟩⟩)
  · rintro M st (⟨s, p, k, I1, rfl, rfl, hs, hk, g1, g2, g3, g4, g5, g6⟩ | ⟨I1, rfl, rfl, g4, g5, g6⟩)
    · have ei : I1 86 s + 1 = nt k := by rw [g3, sub_add1]
      have x86s : (xup I1 86 s (nt k)) 86 s = nt k := xup_at _ _ _ _
      have x86 : ∀ i, i < s → (xup I1 86 s (nt k)) 86 i = nt (p i) := fun i hi => by rw [xup_j _ _ _ _ (by omega)]; exact (g1 i hi).1
      have xfr : ∀ a j, ¬ uR y a j → (xup I1 86 s (nt k)) a j = I a j := by
        intro a j h
        have : ¬ a = 86 := by intro e; apply h; unfold uR; omega
        rw [xup_bj _ _ _ _ _ this]; exact g5 a j h
      have xK : rK (xup I1 86 s (nt k)) := by
        intro R O r1 r2 r3
        rw [xup_bj _ _ _ _ _ (by omega)]; exact g4 R O r1 r2 r3
      have x93 : (xup I1 86 s (nt k)) 93 y = I1 93 y := xup_bj _ _ _ _ _ (by omega)
      have x92 : ∀ i, i < n → (xup I1 86 s (nt k)) 92 (6 * y + i) = I1 92 (6 * y + i) := fun i _ => xup_bj _ _ _ _ _ (by omega)
      simp (disch := omega) only [b_X12_laysBest_9, f_X12_laysBest_10, ei, x86s, nt_clamp, nt_le, nt_lt, nt_eq, lit_le, lit_lt, le_lit, lt_lit, eq_lit, lit_eq, nt_neg, nt_ge, nt_add, nt_mul, nt_addl, lit_add, nt_mull, lit_mul, nt_sub, nt_subl, lit_sub, nt_divl, nt_m1, nt_m2, nt_m1', nt_m2', false_or, if_neg, if_false]
      generalize xup I1 86 s (nt k) = I2 at x86s x86 xfr xK x93 x92 ⊢
      have xx : rCx n m w I2 := rCx_fr hx (fun a j h => xfr a j (by unfold uR; omega))
      simp (disch := omega) only [rbits_ok hn xx.1, Option.bind_some, f_X12_laysBest_11, shl3 (nb n) (by omega), nt_clamp, nt_le, nt_lt, nt_eq, lit_le, lit_lt, le_lit, lt_lit, eq_lit, lit_eq, nt_neg, nt_ge, nt_add, nt_mul, nt_addl, lit_add, nt_mull, lit_mul, nt_sub, nt_subl, lit_sub, nt_divl, nt_m1, nt_m2, nt_m1', nt_m2']
      by_cases ek : k = 2 ^ nb n
      · rw [if_pos ek]
        simp only [f_X12_laysBest_12, add_m1]
        rcases s with _ | t
        · refine ok_some ⟨0, by omega, Or.inr ⟨I2, ?_, rfl, xK, xfr, QO_imp g6 (fun d hd => ⟨fun _ => trivial, fun _ => Or.inr ⟨fun i hi => absurd hi (by omega), by rw [ek]; exact hd.2 0 hs⟩⟩) x93 x92⟩⟩
          rw [show nt 0 - 1 = -1 from by decide]
        · have hpt := (g1 t (by omega)).2
          refine ok_some ⟨mS t p (p t + 1) + 1, by have := mS_pop (t := t) (k := k) (p := p); omega, Or.inl ⟨t, p, p t + 1, I2, ?_, rfl, by omega, by omega, fun i hi => ⟨x86 i (by omega), (g1 i (by omega)).2⟩, fun i i' hi hi' => g2 i i' (by omega) (by omega), ?_, xK, xfr, QO_imp g6 (fun d hd => by rw [ek]; exact Dn_pop (hd.2 (t + 1) hs)) x93 x92⟩⟩
          · rw [nt_m1s (by omega), Nat.add_sub_cancel]
          · rw [nt_m1s (by omega), Nat.add_sub_cancel]; exact x86 t (by omega)
      · rw [if_neg ek]
        have hk8 : k < 8 := by omega
        have htk := isTaken_ok (s := s) (k := k) (p := p) (I := I2) (J := J) (by omega) (by omega) (fun i hi => ⟨x86 i hi, by have := (g1 i hi).2; omega⟩) x86s
        have hk1 : nt (k + 1) - 1 = nt k := by rw [nt_m1s (by omega), Nat.add_sub_cancel]
        cases ht : ex s (fun i => decide (p i = k)) with
        | true =>
          rw [ht] at htk
          simp only [f_X12_laysBest_13, htk, Option.bind_some, f_X12_laysBest_14, f_X12_laysBest_18, f_X12_laysBest_19, bi_0, eq_self, Bool.true_eq_false, Bool.false_eq_true, if_true, if_false, and_self, and_false, false_and, true_and, and_true]
          refine ok_some ⟨mS s p (k + 1) + 1, by have := mS_next (s := s) (p := p) (by omega) hk8; omega, Or.inl ⟨s, p, k + 1, I2, rfl, rfl, hs, by omega, fun i hi => ⟨x86 i hi, (g1 i hi).2⟩, g2, x86s.trans hk1.symm, xK, xfr, QO_imp g6 (fun d hd => ?_) x93 x92⟩⟩
          rw [Dn_next]
          refine ⟨Or.inl, fun h => h.resolve_right (fun h2 => ?_)⟩
          obtain ⟨i, hi, e⟩ := ex_iff.mp ht
          have e2 := of_decide_eq_true e
          have a1 := h2 i (by omega)
          have a2 := h2 s (by omega)
          rw [upc_ne (by omega)] at a1
          rw [upc_at] at a2
          have := hd.1 i s (by omega) hs (by rw [a1, a2, e2])
          omega
        | false =>
          rw [ht] at htk
          have hfree : ∀ i, i < s → ¬ p i = k := by
            intro i hi e
            rw [show ex s (fun i => decide (p i = k)) = true from ex_iff.mpr ⟨i, hi, decide_eq_true e⟩] at ht; cases ht
          have hinj' : inj6 (upc p s k) (s + 1) := by
            intro i i' hi hi' e
            by_cases q : i = s
            · by_cases q' : i' = s
              · omega
              · rw [q, upc_at, upc_ne q'] at e; exact absurd e.symm (hfree i' (by omega))
            · by_cases q' : i' = s
              · rw [q', upc_at, upc_ne q] at e; exact absurd e (hfree i (by omega))
              · rw [upc_ne q, upc_ne q'] at e; exact g2 i i' (by omega) (by omega) e
          have hlt' : ∀ i, i < s + 1 → upc p s k i < 2 ^ nb n := by
            intro i hi
            by_cases q : i = s
            · rw [q, upc_at]; omega
            · rw [upc_ne q]; exact (g1 i (by omega)).2
          have h86' : ∀ i, i < s + 1 → I2 86 i = nt (upc p s k i) := by
            intro i hi
            by_cases q : i = s
            · rw [q, upc_at]; exact x86s
            · rw [upc_ne q]; exact x86 i (by omega)
          simp (disch := omega) only [f_X12_laysBest_13, htk, Option.bind_some, f_X12_laysBest_14, bi_0, eq_self, Bool.true_eq_false, Bool.false_eq_true, if_true, if_false, and_self, and_false, false_and, true_and, and_true, f_X12_laysBest_15, xx.1, nt_clamp, nt_le, nt_lt, nt_eq, lit_le, lit_lt, le_lit, lt_lit, eq_lit, lit_eq, nt_neg, nt_ge, nt_add, nt_mul, nt_addl, lit_add, nt_mull, lit_mul, nt_sub, nt_subl, lit_sub, nt_divl, nt_m1, nt_m2, nt_m1', nt_m2']
          by_cases el : s = n - 1
          · rw [if_pos el]
            have en : n = s + 1 := by omega
            have hprp : prp n (upc p s k) := by rw [en] at hlt' ⊢; exact ⟨hinj', hlt'⟩
            obtain ⟨old, ho1, ho2⟩ : ∃ old, I2 93 y = o1 old ∧ ∀ u, old = some u → u < 1000 := by
              rcases g6 with ⟨q, _⟩ | ⟨v, c, q, _, _, _, q5, _⟩
              · exact ⟨none, x93.trans q, fun u e => by cases e⟩
              · exact ⟨some v, x93.trans q, fun u e => by cases e; rw [← q5]; exact wor_lt hm⟩
            unfold f_X12_laysBest_16
            apply ok_bind
            refine (weighs_ok (c := upc p s k) hn hm V xx xK hy ho2 ho1 (fun i hi => h86' i (by omega)) hprp).imp ?_
            rintro ⟨_, I3, J3⟩ ⟨rfl, a1, a2, a3⟩
            dsimp only at a1 a2 a3 ⊢
            have z86 : ∀ i, I3 86 i = I2 86 i := fun i => a2 86 i (Or.inr rfl)
            refine ok_some ⟨mS s p (k + 1) + 1, by have := mS_next (s := s) (p := p) (by omega) hk8; omega, Or.inl ⟨s, p, k + 1, I3, rfl, rfl, hs, by omega, fun i hi => ⟨(z86 i).trans (x86 i hi), (g1 i hi).2⟩, g2, ((z86 s).trans x86s).trans hk1.symm, a1, fun a j h => (a2 a j (Or.inl h)).trans (xfr a j h), ?_⟩⟩
            have q6 : QO n m w y (Dn s p k) I2 := QO_imp g6 (fun d _ => Iff.rfl) x93 x92
            have := QO_weigh (v' := 0) (c := upc p s k) hm V hprp (fun d hD => by rw [en]; exact Dn_after hD) ho2 ho1 q6 a3
            refine QO_imp this (fun d _ => ?_) rfl (fun _ _ => rfl)
            rw [Dn_next, ← en]
          · rw [if_neg el]
            simp (disch := omega) only [f_X12_laysBest_18, htk, Option.bind_some, f_X12_laysBest_19, bi_0, eq_self, Bool.true_eq_false, Bool.false_eq_true, if_true, if_false, and_self, and_false, false_and, true_and, and_true, f_X12_laysBest_20, nt_clamp, nt_le, nt_lt, nt_eq, lit_le, lit_lt, le_lit, lt_lit, eq_lit, lit_eq, nt_neg, nt_ge, nt_add, nt_mul, nt_addl, lit_add, nt_mull, lit_mul, nt_sub, nt_subl, lit_sub, nt_divl, nt_m1, nt_m2, nt_m1', nt_m2', false_or, if_neg]
            refine ok_some ⟨mS (s + 1) (upc p s k) 0 + 1, by have := mS_down (s := s) (p := p) (by omega) hk8; omega, Or.inl ⟨s + 1, upc p s k, 0, _, rfl, rfl, by omega, by omega, fun i hi => ⟨?_, hlt' i hi⟩, hinj', ?_, ?_, ?_, QO_imp g6 (fun d _ => Dn_down) ?_ ?_⟩⟩
            · rw [xup_j _ _ _ _ (by omega)]; exact h86' i hi
            · rw [xup_at]; decide
            · intro R O r1 r2 r3
              rw [xup_bj _ _ _ _ _ (by omega)]; exact xK R O r1 r2 r3
            · intro a j h
              have : ¬ a = 86 := by intro e; apply h; unfold uR; omega
              rw [xup_bj _ _ _ _ _ this]; exact xfr a j h
            · rw [xup_bj _ _ _ _ _ (by omega)]; exact x93
            · intro i hi
              rw [xup_bj _ _ _ _ _ (by omega)]; exact x92 i hi
    · simp (disch := omega) only [b_X12_laysBest_9, f_X12_laysBest_21, if_true, if_false, if_pos, if_neg, e01, e10, em12, em21, e0m1, e0m2, e1m1, e1m2, em10, em20, Int32.reduceLT, Int32.reduceLE, eq_self, Option.bind_some, Option.map_some, false_or, or_false, or_self, true_or, or_true, not_true_eq_false, not_false_eq_true, false_and, and_false, true_and, and_true]
      exact ok_some ⟨rfl, g4, QO_fin hn g6, g5⟩
  · rcases hD with ⟨i, hi, _⟩ | ⟨_, h⟩
    · omega
    · omega
def rbF (n m : Nat) (w : aT) (I : xI) : Prop := ∀ y, y < 2 → ¬ I 75 y = 0 → BM n m w y (I 92) (I 93)
theorem BB_0 (m : Nat) (w : aT) (y : Nat) : BB 0 m w y 0 (fun _ => 0) := by
  have hw : ∀ c, wor 0 m w y c = 0 := by
    intro c
    unfold wor
    by_cases e : y = 0
    · rw [if_pos e]; rfl
    · rw [if_neg e]; exact ssum_zero m
  refine ⟨⟨fun s s' hs => absurd hs (by omega), fun s hs => absurd hs (by omega)⟩, hw _, ?_⟩
  intro d _
  refine ⟨by omega, fun _ => ?_⟩
  rintro ⟨i, hi, _⟩
  omega
theorem laysBest_ok {n m y : Nat} {w : aT} {I : xI} {J : xJ} (hn : n ≤ 6) (hm : m ≤ 4) (V : Vd n m w) (hy : y < 2) (hx : rCx n m w I) (hK : rK I) (hc : ¬ I 75 y = 0 → BM n m w y (I 92) (I 93)) : Ok (f_X12_laysBest (nt y) I J) (fun o => o.2.2 = J ∧ rK o.2.1 ∧ BM n m w y (o.2.1 92) (o.2.1 93) ∧ ∀ a j, ¬ uR y a j → o.2.1 a j = I a j) := by
  simp (disch := omega) only [f_X12_laysBest, f_X12_laysBest_0, nt_clamp, nt_le, nt_lt, nt_eq, lit_le, lit_lt, le_lit, lt_lit, eq_lit, lit_eq, nt_neg, nt_ge, nt_add, nt_mul, nt_addl, lit_add, nt_mull, lit_mul, nt_sub, nt_subl, lit_sub, nt_divl, nt_m1, nt_m2, nt_m1', nt_m2', false_or, if_neg]
  by_cases e : I 75 y = 0
  · rw [if_pos e]
    have fr : ∀ (v : Int32) a j, ¬ uR y a j → (xup (xup (xup I 75 y 1) 93 y v) 86 0 (-1)) a j = I a j := by
      intro v a j h
      unfold uR at h
      rw [xup_no _ _ _ _ (by omega), xup_no _ _ _ _ (by omega), xup_no _ _ _ _ (by omega)]
    have x93 : ∀ v : Int32, (xup (xup (xup I 75 y 1) 93 y v) 86 0 (-1)) 93 y = v := fun v => by rw [xup_bj _ _ _ _ _ (by omega), xup_at]
    have x86 : ∀ v : Int32, (xup (xup (xup I 75 y 1) 93 y v) 86 0 (-1)) 86 0 = -1 := fun v => xup_at _ _ _ _
    have xK : ∀ v : Int32, rK (xup (xup (xup I 75 y 1) 93 y v) 86 0 (-1)) := by
      intro v R O r1 r2 r3
      rw [xup_bj _ _ _ _ _ (by omega), xup_bj _ _ _ _ _ (by omega), xup_bj _ _ _ _ _ (by omega)]; exact hK R O r1 r2 r3
    have s1 : (xup I 75 y 1) 61 17 = nt n := by rw [xup_bj _ _ _ _ _ (by omega)]; exact hx.1
    have s2 : ∀ v : Int32, (xup (xup I 75 y 1) 93 y v) 61 17 = nt n := fun v => by rw [xup_bj _ _ _ _ _ (by omega)]; exact s1
    simp (disch := omega) only [f_X12_laysBest_2, f_X12_laysBest_3, f_X12_laysBest_4, f_X12_laysBest_5, f_X12_laysBest_6, f_X12_laysBest_7, f_X12_laysBest_8, s1, s2, nt_clamp, nt_le, nt_lt, nt_eq, lit_le, lit_lt, le_lit, lt_lit, eq_lit, lit_eq, nt_neg, nt_ge, nt_add, nt_mul, nt_addl, lit_add, nt_mull, lit_mul, nt_sub, nt_subl, lit_sub, nt_divl, nt_m1, nt_m2, nt_m1', nt_m2', false_or, if_neg]
    by_cases e0 : n = 0
    · rw [if_pos e0, if_pos e0]
      subst e0
      unfold f_X12_laysBest_9
      refine ok_dec (fun M st => st = (nt y, -1, xup (xup (xup I 75 y 1) 93 y 0) 86 0 (-1), J)) ?_ 10000000000000 0 _ (by decide) rfl
      rintro M st rfl
      simp (disch := omega) only [b_X12_laysBest_9, f_X12_laysBest_21, if_true, if_false, if_pos, if_neg, e01, e10, em12, em21, e0m1, e0m2, e1m1, e1m2, em10, em20, Int32.reduceLT, Int32.reduceLE, eq_self, Option.bind_some, Option.map_some, false_or, or_false, or_self, true_or, or_true, not_true_eq_false, not_false_eq_true, false_and, and_false, true_and, and_true]
      exact ok_some ⟨rfl, xK 0, ⟨0, fun _ => 0, BB_0 m w y, x93 0, fun i hi => absurd hi (by omega)⟩, fr 0⟩
    · rw [if_neg e0]
      exact (laysB9_ok hn hm V hy (by omega) (rCx_fr hx (fun a j h => fr (-1) a j (by unfold uR; omega))) (xK (-1)) (x93 (-1)) (x86 (-1))).imp (fun o h => ⟨h.1, h.2.1, h.2.2.1, fun a j hu => (h.2.2.2 a j hu).trans (fr (-1) a j hu)⟩)
  · rw [if_neg e]
    exact ok_some ⟨rfl, hK, hc e, fun _ _ _ => rfl⟩
def rbReg (a j : Nat) : Prop := a = 86 ∨ a = 88 ∨ a = 89 ∨ a = 92 ∨ a = 93 ∨ a = 75 ∨ (a = 61 ∧ (j = 48 ∨ j = 49))
theorem rbest6_ok {n m y : Nat} {w : aT} {I : xI} {J : xJ} (hn : n ≤ 6) (hm : m ≤ 4) (V : Vd n m w) (hx : rCx n m w I) (hK : rK I) (hB : rbF n m w I) (hy : y < 2) (z : Int32) (hz : z = -1 ∨ isS n z = true) : Ok (f_X12_best_6 (nt y) z I J) (fun o => o.2.2 = J ∧ o.1 = (if z = -1 then nt (bsp n m w y).1 else nt ((bsp n m w y).2 z.toNatClampNeg)) ∧ rK o.2.1 ∧ rbF n m w o.2.1 ∧ ∀ a j, ¬ rbReg a j → o.2.1 a j = I a j) := by
  unfold f_X12_best_6
  apply ok_bind
  refine (laysBest_ok hn hm V hy hx hK (hB y hy)).imp ?_
  rintro ⟨_, I2, J2⟩ ⟨rfl, b1, b2, b3⟩
  dsimp only at b1 b2 b3 ⊢
  have hfin : rK I2 ∧ rbF n m w I2 ∧ ∀ a j, ¬ rbReg a j → I2 a j = I a j := by
    refine ⟨b1, ?_, fun a j h => b3 a j (by unfold rbReg at h; unfold uR; omega)⟩
    intro y' hy' e
    by_cases q : y' = y
    · rw [q]; exact b2
    · have t75 : I2 75 y' = I 75 y' := b3 75 y' (by unfold uR; omega)
      obtain ⟨v, c, c1, c2, c3⟩ := hB y' hy' (by rw [← t75]; exact e)
      refine ⟨v, c, c1, ?_, ?_⟩
      · rw [b3 93 y' (by unfold uR; omega)]; exact c2
      · intro i hi
        rw [b3 92 _ (by unfold uR; omega)]; exact c3 i hi
  obtain ⟨v, c, c1, c2, c3⟩ := b2
  have hbs := bsp_of c1
  simp only [f_X12_best_7]
  by_cases ez : z = -1
  · rw [if_pos ez, if_pos ez]
    simp (disch := omega) only [f_X12_best_8, f_X12_best_10, nt_clamp, nt_le, nt_lt, nt_eq, lit_le, lit_lt, le_lit, lt_lit, eq_lit, lit_eq, nt_neg, nt_ge, nt_add, nt_mul, nt_addl, lit_add, nt_mull, lit_mul, nt_sub, nt_subl, lit_sub, nt_divl, nt_m1, nt_m2, nt_m1', nt_m2', false_or, if_neg]
    exact ok_some ⟨rfl, by rw [← hbs.1]; exact c2, hfin⟩
  · rw [if_neg ez, if_neg ez]
    obtain ⟨s, hs, rfl⟩ := isS_ex (by omega) (hz.resolve_left ez)
    have e6 : (6 : Int32) * nt y + nt s = nt (6 * y + s) := by rw [show (6 : Int32) = nt 6 from rfl, nt_mul, nt_add]
    simp (disch := omega) only [f_X12_best_9, f_X12_best_10, e6, nt_clamp, nt_le, nt_lt, nt_eq, lit_le, lit_lt, le_lit, lt_lit, eq_lit, lit_eq, nt_neg, nt_ge, nt_add, nt_mul, nt_addl, lit_add, nt_mull, lit_mul, nt_sub, nt_subl, lit_sub, nt_divl, nt_m1, nt_m2, nt_m1', nt_m2', false_or, if_neg]
    exact ok_some ⟨rfl, by rw [← hbs.2 s hs]; exact c3 s hs, hfin⟩
theorem rbest_ok {n m : Nat} {w : aT} {I : xI} {J : xJ} (hn : n ≤ 6) (hm : m ≤ 4) (V : Vd n m w) (h0 : I 61 17 = nt n) (h1 : I 61 18 = nt m) (h : rMa n m w (I 70) 0) (hT : rT I) (hK : rK I) (hB : rbF n m w I) (x z : Int32) : Ok (f_X12_best x z I J) (fun o => o.2.2 = J ∧ o.1 = bestR n m w x z ∧ rK o.2.1 ∧ rbF n m w o.2.1 ∧ ∀ a j, ¬ rbReg a j → o.2.1 a j = I a j) := by
  have no : ¬ (isS 2 x = true ∧ (z = -1 ∨ isS n z = true)) → Ok (f_X12_best_5 x z I J) (fun o => o.2.2 = J ∧ o.1 = bestR n m w x z ∧ rK o.2.1 ∧ rbF n m w o.2.1 ∧ ∀ a j, ¬ rbReg a j → o.2.1 a j = I a j) := by
    intro hh
    unfold bestR
    rw [if_neg hh]
    exact ok_some ⟨rfl, rfl, hK, hB, fun _ _ _ => rfl⟩
  simp only [f_X12_best, f_X12_best_0, rin01_ok, Option.bind_some, f_X12_best_1, bi_0]
  cases e1 : isS 2 x with
  | false =>
    rw [if_pos rfl]
    exact no (by rw [e1]; exact fun hh => absurd hh.1 (by decide))
  | true =>
    rw [if_neg (by decide)]
    obtain ⟨k, hk, rfl⟩ := isS_ex (by omega) e1
    have yes : z = -1 ∨ isS n z = true → Ok (f_X12_best_6 (nt k) z I J) (fun o => o.2.2 = J ∧ o.1 = bestR n m w (nt k) z ∧ rK o.2.1 ∧ rbF n m w o.2.1 ∧ ∀ a j, ¬ rbReg a j → o.2.1 a j = I a j) := by
      intro hz
      have := rbest6_ok (J := J) hn hm V ⟨h0, h1, h, hT⟩ hK hB hk z hz
      unfold bestR
      rw [if_pos ⟨e1, hz⟩, nt_clamp (by omega)]
      exact this
    unfold f_X12_best_2
    by_cases ez : z = -1
    · rw [if_pos ez]
      exact yes (Or.inl ez)
    · rw [if_neg ez]
      simp only [f_X12_best_3, isState_ok h0 (show n < 2147483648 from by omega), Option.bind_some, f_X12_best_4, bi_0]
      cases e2 : isS n z with
      | false =>
        rw [if_pos rfl]
        exact no (by rw [e2]; exact fun hh => hh.2.elim ez (fun h1 => absurd h1 (by decide)))
      | true =>
        rw [if_neg (by decide)]
        exact yes (Or.inr e2)
