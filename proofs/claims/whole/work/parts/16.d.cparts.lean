/-! partitions of the class -/
def pmk (c : Nat → Bool) : Int32 := orf 15 (fun q => if c q = true then 1 <<< nt q else 0)
theorem pmk_bt {c : Nat → Bool} {q : Nat} (hq : q < 32) : bt (pmk c) q = (decide (q < 15) && c q) := by
  unfold pmk
  rw [orf_bt]
  cases e : (decide (q < 15) && c q) with
  | true =>
    rw [Bool.and_eq_true] at e
    have h15 := of_decide_eq_true e.1
    refine ex_iff.mpr ⟨q, h15, ?_⟩
    rw [if_pos e.2, one_shl (by omega) hq, decide_eq_true rfl]
  | false =>
    refine ex_false.mpr ?_
    intro i hi
    by_cases cc : i = q
    · rw [cc] at hi ⊢
      rw [decide_eq_true hi, Bool.true_and] at e
      rw [e, if_neg (by decide), bt_zero]
    · split
      · rw [one_shl (by omega) hq, decide_eq_false (fun h => cc h.symm)]
      · exact bt_zero q
def dgt (n N s : Nat) : Nat := N / 10 ^ (n - 1 - s) % 10
theorem tens_ok : ∀ k, k < 6 → zst1001 k = nt (10 ^ k) := by decide
theorem pow10_pos (k : Nat) : 0 < 10 ^ k := Nat.pos_of_ne_zero (by intro h; have := Nat.pow_eq_zero.mp h; omega)
theorem blockOf_ok {n i N s : Nat} {I : xI} {J : xJ} (hn : n ≤ 6) (hs : s < n) (hi : i < 203) (hN : N < 1000000) (h6 : I 43 6 = nt n) (h44 : I 44 i = nt N) : f_X7_blockOf (nt i) (nt s) I J = some (nt (dgt n N s), I, J) := by
  have hp := pow10 (n - 1 - s) (by omega)
  have hp0 := pow10_pos (n - 1 - s)
  have ht := tens_ok (n - 1 - s) (by omega)
  have hd : N / 10 ^ (n - 1 - s) ≤ N := Nat.div_le_self _ _
  simp (disch := omega) only [f_X7_blockOf, f_X7_blockOf_0, f_X7_blockOf_1, f_X7_blockOf_2, f_X7_blockOf_4, h6, h44, ht, nt_clamp, nt_le, nt_lt, nt_eq, lit_le, lit_lt, le_lit, lt_lit, eq_lit, lit_eq, nt_neg, nt_ge, nt_add, nt_mul, nt_addl, lit_add, nt_mull, lit_mul, nt_sub, nt_subl, lit_sub, nt_divl, nt_m1, nt_m2, nt_m1', nt_m2', false_or, if_neg, nt_div]
  have e : N / 10 ^ (n - 1 - s) - N / 10 ^ (n - 1 - s) / 10 * 10 = dgt n N s := by unfold dgt; omega
  rw [e]
/-- the pairs in one block -/
def jno (n N : Nat) : Int32 := pmk (fun q => decide (pH q < n) && decide (dgt n N (pL q) = dgt n N (pH q)))
theorem joinsOf_ok {n i N : Nat} {I : xI} {J : xJ} (hn : n ≤ 6) (hi : i < 203) (hN : N < 1000000) (h6 : I 43 6 = nt n) (h44 : I 44 i = nt N) : f_X7_joinsOf (nt i) I J = some (jno n N, I, J) := by
  apply Ok.eq
  unfold f_X7_joinsOf f_X7_joinsOf_0 f_X7_joinsOf_1
  refine ok_loop (fun a s => ∃ v z, s = (nt i, v, nt a, z, I, J) ∧ ∀ q, q < 32 → bt v q = (decide (q < 15) && (dn a 0 q && (decide (pH q < n) && decide (dgt n N (pL q) = dgt n N (pH q)))))) n ?_ ?_ 5000 0 _ (by omega) (by omega) ⟨0, none, rfl, ?_⟩
  · rintro a ha s ⟨v, z, rfl, g1⟩
    simp (disch := omega) only [b_X7_joinsOf_1, f_X7_joinsOf_2, h6, nt_clamp, nt_le, nt_lt, nt_eq, lit_le, lit_lt, le_lit, lt_lit, eq_lit, lit_eq, nt_neg, nt_ge, nt_add, nt_mul, nt_addl, lit_add, nt_mull, lit_mul, nt_sub, nt_subl, lit_sub, nt_divl, nt_m1, nt_m2, nt_m1', nt_m2', if_true, if_false, if_pos, if_neg, e01, e10, em12, em21, e0m1, e0m2, e1m1, e1m2, em10, em20, Int32.reduceLT, Int32.reduceLE, eq_self, Option.bind_some, Option.map_some, false_or, or_false, or_self, true_or, or_true, not_true_eq_false, not_false_eq_true, false_and, and_false, true_and, and_true]
    unfold f_X7_joinsOf_3
    refine ok_loop (fun b s => ∃ v, s = (nt i, v, nt a, nt b, I, J) ∧ a < b ∧ ∀ q, q < 32 → bt v q = (decide (q < 15) && (dn a b q && (decide (pH q < n) && decide (dgt n N (pL q) = dgt n N (pH q)))))) n ?_ ?_ 5000 (a + 1) _ (by omega) (by omega) ⟨v, rfl, by omega, ?_⟩
    · rintro b hb s ⟨v, rfl, hab, g2⟩
      have hda : dgt n N a < 10 := Nat.mod_lt _ (by omega)
      have hdb : dgt n N b < 10 := Nat.mod_lt _ (by omega)
      simp (disch := omega) only [b_X7_joinsOf_3, f_X7_joinsOf_4, f_X7_joinsOf_5, f_X7_joinsOf_6, f_X7_joinsOf_7, f_X7_joinsOf_8, f_X7_joinsOf_9, h6, nt_clamp, nt_le, nt_lt, nt_eq, lit_le, lit_lt, le_lit, lt_lit, eq_lit, lit_eq, nt_neg, nt_ge, nt_add, nt_mul, nt_addl, lit_add, nt_mull, lit_mul, nt_sub, nt_subl, lit_sub, nt_divl, nt_m1, nt_m2, nt_m1', nt_m2', if_neg, blockOf_ok hn ha hi hN h6 h44, blockOf_ok hn hb hi hN h6 h44, pairOf_ok, Option.bind_some]
      have hst := dn_step a (by omega) b (by omega) hab
      have el := pX_inv a (by omega) b (by omega) hab
      have hpx := pX_lt a (by omega) b (by omega)
      by_cases e : dgt n N a = dgt n N b
      · rw [if_pos e]
        refine ok_some ⟨_, rfl, by omega, ?_⟩
        intro q hq
        rw [bt_or, g2 q hq, pm_bt (by omega) (by omega) hq, decide_eq_false (show ¬ a = b from by omega)]
        by_cases c15 : q < 15
        · rw [hst q c15]
          by_cases c : q = pX a b
          · rw [c, decide_eq_true rfl, decide_eq_true hpx, el.1, el.2, decide_eq_true e, decide_eq_true hb]; simp
          · rw [decide_eq_false c]; simp
        · rw [decide_eq_false c15, decide_eq_false (show ¬ q = pX a b from by omega)]; simp
      · rw [if_neg e]
        refine ok_some ⟨_, rfl, by omega, ?_⟩
        intro q hq
        rw [g2 q hq]
        by_cases c15 : q < 15
        · rw [hst q c15]
          by_cases c : q = pX a b
          · rw [c, el.1, el.2, decide_eq_false e]; simp
          · rw [decide_eq_false c, Bool.or_false]
        · rw [decide_eq_false c15]; rfl
    · rintro s ⟨v, rfl, hab, g2⟩
      simp (disch := omega) only [b_X7_joinsOf_3, f_X7_joinsOf_10, h6, nt_clamp, nt_le, nt_lt, nt_eq, lit_le, lit_lt, le_lit, lt_lit, eq_lit, lit_eq, nt_neg, nt_ge, nt_add, nt_mul, nt_addl, lit_add, nt_mull, lit_mul, nt_sub, nt_subl, lit_sub, nt_divl, nt_m1, nt_m2, nt_m1', nt_m2', if_true, if_false, if_pos, if_neg, e01, e10, em12, em21, e0m1, e0m2, e1m1, e1m2, em10, em20, Int32.reduceLT, Int32.reduceLE, eq_self, Option.bind_some, Option.map_some, false_or, or_false, or_self, true_or, or_true, not_true_eq_false, not_false_eq_true, false_and, and_false, true_and, and_true]
      refine ok_some ⟨v, _, rfl, ?_⟩
      intro q hq
      rw [g2 q hq]
      by_cases c15 : q < 15
      · by_cases c : pH q < n
        · have : dn (a + 1) 0 q = dn a n q := by
            unfold dn
            rw [decide_eq_true c, decide_eq_false (show ¬ pH q < 0 from by omega), Bool.and_false, Bool.or_false, Bool.and_true]
            by_cases c1 : pL q < a
            · rw [decide_eq_true c1, decide_eq_true (show pL q < a + 1 from by omega)]; rfl
            · by_cases c2 : pL q = a
              · rw [decide_eq_true c2, decide_eq_true (show pL q < a + 1 from by omega), Bool.or_true]
              · rw [decide_eq_false c1, decide_eq_false c2, decide_eq_false (show ¬ pL q < a + 1 from by omega)]; rfl
          rw [this]
        · rw [decide_eq_false c]; simp
      · rw [decide_eq_false c15]; rfl
    · intro q hq
      rw [g1 q hq]
      by_cases c15 : q < 15
      · rw [dn_first a (by omega) q c15]
      · rw [decide_eq_false c15]; rfl
  · rintro s ⟨v, z, rfl, g1⟩
    simp (disch := omega) only [b_X7_joinsOf_1, f_X7_joinsOf_11, h6, nt_clamp, nt_le, nt_lt, nt_eq, lit_le, lit_lt, le_lit, lt_lit, eq_lit, lit_eq, nt_neg, nt_ge, nt_add, nt_mul, nt_addl, lit_add, nt_mull, lit_mul, nt_sub, nt_subl, lit_sub, nt_divl, nt_m1, nt_m2, nt_m1', nt_m2', if_true, if_false, if_pos, if_neg, e01, e10, em12, em21, e0m1, e0m2, e1m1, e1m2, em10, em20, Int32.reduceLT, Int32.reduceLE, eq_self, Option.bind_some, Option.map_some, false_or, or_false, or_self, true_or, or_true, not_true_eq_false, not_false_eq_true, false_and, and_false, true_and, and_true]
    refine ok_some ?_
    have : v = jno n N := by
      apply bt_ext
      intro q hq
      unfold jno
      rw [g1 q hq, pmk_bt hq]
      by_cases c15 : q < 15
      · by_cases c : pH q < n
        · have hlh := (pX_lh q c15).2.1
          unfold dn
          rw [decide_eq_true (show pL q < n from by omega)]; simp
        · rw [decide_eq_false c]; simp
      · rw [decide_eq_false c15]; rfl
    rw [this]; rfl
  · intro q hq
    rw [bt_zero]
    unfold dn
    simp
/-- a list of partitions in the class's arrays -/
def cPl (n : Nat) (l : List (Nat × Nat)) (I : xI) : Prop := I 43 6 = nt n ∧ I 43 5 = nt l.length ∧ ∀ i q, l[i]? = some q → I 44 i = nt q.1 ∧ I 46 i = nt q.2 ∧ I 45 i = jno n q.1
def gReg (c j : Nat) : Prop := c = 44 ∨ c = 45 ∨ c = 46 ∨ (c = 43 ∧ j = 5)
theorem ext_len (j : Nat) (q : Nat × Nat) : 0 < (ext j q).length := by
  induction j generalizing q with
  | zero => exact Nat.zero_lt_one
  | succ j ih =>
    unfold ext
    rw [List.range_succ_eq_map, List.flatMap_cons, List.length_append]
    have := ih (q.1 * 10 + 0, max q.2 (0 + 1))
    omega
theorem fm_succ {α : Type} (f : Nat → List α) (c : Nat) : (List.range (c + 1)).flatMap f = (List.range c).flatMap f ++ f c := by
  rw [List.range_succ, List.flatMap_append]
  simp
theorem fm_mono {α : Type} (f : Nat → List α) {a b : Nat} (h : a ≤ b) : ((List.range a).flatMap f).length ≤ ((List.range b).flatMap f).length := by
  induction b with
  | zero => have : a = 0 := by omega
            rw [this]; exact Nat.le_refl _
  | succ b ih =>
    by_cases c : a = b + 1
    · rw [c]; exact Nat.le_refl _
    · have := ih (by omega)
      rw [fm_succ, List.length_append]; omega
theorem grow_ok {n : Nat} (hn : n ≤ 6) : ∀ (r j s num b : Nat) (l : List (Nat × Nat)) (I : xI) (J : xJ), s + j = n → j < r → num < 10 ^ s → b ≤ s → l.length + (ext j (num, b)).length ≤ 203 → cPl n l I → Ok (f_X7_grow r (nt s) (nt num) (nt b) I J) (fun o => o.2.2 = J ∧ cPl n (l ++ ext j (num, b)) o.2.1 ∧ ∀ c j, ¬ gReg c j → o.2.1 c j = I c j) := by
  intro r
  induction r with
  | zero => intro j s num b l I J h1 h2; omega
  | succ r ih =>
    intro j s num b l I J hsj hjr hnum hb hlen hP
    have hP2 := hP
    obtain ⟨h6, h5, hl⟩ := hP2
    have hpw := pow10 s (by omega)
    show Ok (f_X7_grow_0 (f_X7_grow r) (nt s) (nt num) (nt b) I J) _
    simp (disch := omega) only [f_X7_grow_0, h6, nt_clamp, nt_le, nt_lt, nt_eq, lit_le, lit_lt, le_lit, lt_lit, eq_lit, lit_eq, nt_neg, nt_ge, nt_add, nt_mul, nt_addl, lit_add, nt_mull, lit_mul, nt_sub, nt_subl, lit_sub, nt_divl, nt_m1, nt_m2, nt_m1', nt_m2']
    rcases j with _ | j
    · have hl1 : (ext 0 (num, b)).length = 1 := rfl
      rw [if_neg (by omega)]
      simp (disch := omega) only [f_X7_grow_1, f_X7_grow_2, h5, nt_clamp, nt_le, nt_lt, nt_eq, lit_le, lit_lt, le_lit, lt_lit, eq_lit, lit_eq, nt_neg, nt_ge, nt_add, nt_mul, nt_addl, lit_add, nt_mull, lit_mul, nt_sub, nt_subl, lit_sub, nt_divl, nt_m1, nt_m2, nt_m1', nt_m2', false_or, if_neg, xup_bj]
      rw [joinsOf_ok (N := num) hn (by omega) (by omega) (by simp (disch := omega) only [xup_bj]; exact h6) (by simp (disch := omega) only [xup_bj, xup_at]), Option.bind_some]
      simp (disch := omega) only [f_X7_grow_3, f_X7_grow_4, nt_clamp, nt_le, nt_lt, nt_eq, lit_le, lit_lt, le_lit, lt_lit, eq_lit, lit_eq, nt_neg, nt_ge, nt_add, nt_mul, nt_addl, lit_add, nt_mull, lit_mul, nt_sub, nt_subl, lit_sub, nt_divl, nt_m1, nt_m2, nt_m1', nt_m2', false_or, if_neg, xup_bj, h5]
      refine ok_some ?_
      dsimp only
      refine ⟨rfl, ⟨?_, ?_, ?_⟩, ?_⟩
      · simp (disch := omega) only [xup_j, xup_bj]; exact h6
      · rw [xup_at, List.length_append]; rfl
      · intro i q hq
        simp (disch := omega) only [xup_bj, xup_if]
        by_cases c : i = l.length
        · rw [if_pos c, if_pos c, if_pos c]
          rw [c, List.getElem?_append_right (by omega)] at hq
          simp [ext] at hq
          rw [← hq]
          exact ⟨rfl, rfl, rfl⟩
        · rw [if_neg c, if_neg c, if_neg c]
          have hlt : i < (l ++ ext 0 (num, b)).length := by
            rw [List.getElem?_eq_some_iff] at hq
            exact hq.1
          rw [List.length_append, hl1] at hlt
          rw [List.getElem?_append_left (by omega)] at hq
          exact hl i q hq
      · intro c j hg
        unfold gReg at hg
        simp (disch := omega) only [xup_no, xup_bj]
    · rw [if_pos (by omega)]
      unfold f_X7_grow_5 f_X7_grow_6
      have ee : ext (j + 1) (num, b) = (List.range (b + 1)).flatMap (fun c => ext j (num * 10 + c, max b (c + 1))) := rfl
      refine ok_loop (fun c t => ∃ I', t = (nt s, nt num, nt b, nt c, I', J) ∧ cPl n (l ++ (List.range c).flatMap (fun c => ext j (num * 10 + c, max b (c + 1)))) I' ∧ ∀ c j, ¬ gReg c j → I' c j = I c j) (b + 1) ?_ ?_ 5000 0 _ (by omega) (by omega) ⟨I, rfl, by simp; exact hP, fun _ _ _ => rfl⟩
      · rintro c hc t ⟨I', rfl, g1, g2⟩
        have hm1 := fm_mono (fun c => ext j (num * 10 + c, max b (c + 1))) (show c + 1 ≤ b + 1 from by omega)
        rw [fm_succ, List.length_append] at hm1
        rw [ee] at hlen
        simp (disch := omega) only [b_X7_grow_6, f_X7_grow_7, nt_clamp, nt_le, nt_lt, nt_eq, lit_le, lit_lt, le_lit, lt_lit, eq_lit, lit_eq, nt_neg, nt_ge, nt_add, nt_mul, nt_addl, lit_add, nt_mull, lit_mul, nt_sub, nt_subl, lit_sub, nt_divl, nt_m1, nt_m2, nt_m1', nt_m2', if_neg]
        have emax : (if b < c + 1 then nt (c + 1) else nt b) = nt (max b (c + 1)) := by
          by_cases cc : b < c + 1
          · rw [if_pos cc, show max b (c + 1) = c + 1 from by omega]
          · rw [if_neg cc, show max b (c + 1) = b from by omega]
        rw [emax]
        apply ok_bind
        refine (ih j (s + 1) (num * 10 + c) (max b (c + 1)) _ I' J (by omega) (by omega) (by rw [Nat.pow_succ]; omega) (by omega) ?_ g1).imp ?_
        · rw [List.length_append]; omega
        · rintro ⟨_, I2, J2⟩ ⟨rfl, a1, a2⟩
          dsimp only at a1 a2 ⊢
          simp only [f_X7_grow_8, nt_addl]
          refine ok_some ⟨I2, rfl, ?_, fun c j hg => (a2 c j hg).trans (g2 c j hg)⟩
          rw [fm_succ, ← List.append_assoc]; exact a1
      · rintro t ⟨I', rfl, g1, g2⟩
        simp (disch := omega) only [b_X7_grow_6, f_X7_grow_9, nt_clamp, nt_le, nt_lt, nt_eq, lit_le, lit_lt, le_lit, lt_lit, eq_lit, lit_eq, nt_neg, nt_ge, nt_add, nt_mul, nt_addl, lit_add, nt_mull, lit_mul, nt_sub, nt_subl, lit_sub, nt_divl, nt_m1, nt_m2, nt_m1', nt_m2', if_true, if_false, if_pos, if_neg, e01, e10, em12, em21, e0m1, e0m2, e1m1, e1m2, em10, em20, Int32.reduceLT, Int32.reduceLE, eq_self, Option.bind_some, Option.map_some, false_or, or_false, or_self, true_or, or_true, not_true_eq_false, not_false_eq_true, false_and, and_false, true_and, and_true]
        exact ok_some ⟨rfl, g1, g2⟩
def fol (c33 : Nat → Int32) (x : Int32) : Int32 := orf 15 (fun p => if bt x p = true then c33 p else 0)
theorem followed_ok {I : xI} {J : xJ} (x : Int32) : f_X6_followed x I J = some (fol (I 33) x, I, J) := by
  apply Ok.eq
  unfold f_X6_followed f_X6_followed_0 f_X6_followed_1
  refine ok_loop (fun k s => s = (x, orf k (fun p => if bt x p = true then I 33 p else 0), nt k, I, J)) 15 ?_ ?_ 5000 0 _ (by omega) (by omega) rfl
  · rintro k hk s rfl
    simp (disch := omega) only [b_X6_followed_1, f_X6_followed_2, f_X6_followed_3, f_X6_followed_4, nt_clamp, nt_le, nt_lt, nt_eq, lit_le, lit_lt, le_lit, lt_lit, eq_lit, lit_eq, nt_neg, nt_ge, nt_add, nt_mul, nt_addl, lit_add, nt_mull, lit_mul, nt_sub, nt_subl, lit_sub, nt_divl, nt_m1, nt_m2, nt_m1', nt_m2', false_or, if_neg, nt_31, has_bi, bi_1]
    cases e : bt x k with
    | true =>
      rw [if_pos rfl]
      refine ok_some ?_
      show _ = _
      rw [orf, e, if_pos rfl]
    | false =>
      rw [if_neg (by decide)]
      refine ok_some ?_
      show _ = _
      rw [orf, e, if_neg (by decide), Int32.or_zero]
  · rintro s rfl
    simp (disch := omega) only [b_X6_followed_1, f_X6_followed_5, nt_clamp, nt_le, nt_lt, nt_eq, lit_le, lit_lt, le_lit, lt_lit, eq_lit, lit_eq, nt_neg, nt_ge, nt_add, nt_mul, nt_addl, lit_add, nt_mull, lit_mul, nt_sub, nt_subl, lit_sub, nt_divl, nt_m1, nt_m2, nt_m1', nt_m2', if_true, if_false, if_pos, if_neg, e01, e10, em12, em21, e0m1, e0m2, e1m1, e1m2, em10, em20, Int32.reduceLT, Int32.reduceLE, eq_self, Option.bind_some, Option.map_some, false_or, or_false, or_self, true_or, or_true, not_true_eq_false, not_false_eq_true, false_and, and_false, true_and, and_true]
    exact ok_some rfl
theorem jn_bt {n i q : Nat} (hq : q < 32) : bt (jno n (pnum n i)) q = (decide (q < 15) && (decide (pH q < n) && decide (bo n i (pL q) = bo n i (pH q)))) := by
  unfold jno
  rw [pmk_bt hq]
  by_cases c15 : q < 15
  · by_cases c : pH q < n
    · have hlh := (pX_lh q c15).2.1
      have e1 : bo n i (pL q) = dgt n (pnum n i) (pL q) := by unfold bo dgt; rw [if_pos (by omega)]
      have e2 : bo n i (pH q) = dgt n (pnum n i) (pH q) := by unfold bo dgt; rw [if_pos c]
      rw [e1, e2]
    · rw [decide_eq_false c, Bool.false_and, Bool.false_and]
  · rw [decide_eq_false c15, Bool.false_and, Bool.false_and]
theorem px_lh {a b : Nat} (ha : a < 6) (hb : b < 6) (h : ¬ a = b) : (pL (pX a b) = a ∧ pH (pX a b) = b) ∨ (pL (pX a b) = b ∧ pH (pX a b) = a) := by
  rcases Nat.lt_or_gt_of_ne h with c | c
  · exact Or.inl (pX_inv a ha b hb c)
  · rw [pX_comm a ha b hb]; exact Or.inr (pX_inv b hb a ha c)
theorem fol_go {n m : Nat} {w : aT} {v : Int32} {c33 c34 : Nat → Int32} (hn : n ≤ 6) (V : Vd n m w) (h : cPa m w v c33 c34) (i k : Nat) : sub (fol c33 (jno n (pnum n i))) (jno n (pnum n k)) = go n m w i k := by
  obtain ⟨h1, _, _⟩ := h
  have key : sub (fol c33 (jno n (pnum n i))) (jno n (pnum n k)) = true ↔ go n m w i k = true := by
    rw [sub_iff]
    unfold go
    rw [al_iff]
    constructor
    · intro hs x hx
      rw [al_iff]
      intro a ha
      rw [al_iff]
      intro b hb
      unfold gob
      cases ea : w.1 a x with
      | none => rfl
      | some t =>
        have ht := (V.1 a x t ea).2.2
        cases eb : w.1 b x with
        | none => rfl
        | some u =>
          have hu := (V.1 b x u eb).2.2
          dsimp only
          by_cases c1 : bo n i a = bo n i b
          · by_cases c2 : u = t
            · rw [c2, decide_eq_true (show bo n k t = bo n k t from rfl), Bool.or_true]
            · have el := pX_inv b (by omega) a (by omega) hb
              have hp := pX_lt b (by omega) a (by omega)
              have hq := pX_lt u (by omega) t (by omega)
              have hb1 : bt (fol c33 (jno n (pnum n i))) (pX u t) = true := by
                unfold fol
                rw [orf_bt]
                refine ex_iff.mpr ⟨pX b a, hp, ?_⟩
                rw [jn_bt (by omega), decide_eq_true hp, el.1, el.2, decide_eq_true ha, decide_eq_true c1.symm]
                show bt (c33 (pX b a)) (pX u t) = true
                rw [h1 _ hp _ (by omega)]
                refine ex_iff.mpr ⟨x, hx, ?_⟩
                rw [el.1, el.2]
                exact (sp_bt hn V (by omega)).mpr ⟨u, t, eb, ea, c2, rfl⟩
              have hb2 := hs _ (by omega) hb1
              rw [jn_bt (by omega), Bool.and_eq_true, Bool.and_eq_true] at hb2
              have hb3 := of_decide_eq_true hb2.2.2
              rcases px_lh (a := u) (b := t) (by omega) (by omega) c2 with ⟨q1, q2⟩ | ⟨q1, q2⟩
              · rw [q1, q2] at hb3
                rw [decide_eq_true hb3.symm, Bool.or_true]
              · rw [q1, q2] at hb3
                rw [decide_eq_true hb3, Bool.or_true]
          · rw [decide_eq_false c1]; rfl
    · intro hg q hq hb
      unfold fol at hb
      rw [orf_bt] at hb
      obtain ⟨p0, hp0, hb⟩ := ex_iff.mp hb
      cases ej : bt (jno n (pnum n i)) p0 with
      | false => rw [ej, if_neg (by decide), bt_zero] at hb; cases hb
      | true =>
        rw [ej, if_pos rfl, h1 p0 hp0 q hq] at hb
        obtain ⟨x, hx, hsp⟩ := ex_iff.mp hb
        obtain ⟨t, u, et, eu, hne, rfl⟩ := (sp_bt hn V hq).mp hsp
        have ht := (V.1 _ x t et).2.2
        have hu := (V.1 _ x u eu).2.2
        rw [jn_bt (by omega), Bool.and_eq_true, Bool.and_eq_true] at ej
        have hph := of_decide_eq_true ej.2.1
        have hbo := of_decide_eq_true ej.2.2
        have hlh := (pX_lh p0 hp0).2.1
        have hgo := al_iff.mp (al_iff.mp (hg x hx) (pH p0) hph) (pL p0) hlh
        unfold gob at hgo
        rw [et, eu] at hgo
        dsimp only at hgo
        rw [decide_eq_true hbo.symm] at hgo
        have hkk : bo n k u = bo n k t := by
          simpa using hgo
        have hqx := pX_lt t (by omega) u (by omega)
        rw [jn_bt (by omega), decide_eq_true hqx]
        rcases px_lh (a := t) (b := u) (by omega) (by omega) hne with ⟨q1, q2⟩ | ⟨q1, q2⟩
        · rw [q1, q2, decide_eq_true hu, decide_eq_true hkk.symm]; rfl
        · rw [q1, q2, decide_eq_true ht, decide_eq_true hkk]; rfl
  cases e1 : sub (fol c33 (jno n (pnum n i))) (jno n (pnum n k)) with
  | true => exact (key.mp e1).symm
  | false =>
    cases e2 : go n m w i k with
    | false => rfl
    | true => rw [key.mpr e2] at e1; cases e1
/-- which go on -/
def gii (n m : Nat) (w : aT) (i : Nat) : Bool := go n m w i i
def gol (n m : Nat) (w : aT) : List Nat := fl (gii n m w) (pts n).length
def cGo (n m : Nat) (w : aT) (v : Int32) (c : Nat → Int32) : Prop := v = nt (gol n m w).length ∧ Ls (gol n m w) c
theorem pts_at {n i : Nat} (hi : i < (pts n).length) : (pts n)[i]? = some (pnum n i, pblk n i) := by
  rw [List.getElem?_eq_getElem hi]
  unfold pnum pblk
  rw [List.getD_eq_getElem?_getD, List.getElem?_eq_getElem hi]
  rfl
theorem stays_ok {n m i : Nat} {w : aT} {I : xI} {J : xJ} (hn : n ≤ 6) (V : Vd n m w) (hp : cPa m w (I 32 3) (I 33) (I 34)) (hP : cPl n (pts n) I) (hi : i < (pts n).length) : f_X7_stays (nt i) I J = some (bi (go n m w i i), I, J) := by
  have hN := pts_len n (by omega)
  obtain ⟨h6, h5, hl⟩ := hP
  have e45 := (hl i _ (pts_at hi)).2.2
  dsimp only at e45
  simp (disch := omega) only [f_X7_stays, f_X7_stays_0, f_X7_stays_1, f_X7_stays_2, f_X7_stays_3, f_X7_stays_4, nt_clamp, nt_le, nt_lt, nt_eq, lit_le, lit_lt, le_lit, lt_lit, eq_lit, lit_eq, nt_neg, nt_ge, nt_add, nt_mul, nt_addl, lit_add, nt_mull, lit_mul, nt_sub, nt_subl, lit_sub, nt_divl, nt_m1, nt_m2, nt_m1', nt_m2', false_or, if_neg, e45, followed_ok, Option.bind_some, sub_def, fol_go hn V hp]
  cases go n m w i i <;> rfl
theorem fl_le {p : Nat → Bool} {k : Nat} : (fl p k).length ≤ k := by
  unfold fl
  refine Nat.le_trans (List.length_filter_le _ _) ?_
  rw [List.length_range]; exact Nat.le_refl k
theorem prefr_ok {n m k : Nat} {w : aT} {I : xI} {J : xJ} (hn : n ≤ 6) (V : Vd n m w) (h0 : I 1 0 = nt n) (hp : cPa m w (I 32 3) (I 33) (I 34)) (hk : k ≤ 6) (hP : cPl k (pts k) I) (hc : I 43 9 = I 1 2 → k = n ∧ cGo n m w (I 43 8) (I 47)) : Ok (f_X7_refresh I J) (fun o => o.2.2 = J ∧ cPl n (pts n) o.2.1 ∧ cGo n m w (o.2.1 43 8) (o.2.1 47) ∧ o.2.1 43 9 = I 1 2 ∧ ∀ c j, ¬ c = 44 → ¬ c = 45 → ¬ c = 46 → ¬ c = 47 → ¬ (c = 43 ∧ (j = 5 ∨ j = 6 ∨ j = 8 ∨ j = 9)) → o.2.1 c j = I c j) := by
  have hN := pts_len n (by omega)
  unfold f_X7_refresh f_X7_refresh_0
  by_cases hs : I 43 9 = I 1 2
  · rw [if_pos hs]
    obtain ⟨rfl, hg⟩ := hc hs
    exact ok_some ⟨rfl, hP, hg, hs, fun _ _ _ _ _ _ _ => rfl⟩
  · rw [if_neg hs]
    have five : ∀ I1 : xI, cPl n (pts n) I1 → I1 43 9 = I 1 2 → (∀ c j, ¬ c = 44 → ¬ c = 45 → ¬ c = 46 → ¬ (c = 43 ∧ (j = 5 ∨ j = 6 ∨ j = 9)) → I1 c j = I c j) → Ok (f_X7_refresh_5 I1 J) (fun o => o.2.2 = J ∧ cPl n (pts n) o.2.1 ∧ cGo n m w (o.2.1 43 8) (o.2.1 47) ∧ o.2.1 43 9 = I 1 2 ∧ ∀ c j, ¬ c = 44 → ¬ c = 45 → ¬ c = 46 → ¬ c = 47 → ¬ (c = 43 ∧ (j = 5 ∨ j = 6 ∨ j = 8 ∨ j = 9)) → o.2.1 c j = I c j) := by
      intro I1 hP1 h9 hf
      unfold f_X7_refresh_5 f_X7_refresh_6
      refine ok_loop (fun i s => ∃ I', s = (nt i, I', J) ∧ I' 43 8 = nt (fl (gii n m w) i).length ∧ Ls (fl (gii n m w) i) (I' 47) ∧ ∀ c j, ¬ c = 47 → ¬ (c = 43 ∧ j = 8) → I' c j = I1 c j) (pts n).length ?_ ?_ 5000 0 _ (by omega) (by omega) ⟨_, rfl, by rw [xup_at]; rfl, fun i x hx => (by cases hx), fun c j _ hc => xup_no _ _ _ _ hc⟩
      · rintro i hi s ⟨I', rfl, g1, g2, g3⟩
        have hP' : cPl n (pts n) I' := by
          obtain ⟨h6, h5, hl⟩ := hP1
          refine ⟨(g3 43 6 (by omega) (by omega)).trans h6, (g3 43 5 (by omega) (by omega)).trans h5, ?_⟩
          intro i q hq
          rw [g3 44 i (by omega) (by omega), g3 45 i (by omega) (by omega), g3 46 i (by omega) (by omega)]
          exact hl i q hq
        have hp' : cPa m w (I' 32 3) (I' 33) (I' 34) := by
          have e33 : I' 33 = I 33 := funext fun j => (g3 33 j (by omega) (by omega)).trans (hf 33 j (by omega) (by omega) (by omega) (by omega))
          have e34 : I' 34 = I 34 := funext fun j => (g3 34 j (by omega) (by omega)).trans (hf 34 j (by omega) (by omega) (by omega) (by omega))
          rw [e33, e34, (g3 32 3 (by omega) (by omega)).trans (hf 32 3 (by omega) (by omega) (by omega) (by omega))]
          exact hp
        have h5 := hP'.2.1
        have hle : (fl (gii n m w) i).length ≤ i := fl_le
        simp (disch := omega) only [b_X7_refresh_6, f_X7_refresh_7, f_X7_refresh_8, h5, nt_clamp, nt_le, nt_lt, nt_eq, lit_le, lit_lt, le_lit, lt_lit, eq_lit, lit_eq, nt_neg, nt_ge, nt_add, nt_mul, nt_addl, lit_add, nt_mull, lit_mul, nt_sub, nt_subl, lit_sub, nt_divl, nt_m1, nt_m2, nt_m1', nt_m2', if_neg, stays_ok hn V hp' hP' hi, Option.bind_some, bi_0]
        rw [show go n m w i i = gii n m w i from rfl]
        cases eg : gii n m w i with
        | false =>
          rw [if_pos rfl]
          simp only [f_X7_refresh_10, nt_addl]
          refine ok_some ⟨I', rfl, ?_, ?_, g3⟩
          · rw [fl_f eg]; exact g1
          · rw [fl_f eg]; exact g2
        | true =>
          rw [if_neg (by decide)]
          simp (disch := omega) only [f_X7_refresh_9, f_X7_refresh_10, g1, nt_clamp, nt_le, nt_lt, nt_eq, lit_le, lit_lt, le_lit, lt_lit, eq_lit, lit_eq, nt_neg, nt_ge, nt_add, nt_mul, nt_addl, lit_add, nt_mull, lit_mul, nt_sub, nt_subl, lit_sub, nt_divl, nt_m1, nt_m2, nt_m1', nt_m2', false_or, if_neg, xup_bj]
          refine ok_some ⟨_, rfl, ?_, ?_, ?_⟩
          · rw [fl_t eg, xup_at, List.length_append]; rfl
          · rw [fl_t eg, xup_b _ _ _ _ (by omega)]
            exact Ls_add g2 (fun j => xup_if _ _ _ _ _)
          · intro c j c1 c2
            rw [xup_no _ _ _ _ c2, xup_bj _ _ _ _ _ c1]; exact g3 c j c1 c2
      · rintro s ⟨I', rfl, g1, g2, g3⟩
        have h5 : I' 43 5 = nt (pts n).length := (g3 43 5 (by omega) (by omega)).trans hP1.2.1
        simp (disch := omega) only [b_X7_refresh_6, f_X7_refresh_11, h5, nt_clamp, nt_le, nt_lt, nt_eq, lit_le, lit_lt, le_lit, lt_lit, eq_lit, lit_eq, nt_neg, nt_ge, nt_add, nt_mul, nt_addl, lit_add, nt_mull, lit_mul, nt_sub, nt_subl, lit_sub, nt_divl, nt_m1, nt_m2, nt_m1', nt_m2', if_true, if_false, if_pos, if_neg, e01, e10, em12, em21, e0m1, e0m2, e1m1, e1m2, em10, em20, Int32.reduceLT, Int32.reduceLE, eq_self, Option.bind_some, Option.map_some, false_or, or_false, or_self, true_or, or_true, not_true_eq_false, not_false_eq_true, false_and, and_false, true_and, and_true]
        refine ok_some ⟨rfl, ?_, ⟨g1, g2⟩, (g3 43 9 (by omega) (by omega)).trans h9, ?_⟩
        · obtain ⟨h6, h5, hl⟩ := hP1
          refine ⟨(g3 43 6 (by omega) (by omega)).trans h6, (g3 43 5 (by omega) (by omega)).trans h5, ?_⟩
          intro i q hq
          show I' 44 i = _ ∧ I' 46 i = _ ∧ I' 45 i = _
          rw [g3 44 i (by omega) (by omega), g3 45 i (by omega) (by omega), g3 46 i (by omega) (by omega)]
          exact hl i q hq
        · intro c j c1 c2 c3 c4 c5
          exact (g3 c j c4 (by omega)).trans (hf c j c1 c2 c3 (by omega))
    unfold f_X7_refresh_2
    have h6 := hP.1
    simp (disch := omega) only [xup_bj, xup_j, h6, h0, nt_clamp, nt_le, nt_lt, nt_eq, lit_le, lit_lt, le_lit, lt_lit, eq_lit, lit_eq, nt_neg, nt_ge, nt_add, nt_mul, nt_addl, lit_add, nt_mull, lit_mul, nt_sub, nt_subl, lit_sub, nt_divl, nt_m1, nt_m2, nt_m1', nt_m2']
    by_cases hkn : k = n
    · rw [if_pos hkn]
      subst hkn
      refine five _ ?_ (xup_at _ _ _ _) (fun c j _ _ _ hc => xup_no _ _ _ _ (by omega))
      obtain ⟨h6, h5, hl⟩ := hP
      refine ⟨by rw [xup_j _ _ _ _ (by omega)]; exact h6, by rw [xup_j _ _ _ _ (by omega)]; exact h5, ?_⟩
      intro i q hq
      simp (disch := omega) only [xup_bj]
      exact hl i q hq
    · rw [if_neg hkn]
      unfold f_X7_refresh_3
      simp (disch := omega) only [xup_bj, xup_j, xup_at, h0, nt_clamp, nt_le, nt_lt, nt_eq, lit_le, lit_lt, le_lit, lt_lit, eq_lit, lit_eq, nt_neg, nt_ge, nt_add, nt_mul, nt_addl, lit_add, nt_mull, lit_mul, nt_sub, nt_subl, lit_sub, nt_divl, nt_m1, nt_m2, nt_m1', nt_m2']
      by_cases hn0 : n ≤ 0
      · rw [if_pos hn0]
        have hn0 : n = 0 := by omega
        subst hn0
        refine five _ ⟨?_, ?_, ?_⟩ ?_ ?_
        · rw [xup_j _ _ _ _ (by omega), xup_at]
        · rw [xup_at]; rfl
        · intro i q hq; cases hq
        · rw [xup_j _ _ _ _ (by omega), xup_j _ _ _ _ (by omega), xup_at]
        · intro c j c1 c2 c3 c4
          simp (disch := omega) only [xup_no]
      · rw [if_neg hn0]
        unfold f_X7_refresh_4
        apply ok_bind
        have hpe : pts n = ext n (0, 0) := by unfold pts; rw [if_neg (by omega)]
        refine (grow_ok hn 12 n 0 0 0 [] _ J (by omega) (by omega) (by decide) (by omega) (by rw [← hpe]; simpa using hN) ⟨?_, ?_, ?_⟩).imp ?_
        · rw [xup_j _ _ _ _ (by omega), xup_at]
        · rw [xup_at]; rfl
        · intro i q hq; cases hq
        · rintro ⟨_, I1, J1⟩ ⟨rfl, a1, a2⟩
          dsimp only at a1 a2 ⊢
          rw [List.nil_append, ← hpe] at a1
          refine five I1 a1 ?_ ?_
          · rw [a2 43 9 (by unfold gReg; omega), xup_j _ _ _ _ (by omega), xup_j _ _ _ _ (by omega), xup_at]
          · intro c j c1 c2 c3 c4
            rw [a2 c j (by unfold gReg; omega)]
            simp (disch := omega) only [xup_no]
