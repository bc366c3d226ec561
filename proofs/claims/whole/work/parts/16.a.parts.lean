/-! partitions: their list -/
def ext : Nat → Nat × Nat → List (Nat × Nat)
  | 0, q => [q]
  | j + 1, q => (List.range (q.2 + 1)).flatMap (fun c => ext j (q.1 * 10 + c, max q.2 (c + 1)))
def pts (n : Nat) : List (Nat × Nat) := if n = 0 then [] else ext n (0, 0)
def pnum (n i : Nat) : Nat := ((pts n).getD i (0, 0)).1
def pblk (n i : Nat) : Nat := ((pts n).getD i (0, 0)).2
/-- the block of a state -/
def bo (n i s : Nat) : Nat := if s < n then pnum n i / 10 ^ (n - 1 - s) % 10 else 0
def mx (d : Nat → Nat) : Nat → Nat
  | 0 => 0
  | k + 1 => if d k ≤ mx d k then mx d k else d k
def nrw (d : Nat → Nat) (s : Nat) : List Nat := (List.range 6).map (fun k => if k < s then d k else if k = s then d s + 1 else 0)
/-- the next row -/
def nr (d : Nat → Nat) : Nat → Option (List Nat)
  | 0 => none
  | j + 1 => if d (j + 1) ≤ mx d (j + 1) then some (nrw d (j + 1)) else nr d j
/-- a row's number and its blocks -/
def rw2 (d : Nat → Nat) : Nat → Nat × Nat
  | 0 => (0, 0)
  | k + 1 => ((rw2 d k).1 * 10 + d k, if d k < (rw2 d k).2 then (rw2 d k).2 else d k + 1)
def ptk (n : Nat) : Bool := (List.range (pts n).length).all (fun i => decide (nr (bo n i) (n - 1) = if i + 1 < (pts n).length then some ((List.range 6).map (bo n (i + 1))) else none) && decide (rw2 (bo n i) n = (pnum n i, pblk n i)) && (List.range 6).all (fun s => decide (bo n i s < 6)) && decide (pblk n i ≤ 6) && decide (0 < pblk n i) && decide (pnum n i < 1000000))
theorem ptk_ok : ∀ n, n < 7 → ptk n = true := by decide +kernel
theorem pts_len : ∀ n, n < 7 → (pts n).length ≤ 203 := by decide +kernel
theorem pts_pos : ∀ n, n < 7 → 0 < n → 0 < (pts n).length := by decide +kernel
theorem bo_zero : ∀ n, n < 7 → ∀ s, s < 6 → bo n 0 s = 0 := by decide +kernel
theorem pt_fact {n i : Nat} (hn : n ≤ 6) (hi : i < (pts n).length) : nr (bo n i) (n - 1) = (if i + 1 < (pts n).length then some ((List.range 6).map (bo n (i + 1))) else none) ∧ rw2 (bo n i) n = (pnum n i, pblk n i) ∧ (∀ s, s < 6 → bo n i s < 6) ∧ pblk n i ≤ 6 ∧ 0 < pblk n i ∧ pnum n i < 1000000 := by
  have h := ptk_ok n (by omega)
  unfold ptk at h
  rw [List.all_eq_true] at h
  have h := h i (List.mem_range.mpr hi)
  simp only [Bool.and_eq_true, decide_eq_true_eq, List.all_eq_true, List.mem_range] at h
  obtain ⟨⟨⟨⟨⟨h1, h2⟩, h3⟩, h4⟩, h5⟩, h6⟩ := h
  exact ⟨h1, h2, h3, h4, h5, h6⟩
/-- by each input each block of one into one block of another -/
def gob (w : aT) (f g : Nat → Nat) (a b x : Nat) : Bool := match w.1 a x, w.1 b x with
  | some t, some u => !decide (f a = f b) || decide (g t = g u)
  | _, _ => true
def go (n m : Nat) (w : aT) (p q : Nat) : Bool := al m (fun x => al n (fun a => al a (fun b => gob w (bo n p) (bo n q) a b x)))
theorem doesGo_ok {n m p q : Nat} {w : aT} {I : xI} {J : xJ} (hn : n ≤ 6) (hm : m ≤ 4) (V : Vd n m w) (h0 : I 61 17 = nt n) (h1 : I 61 18 = nt m) (h : rMa n m w (I 70) 0) (hp : p < 203) (hq : q < 203) (hbp : ∀ s, s < 6 → I 85 (6 * p + s) = nt (bo n p s) ∧ bo n p s < 6) (hbq : ∀ s, s < 6 → I 85 (6 * q + s) = nt (bo n q s) ∧ bo n q s < 6) : f_X12_doesGo (nt p) (nt q) I J = some (bi (go n m w p q), I, J) := by
  apply Ok.eq
  unfold f_X12_doesGo f_X12_doesGo_0 f_X12_doesGo_1
  refine ok_loop (fun x s => (∃ z4 z5, s = (nt p, nt q, nt x, z4, z5, I, J)) ∧ al x (fun x => al n (fun a => al a (fun b => gob w (bo n p) (bo n q) a b x))) = true) m ?_ ?_ 5000 0 _ (by omega) (by omega) ⟨⟨none, none, rfl⟩, rfl⟩
  · rintro x hx s ⟨⟨z4, z5, rfl⟩, hg⟩
    simp (disch := omega) only [b_X12_doesGo_1, f_X12_doesGo_2, h1, nt_clamp, nt_le, nt_lt, nt_eq, lit_le, lit_lt, le_lit, lt_lit, eq_lit, lit_eq, nt_neg, nt_ge, nt_add, nt_mul, nt_addl, lit_add, nt_mull, lit_mul, nt_sub, nt_subl, lit_sub, nt_divl, nt_m1, nt_m2, nt_m1', nt_m2', if_true, if_false, if_pos, if_neg, e01, e10, em12, em21, e0m1, e0m2, e1m1, e1m2, em10, em20, Int32.reduceLT, Int32.reduceLE, eq_self, Option.bind_some, Option.map_some, false_or, or_false, or_self, true_or, or_true, not_true_eq_false, not_false_eq_true, false_and, and_false, true_and, and_true]
    unfold f_X12_doesGo_3
    refine ok_loop (fun a s => (∃ z5, s = (nt p, nt q, nt x, nt a, z5, I, J)) ∧ al a (fun a => al a (fun b => gob w (bo n p) (bo n q) a b x)) = true) n ?_ ?_ 5000 0 _ (by omega) (by omega) ⟨⟨z5, rfl⟩, rfl⟩
    · rintro a ha s ⟨⟨z5, rfl⟩, hg2⟩
      simp (disch := omega) only [b_X12_doesGo_3, f_X12_doesGo_4, h0, nt_clamp, nt_le, nt_lt, nt_eq, lit_le, lit_lt, le_lit, lt_lit, eq_lit, lit_eq, nt_neg, nt_ge, nt_add, nt_mul, nt_addl, lit_add, nt_mull, lit_mul, nt_sub, nt_subl, lit_sub, nt_divl, nt_m1, nt_m2, nt_m1', nt_m2', if_true, if_false, if_pos, if_neg, e01, e10, em12, em21, e0m1, e0m2, e1m1, e1m2, em10, em20, Int32.reduceLT, Int32.reduceLE, eq_self, Option.bind_some, Option.map_some, false_or, or_false, or_self, true_or, or_true, not_true_eq_false, not_false_eq_true, false_and, and_false, true_and, and_true]
      unfold f_X12_doesGo_5
      refine ok_loop (fun b s => s = (nt p, nt q, nt x, nt a, nt b, I, J) ∧ al b (fun b => gob w (bo n p) (bo n q) a b x) = true) a ?_ ?_ 5000 0 _ (by omega) (by omega) ⟨rfl, rfl⟩
      · rintro b hb s ⟨rfl, hg3⟩
        have hb' : b < n := by omega
        simp (disch := omega) only [b_X12_doesGo_5, f_X12_doesGo_6, f_X12_doesGo_7, f_X12_doesGo_8, f_X12_doesGo_9, f_X12_doesGo_16, nt_clamp, nt_le, nt_lt, nt_eq, lit_le, lit_lt, le_lit, lt_lit, eq_lit, lit_eq, nt_neg, nt_ge, nt_add, nt_mul, nt_addl, lit_add, nt_mull, lit_mul, nt_sub, nt_subl, lit_sub, nt_divl, nt_m1, nt_m2, nt_m1', nt_m2', if_neg, to_ok hn hm h ha hx, to_ok hn hm h hb' hx, Option.bind_some]
        have next : gob w (bo n p) (bo n q) a b x = true → al (b + 1) (fun b => gob w (bo n p) (bo n q) a b x) = true := by
          intro e; rw [al, hg3, e]; rfl
        cases ea : w.1 a x with
        | none =>
          simp only [ov_n, Int32.reduceLT, if_true]
          exact ok_some ⟨rfl, next (by unfold gob; rw [ea])⟩
        | some t =>
          have ht := (V.1 a x t ea).2.2
          cases eb : w.1 b x with
          | none =>
            simp (disch := omega) only [ov_s, ov_n, nt_clamp, nt_le, nt_lt, nt_eq, lit_le, lit_lt, le_lit, lt_lit, eq_lit, lit_eq, nt_neg, nt_ge, nt_add, nt_mul, nt_addl, lit_add, nt_mull, lit_mul, nt_sub, nt_subl, lit_sub, nt_divl, nt_m1, nt_m2, nt_m1', nt_m2', if_false, Int32.reduceLT, if_true]
            exact ok_some ⟨rfl, next (by unfold gob; rw [ea, eb])⟩
          | some u =>
            have hu := (V.1 b x u eb).2.2
            have b1 := hbp a (by omega)
            have b2 := hbp b (by omega)
            have b3 := hbq t (by omega)
            have b4 := hbq u (by omega)
            simp (disch := omega) only [ov_s, nt_clamp, nt_le, nt_lt, nt_eq, lit_le, lit_lt, le_lit, lt_lit, eq_lit, lit_eq, nt_neg, nt_ge, nt_add, nt_mul, nt_addl, lit_add, nt_mull, lit_mul, nt_sub, nt_subl, lit_sub, nt_divl, nt_m1, nt_m2, nt_m1', nt_m2', if_false, f_X12_doesGo_10, false_or, if_neg, b1.1, b2.1]
            have eg : gob w (bo n p) (bo n q) a b x = (!decide (bo n p a = bo n p b) || decide (bo n q t = bo n q u)) := by unfold gob; rw [ea, eb]
            by_cases c1 : bo n p a = bo n p b
            · rw [if_pos c1]
              simp (disch := omega) only [f_X12_doesGo_12, f_X12_doesGo_13, f_X12_doesGo_14, f_X12_doesGo_16, to_ok hn hm h ha hx, to_ok hn hm h hb' hx, Option.bind_some, ea, eb, ov_s, nt_clamp, nt_le, nt_lt, nt_eq, lit_le, lit_lt, le_lit, lt_lit, eq_lit, lit_eq, nt_neg, nt_ge, nt_add, nt_mul, nt_addl, lit_add, nt_mull, lit_mul, nt_sub, nt_subl, lit_sub, nt_divl, nt_m1, nt_m2, nt_m1', nt_m2', false_or, if_neg, b3.1, b4.1]
              by_cases c2 : bo n q t = bo n q u
              · rw [if_pos c2]
                exact ok_some ⟨rfl, next (by rw [eg, decide_eq_true c2, Bool.or_true])⟩
              · rw [if_neg c2]
                simp only [f_X12_doesGo_15, Option.map_some]
                refine ok_some ?_
                have : go n m w p q = false := al_false hx (al_false ha (al_false hb (by rw [eg, decide_eq_true c1, decide_eq_false c2]; rfl)))
                rw [this]; rfl
            · rw [if_neg c1]
              simp (disch := omega) only [f_X12_doesGo_11, f_X12_doesGo_16, nt_clamp, nt_le, nt_lt, nt_eq, lit_le, lit_lt, le_lit, lt_lit, eq_lit, lit_eq, nt_neg, nt_ge, nt_add, nt_mul, nt_addl, lit_add, nt_mull, lit_mul, nt_sub, nt_subl, lit_sub, nt_divl, nt_m1, nt_m2, nt_m1', nt_m2']
              exact ok_some ⟨rfl, next (by rw [eg, decide_eq_false c1]; rfl)⟩
      · rintro s ⟨rfl, hg3⟩
        simp (disch := omega) only [b_X12_doesGo_5, f_X12_doesGo_17, nt_clamp, nt_le, nt_lt, nt_eq, lit_le, lit_lt, le_lit, lt_lit, eq_lit, lit_eq, nt_neg, nt_ge, nt_add, nt_mul, nt_addl, lit_add, nt_mull, lit_mul, nt_sub, nt_subl, lit_sub, nt_divl, nt_m1, nt_m2, nt_m1', nt_m2', if_true, if_false, if_pos, if_neg, e01, e10, em12, em21, e0m1, e0m2, e1m1, e1m2, em10, em20, Int32.reduceLT, Int32.reduceLE, eq_self, Option.bind_some, Option.map_some, false_or, or_false, or_self, true_or, or_true, not_true_eq_false, not_false_eq_true, false_and, and_false, true_and, and_true]
        refine ok_some ⟨⟨_, rfl⟩, ?_⟩
        rw [al, hg2, hg3]; rfl
    · rintro s ⟨⟨z5, rfl⟩, hg2⟩
      simp (disch := omega) only [b_X12_doesGo_3, f_X12_doesGo_18, h0, nt_clamp, nt_le, nt_lt, nt_eq, lit_le, lit_lt, le_lit, lt_lit, eq_lit, lit_eq, nt_neg, nt_ge, nt_add, nt_mul, nt_addl, lit_add, nt_mull, lit_mul, nt_sub, nt_subl, lit_sub, nt_divl, nt_m1, nt_m2, nt_m1', nt_m2', if_true, if_false, if_pos, if_neg, e01, e10, em12, em21, e0m1, e0m2, e1m1, e1m2, em10, em20, Int32.reduceLT, Int32.reduceLE, eq_self, Option.bind_some, Option.map_some, false_or, or_false, or_self, true_or, or_true, not_true_eq_false, not_false_eq_true, false_and, and_false, true_and, and_true]
      refine ok_some ⟨⟨_, _, rfl⟩, ?_⟩
      rw [al, hg, hg2]; rfl
  · rintro s ⟨⟨z4, z5, rfl⟩, hg⟩
    simp (disch := omega) only [b_X12_doesGo_1, f_X12_doesGo_19, h1, nt_clamp, nt_le, nt_lt, nt_eq, lit_le, lit_lt, le_lit, lt_lit, eq_lit, lit_eq, nt_neg, nt_ge, nt_add, nt_mul, nt_addl, lit_add, nt_mull, lit_mul, nt_sub, nt_subl, lit_sub, nt_divl, nt_m1, nt_m2, nt_m1', nt_m2', if_true, if_false, if_pos, if_neg, e01, e10, em12, em21, e0m1, e0m2, e1m1, e1m2, em10, em20, Int32.reduceLT, Int32.reduceLE, eq_self, Option.bind_some, Option.map_some, false_or, or_false, or_self, true_or, or_true, not_true_eq_false, not_false_eq_true, false_and, and_false, true_and, and_true]
    refine ok_some ?_
    rw [show go n m w p q = true from hg]; rfl
theorem mx_le {d : Nat → Nat} (hd : ∀ s, s < 6 → d s < 6) : ∀ k, k ≤ 6 → mx d k < 6 := by
  intro k
  induction k with
  | zero => intro _; exact Nat.zero_lt_succ 5
  | succ k ih =>
    intro hk
    have h1 := ih (by omega)
    have h2 := hd k (by omega)
    unfold mx
    split <;> omega
theorem hasNext_ok {n at0 : Nat} {I : xI} {J : xJ} {d : Nat → Nat} (hn : n ≤ 6) (hn0 : 0 < n) (h0 : I 61 17 = nt n) (hd : ∀ s, s < 6 → I 85 (at0 + s) = nt (d s) ∧ d s < 6) (hat : at0 + 6 ≤ 1218) (hat2 : nr d (n - 1) ≠ none → at0 + 12 ≤ 1218) : Ok (f_X12_hasNext (nt at0) I J) (fun o => o.2.2 = J ∧ o.1 = bi (nr d (n - 1)).isSome ∧ (∀ l, nr d (n - 1) = some l → ∀ k, k < 6 → o.2.1 85 (at0 + 6 + k) = nt (l.getD k 0)) ∧ (∀ j, j < at0 + 6 → o.2.1 85 j = I 85 j) ∧ ∀ c j, ¬ c = 85 → o.2.1 c j = I c j) := by
  simp (disch := omega) only [f_X12_hasNext, f_X12_hasNext_0, h0, nt_clamp, nt_le, nt_lt, nt_eq, lit_le, lit_lt, le_lit, lt_lit, eq_lit, lit_eq, nt_neg, nt_ge, nt_add, nt_mul, nt_addl, lit_add, nt_mull, lit_mul, nt_sub, nt_subl, lit_sub, nt_divl, nt_m1, nt_m2, nt_m1', nt_m2']
  unfold f_X12_hasNext_1
  have hds : ∀ s, s < 6 → d s < 6 := fun s hs => (hd s hs).2
  refine ok_loop (fun i s => ∃ z3 z4, s = (nt at0, nt (n - 1 - i), z3, z4, I, J) ∧ nr d (n - 1 - i) = nr d (n - 1)) (n - 1) ?_ ?_ 5000 0 _ (by omega) (by omega) ⟨none, none, rfl, rfl⟩
  · rintro i hi s ⟨z3, z4, rfl, hg⟩
    have hj : ∃ j, n - 1 - i = j + 1 := ⟨n - 1 - i - 1, by omega⟩
    obtain ⟨j, hj⟩ := hj
    rw [hj] at hg ⊢
    simp (disch := omega) only [b_X12_hasNext_1, f_X12_hasNext_2, nt_clamp, nt_le, nt_lt, nt_eq, lit_le, lit_lt, le_lit, lt_lit, eq_lit, lit_eq, nt_neg, nt_ge, nt_add, nt_mul, nt_addl, lit_add, nt_mull, lit_mul, nt_sub, nt_subl, lit_sub, nt_divl, nt_m1, nt_m2, nt_m1', nt_m2', if_neg]
    unfold f_X12_hasNext_3
    refine ok_loop (fun k s => s = (nt at0, nt (j + 1), nt (mx d k), nt k, I, J)) (j + 1) ?_ ?_ 5000 0 _ (by omega) (by omega) rfl
    · rintro k hk s rfl
      have hm6 := mx_le hds k (by omega)
      have hdk := hd k (by omega)
      simp (disch := omega) only [b_X12_hasNext_3, f_X12_hasNext_4, f_X12_hasNext_5, f_X12_hasNext_6, nt_clamp, nt_le, nt_lt, nt_eq, lit_le, lit_lt, le_lit, lt_lit, eq_lit, lit_eq, nt_neg, nt_ge, nt_add, nt_mul, nt_addl, lit_add, nt_mull, lit_mul, nt_sub, nt_subl, lit_sub, nt_divl, nt_m1, nt_m2, nt_m1', nt_m2', false_or, if_neg, hdk.1]
      by_cases c : d k ≤ mx d k
      · rw [if_pos c]
        refine ok_some ?_
        show _ = _
        rw [mx, if_pos c]
      · rw [if_neg c]
        refine ok_some ?_
        show _ = _
        rw [mx, if_neg c]
    · rintro s rfl
      have hm6 := mx_le hds (j + 1) (by omega)
      have hdj := hd (j + 1) (by omega)
      simp (disch := omega) only [b_X12_hasNext_3, f_X12_hasNext_7, nt_clamp, nt_le, nt_lt, nt_eq, lit_le, lit_lt, le_lit, lt_lit, eq_lit, lit_eq, nt_neg, nt_ge, nt_add, nt_mul, nt_addl, lit_add, nt_mull, lit_mul, nt_sub, nt_subl, lit_sub, nt_divl, nt_m1, nt_m2, nt_m1', nt_m2', false_or, if_neg, if_pos, hdj.1]
      apply ok_map
      by_cases c : d (j + 1) ≤ mx d (j + 1)
      · rw [if_pos c]
        have en : nr d (n - 1) = some (nrw d (j + 1)) := by rw [← hg, nr, if_pos c]
        have hat3 := hat2 (by rw [en]; exact fun h => by cases h)
        simp only [f_X12_hasNext_9]
        apply ok_map
        unfold f_X12_hasNext_10
        have gl : ∀ k, k < 6 → (nrw d (j + 1)).getD k 0 = if k < j + 1 then d k else if k = j + 1 then d (j + 1) + 1 else 0 := by
          intro k hk
          unfold nrw
          rw [List.getD_eq_getElem?_getD, List.getElem?_map, List.getElem?_range hk]
          rfl
        refine ok_loop (fun k s => ∃ I', s = (nt at0, nt (j + 1), nt (mx d (j + 1)), nt k, I', J) ∧ (∀ l, l < k → I' 85 (at0 + 6 + l) = nt ((nrw d (j + 1)).getD l 0)) ∧ (∀ l, l < at0 + 6 → I' 85 l = I 85 l) ∧ ∀ c j, ¬ c = 85 → I' c j = I c j) 6 ?_ ?_ 5000 0 _ (by omega) (by omega) ⟨I, rfl, fun l hl => absurd hl (by omega), fun _ _ => rfl, fun _ _ _ => rfl⟩
        · rintro k hk s ⟨I', rfl, g1, g2, g3⟩
          have hk1 := g2 (at0 + k) (by omega)
          have hk2 := g2 (at0 + (j + 1)) (by omega)
          have hdk := hd k hk
          have fin : ∀ (v : Nat) (Q : (Int32 × xI × xJ) → Prop), v = (nrw d (j + 1)).getD k 0 → Ok (some (Sum.inl (nt at0, nt (j + 1), nt (mx d (j + 1)), nt (k + 1), xup I' 85 (at0 + 6 + k) (nt v), J)) : Option ((Int32 × Int32 × Int32 × Int32 × xI × xJ) ⊕ (Int32 × xI × xJ))) (Sum.elim (fun s => ∃ I', s = (nt at0, nt (j + 1), nt (mx d (j + 1)), nt (k + 1), I', J) ∧ (∀ l, l < k + 1 → I' 85 (at0 + 6 + l) = nt ((nrw d (j + 1)).getD l 0)) ∧ (∀ l, l < at0 + 6 → I' 85 l = I 85 l) ∧ ∀ c j, ¬ c = 85 → I' c j = I c j) Q) := by
            intro v Q hv
            refine ok_some ⟨_, rfl, ?_, ?_, ?_⟩
            · intro l hl
              rw [xup_if]
              by_cases cl : l = k
              · rw [if_pos (by omega), hv, cl]
              · rw [if_neg (by omega)]; exact g1 l (by omega)
            · intro l hl
              rw [xup_j _ _ _ _ (by omega)]; exact g2 l hl
            · intro c j hc
              rw [xup_bj _ _ _ _ _ hc]; exact g3 c j hc
          simp (disch := omega) only [b_X12_hasNext_10, f_X12_hasNext_11, f_X12_hasNext_12, f_X12_hasNext_13, f_X12_hasNext_14, f_X12_hasNext_15, f_X12_hasNext_16, nt_clamp, nt_le, nt_lt, nt_eq, lit_le, lit_lt, le_lit, lt_lit, eq_lit, lit_eq, nt_neg, nt_ge, nt_add, nt_mul, nt_addl, lit_add, nt_mull, lit_mul, nt_sub, nt_subl, lit_sub, nt_divl, nt_m1, nt_m2, nt_m1', nt_m2', false_or, if_neg, hk1, hk2, hdk.1, hdj.1]
          by_cases c1 : j + 1 ≤ k
          · rw [if_pos c1]
            by_cases c2 : k = j + 1
            · rw [if_pos c2]
              exact fin _ _ (by rw [gl k hk, if_neg (by omega), if_pos c2])
            · rw [if_neg c2]
              exact fin 0 _ (by rw [gl k hk, if_neg (by omega), if_neg c2])
          · rw [if_neg c1]
            exact fin _ _ (by rw [gl k hk, if_pos (by omega)])
        · rintro s ⟨I', rfl, g1, g2, g3⟩
          simp (disch := omega) only [b_X12_hasNext_10, f_X12_hasNext_17, nt_clamp, nt_le, nt_lt, nt_eq, lit_le, lit_lt, le_lit, lt_lit, eq_lit, lit_eq, nt_neg, nt_ge, nt_add, nt_mul, nt_addl, lit_add, nt_mull, lit_mul, nt_sub, nt_subl, lit_sub, nt_divl, nt_m1, nt_m2, nt_m1', nt_m2', if_true, if_false, if_pos, if_neg, e01, e10, em12, em21, e0m1, e0m2, e1m1, e1m2, em10, em20, Int32.reduceLT, Int32.reduceLE, eq_self, Option.bind_some, Option.map_some, false_or, or_false, or_self, true_or, or_true, not_true_eq_false, not_false_eq_true, false_and, and_false, true_and, and_true]
          refine ok_some ?_
          show _ ∧ _
          refine ⟨rfl, by rw [en]; rfl, ?_, g2, g3⟩
          intro l hl
          rw [en] at hl
          cases hl
          exact g1
      · rw [if_neg c]
        simp only [f_X12_hasNext_8, f_X12_hasNext_18, add_m1]
        refine ok_some ?_
        show ∃ z3 z4, _ ∧ _
        refine ⟨some (.int (nt (mx d (j + 1)))), some (.int (nt (j + 1))), ?_, ?_⟩
        · rw [nt_m1s (by omega), show n - 1 - (i + 1) = j + 1 - 1 from by omega]
        · rw [show n - 1 - (i + 1) = j from by omega, ← hg, nr, if_neg c]
  · rintro s ⟨z3, z4, rfl, hg⟩
    rw [show n - 1 - (n - 1) = 0 from by omega] at hg ⊢
    simp (disch := omega) only [b_X12_hasNext_1, f_X12_hasNext_19, nt_clamp, nt_le, nt_lt, nt_eq, lit_le, lit_lt, le_lit, lt_lit, eq_lit, lit_eq, nt_neg, nt_ge, nt_add, nt_mul, nt_addl, lit_add, nt_mull, lit_mul, nt_sub, nt_subl, lit_sub, nt_divl, nt_m1, nt_m2, nt_m1', nt_m2', if_true, if_false, if_pos, if_neg, e01, e10, em12, em21, e0m1, e0m2, e1m1, e1m2, em10, em20, Int32.reduceLT, Int32.reduceLE, eq_self, Option.bind_some, Option.map_some, false_or, or_false, or_self, true_or, or_true, not_true_eq_false, not_false_eq_true, false_and, and_false, true_and, and_true]
    refine ok_some ⟨rfl, ?_, ?_, fun _ _ => rfl, fun _ _ _ => rfl⟩
    · rw [← hg]; rfl
    · intro l hl; rw [← hg] at hl; cases hl
