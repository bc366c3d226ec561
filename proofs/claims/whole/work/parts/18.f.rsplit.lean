/-! split -/
def vs (n m : Nat) (w : aT) (p q : Nat) : Bool := go n m w p p && (go n m w q q && (decide (pblk n p < n) && (decide (pblk n q < n) && aal n p q)))
def ssm (n p q : Nat) : Nat := pblk n p + pblk n q
/-- the first pair of fewest blocks among those of S -/
def Bst (n m : Nat) (w : aT) (S : Nat → Nat → Prop) (o : Option (Nat × Nat)) : Prop := match o with
  | none => ∀ p q, S p q → vs n m w p q = false
  | some r => S r.1 r.2 ∧ vs n m w r.1 r.2 = true ∧ ∀ p q, S p q → vs n m w p q = true → ssm n r.1 r.2 < ssm n p q ∨ (ssm n r.1 r.2 = ssm n p q ∧ (r.1 < p ∨ (r.1 = p ∧ r.2 ≤ q)))
def sps (n m : Nat) (w : aT) (o : Option (Nat × Nat)) (a b : Nat) : Option (Nat × Nat) := if vs n m w a b = true then (match o with
  | none => some (a, b)
  | some r => if ssm n r.1 r.2 ≤ ssm n a b then some r else some (a, b)) else o
theorem Bst_step {n m a b : Nat} {w : aT} {S S' : Nat → Nat → Prop} {o : Option (Nat × Nat)} (h : Bst n m w S o) (hl : ∀ p q, S p q → p < a ∨ (p = a ∧ q < b)) (hS : ∀ p q, S' p q ↔ S p q ∨ (p = a ∧ q = b)) : Bst n m w S' (sps n m w o a b) := by
  unfold sps
  cases hv : vs n m w a b with
  | false =>
    rw [if_neg (by decide)]
    cases o with
    | none =>
      intro p q hpq
      rcases (hS p q).mp hpq with h1 | ⟨rfl, rfl⟩
      · exact h p q h1
      · exact hv
    | some r =>
      refine ⟨(hS _ _).mpr (Or.inl h.1), h.2.1, ?_⟩
      intro p q hpq hvv
      rcases (hS p q).mp hpq with h1 | ⟨rfl, rfl⟩
      · exact h.2.2 p q h1 hvv
      · rw [hv] at hvv; cases hvv
  | true =>
    rw [if_pos rfl]
    cases o with
    | none =>
      refine ⟨(hS _ _).mpr (Or.inr ⟨rfl, rfl⟩), hv, ?_⟩
      intro p q hpq hvv
      rcases (hS p q).mp hpq with h1 | ⟨rfl, rfl⟩
      · rw [h p q h1] at hvv; cases hvv
      · right; exact ⟨rfl, Or.inr ⟨rfl, Nat.le_refl _⟩⟩
    | some r =>
      dsimp only
      by_cases c : ssm n r.1 r.2 ≤ ssm n a b
      · rw [if_pos c]
        refine ⟨(hS _ _).mpr (Or.inl h.1), h.2.1, ?_⟩
        intro p q hpq hvv
        rcases (hS p q).mp hpq with h1 | ⟨rfl, rfl⟩
        · exact h.2.2 p q h1 hvv
        · have := hl _ _ h.1
          rcases Nat.lt_or_eq_of_le c with c1 | c1
          · exact Or.inl c1
          · exact Or.inr ⟨c1, by omega⟩
      · rw [if_neg c]
        refine ⟨(hS _ _).mpr (Or.inr ⟨rfl, rfl⟩), hv, ?_⟩
        intro p q hpq hvv
        rcases (hS p q).mp hpq with h1 | ⟨rfl, rfl⟩
        · have := h.2.2 p q h1 hvv
          dsimp only
          left
          rcases this with h3 | h3 <;> omega
        · right; exact ⟨rfl, Or.inr ⟨rfl, Nat.le_refl _⟩⟩
theorem Bst_congr {n m : Nat} {w : aT} {S S' : Nat → Nat → Prop} {o : Option (Nat × Nat)} (h : Bst n m w S o) (hS : ∀ p q, vs n m w p q = true → (S' p q ↔ S p q)) : Bst n m w S' o := by
  cases o with
  | none =>
    intro p q hpq
    cases hv : vs n m w p q with
    | false => rfl
    | true => rw [h p q ((hS p q hv).mp hpq)] at hv; cases hv
  | some r =>
    exact ⟨(hS _ _ h.2.1).mpr h.1, h.2.1, fun p q hpq hv => h.2.2 p q ((hS p q hv).mp hpq) hv⟩
theorem Bst_uniq {n m : Nat} {w : aT} {S : Nat → Nat → Prop} {o o' : Option (Nat × Nat)} (h : Bst n m w S o) (h' : Bst n m w S o') : o = o' := by
  cases o with
  | none =>
    cases o' with
    | none => rfl
    | some r => have := h _ _ h'.1; rw [h'.2.1] at this; cases this
  | some r =>
    cases o' with
    | none => have := h' _ _ h.1; rw [h.2.1] at this; cases this
    | some r' =>
      have a := h.2.2 _ _ h'.1 h'.2.1
      have b := h'.2.2 _ _ h.1 h.2.1
      obtain ⟨p, q⟩ := r
      obtain ⟨p', q'⟩ := r'
      dsimp only at a b
      have e1 : p = p' := by omega
      have e2 : q = q' := by omega
      rw [e1, e2]
theorem aal_comm {n p q : Nat} : aal n p q = aal n q p := by
  have key : ∀ p q, aal n p q = true → aal n q p = true := by
    intro p q h
    unfold aal at h ⊢
    rw [al_iff] at h ⊢
    intro a ha
    have := h a ha
    rw [al_iff] at this ⊢
    intro b hb
    have := this b hb
    rw [Bool.and_comm]; exact this
  cases e1 : aal n p q with
  | true => exact (key p q e1).symm
  | false =>
    cases e2 : aal n q p with
    | false => rfl
    | true => rw [key q p e2] at e1; cases e1
theorem vs_comm {n m p q : Nat} {w : aT} : vs n m w p q = vs n m w q p := by
  unfold vs
  rw [aal_comm (p := p)]
  cases go n m w p p <;> cases go n m w q q <;> cases decide (pblk n p < n) <;> cases decide (pblk n q < n) <;> rfl
/-- two that are one tell all apart only if each state has a block of its own -/
theorem blk_all : ∀ n, n < 7 → ∀ p, p < (pts n).length → aal n p p = true → pblk n p = n := by decide +kernel
theorem Bst_tri {n m : Nat} {w : aT} (hn : n ≤ 6) {o : Option (Nat × Nat)} (h : Bst n m w (fun p q => p < (pts n).length ∧ q < (pts n).length) o) : Bst n m w (fun p q => p < q ∧ q < (pts n).length) o := by
  cases o with
  | none => intro p q hpq; exact h p q ⟨by omega, hpq.2⟩
  | some r =>
    have hv := h.2.1
    have hne : ¬ r.1 = r.2 := by
      intro e
      unfold vs at hv
      rw [← e, Bool.and_eq_true, Bool.and_eq_true, Bool.and_eq_true, Bool.and_eq_true] at hv
      have h1 := blk_all n (by omega) r.1 h.1.1 hv.2.2.2.2
      have h2 := of_decide_eq_true hv.2.2.1
      omega
    have hlt : r.1 < r.2 := by
      rcases Nat.lt_or_gt_of_ne hne with c | c
      · exact c
      · have := h.2.2 r.2 r.1 ⟨h.1.2, h.1.1⟩ (by rw [vs_comm]; exact hv)
        unfold ssm at this
        omega
    exact ⟨⟨hlt, h.1.2⟩, hv, fun p q hpq hvv => h.2.2 p q ⟨by omega, hpq.2⟩ hvv⟩
noncomputable def spl (n m : Nat) (w : aT) : Option (Nat × Nat) := Classical.epsilon (fun o => Bst n m w (fun p q => p < q ∧ q < (pts n).length) o)
theorem spl_eq {n m : Nat} {w : aT} {o : Option (Nat × Nat)} (h : Bst n m w (fun p q => p < q ∧ q < (pts n).length) o) : o = spl n m w := Bst_uniq h (Classical.epsilon_spec (p := fun o => Bst n m w (fun p q => p < q ∧ q < (pts n).length) o) ⟨o, h⟩)
noncomputable def spR (n m : Nat) (w : aT) (z : Int32) : Int32 := if isS 3 z = true then (match spl n m w with
  | none => -2
  | some r => if z = 0 then nt (pnum n r.1) else if z = 1 then nt (pnum n r.2) else nt (ssm n r.1 r.2)) else -1
def en1 (o : Option (Nat × Nat)) : Int32 := match o with
  | none => -1
  | some r => nt r.1
def en2 (o : Option (Nat × Nat)) : Int32 := match o with
  | none => -1
  | some r => nt r.2
def en4 (n : Nat) (o : Option (Nat × Nat)) : Nat := match o with
  | none => 99
  | some r => ssm n r.1 r.2
theorem rspl_ok {n m : Nat} {w : aT} {I : xI} {J : xJ} (hn : n ≤ 6) (hm : m ≤ 4) (V : Vd n m w) (h0 : I 61 17 = nt n) (h1 : I 61 18 = nt m) (h : rMa n m w (I 70) 0) (hc : rCa n m w I) (z : Int32) : Ok (f_X12_split z I J) (fun o => o.2.2 = J ∧ o.1 = spR n m w z ∧ rCa n m w o.2.1 ∧ ∀ c j, ¬ kReg c j → o.2.1 c j = I c j) := by
  have hN := pts_len n (by omega)
  unfold f_X12_split f_X12_split_0 spR
  rw [rin2_ok, Option.bind_some]
  unfold f_X12_split_1
  dsimp only
  cases hz : isS 3 z with
  | false => exact ok_some ⟨rfl, rfl, hc, fun _ _ _ => rfl⟩
  | true =>
    obtain ⟨t, ht3, rfl⟩ := isS_ex (by omega) hz
    show Ok (f_X12_split_3 (nt t) I J) _
    unfold f_X12_split_3
    apply ok_bind
    refine (knows_ok hn hm V h0 h1 h hc).imp ?_
    rintro ⟨_, I1, J1⟩ ⟨rfl, a1, a2, a3⟩
    dsimp only at a1 a2 a3 ⊢
    have e17 : I1 61 17 = nt n := (a3 61 17 (by unfold kReg; omega)).trans h0
    have h40 := a1.2.2.2.2.2.1
    have hP := a1.2.2.2.2.2.2
    have hbo : ∀ k, k < (pts n).length → ∀ s, s < 6 → I1 85 (6 * k + s) = nt (bo n k s) ∧ bo n k s < 6 := fun k hk s hs => ⟨(hP k hk).2.2.2 s hs, (pt_fact hn hk).2.2.1 s hs⟩
    unfold f_X12_split_4 f_X12_split_5
    refine ok_loop (fun p r => ∃ o z6, r = (nt t, en1 o, en2 o, nt (en4 n o), nt p, z6, I1, J1) ∧ Bst n m w (fun p' q' => p' < p ∧ q' < (pts n).length) o ∧ en4 n o ≤ 99) (pts n).length ?_ ?_ 5000 0 _ (by omega) (by omega) ⟨none, none, rfl, fun p q hpq => absurd hpq.1 (by omega), by show 99 ≤ 99; omega⟩
    · rintro p hp r ⟨o, z6, rfl, hB, hle⟩
      simp (disch := omega) only [b_X12_split_5, f_X12_split_6, h40, nt_clamp, nt_le, nt_lt, nt_eq, lit_le, lit_lt, le_lit, lt_lit, eq_lit, lit_eq, nt_neg, nt_ge, nt_add, nt_mul, nt_addl, lit_add, nt_mull, lit_mul, nt_sub, nt_subl, lit_sub, nt_divl, nt_m1, nt_m2, nt_m1', nt_m2', if_true, if_false, if_pos, if_neg, e01, e10, em12, em21, e0m1, e0m2, e1m1, e1m2, em10, em20, Int32.reduceLT, Int32.reduceLE, eq_self, Option.bind_some, Option.map_some, false_or, or_false, or_self, true_or, or_true, not_true_eq_false, not_false_eq_true, false_and, and_false, true_and, and_true]
      unfold f_X12_split_7
      refine ok_loop (fun q r => ∃ o, r = (nt t, en1 o, en2 o, nt (en4 n o), nt p, nt q, I1, J1) ∧ Bst n m w (fun p' q' => q' < (pts n).length ∧ (p' < p ∨ (p' = p ∧ q' < q))) o ∧ en4 n o ≤ 99) (pts n).length ?_ ?_ 5000 0 _ (by omega) (by omega) ⟨o, rfl, Bst_congr hB (fun p' q' _ => by omega), hle⟩
      · rintro q hq r ⟨o, rfl, hB, hle⟩
        obtain ⟨p1, p2, p3, p4⟩ := hP p hp
        obtain ⟨q1, q2, q3, q4⟩ := hP q hq
        have hbp := pblk6 hn hp
        have hbq := pblk6 hn hq
        have hst := Bst_step (S' := fun p' q' => q' < (pts n).length ∧ (p' < p ∨ (p' = p ∧ q' < q + 1))) hB (a := p) (b := q) (fun p' q' hh => by omega) (fun p' q' => by omega)
        have skip : sps n m w o p q = o → Ok (f_X12_split_17 (nt t) (en1 o) (en2 o) (nt (en4 n o)) (nt p) (nt q) I1 J1) (Sum.elim (fun r => ∃ o, r = (nt t, en1 o, en2 o, nt (en4 n o), nt p, nt (q + 1), I1, J1) ∧ Bst n m w (fun p' q' => q' < (pts n).length ∧ (p' < p ∨ (p' = p ∧ q' < q + 1))) o ∧ en4 n o ≤ 99) (fun r => ∃ o z6, r = .inl (nt t, en1 o, en2 o, nt (en4 n o), nt (p + 1), z6, I1, J1) ∧ Bst n m w (fun p' q' => p' < p + 1 ∧ q' < (pts n).length) o ∧ en4 n o ≤ 99)) := by
          intro hs
          rw [hs] at hst
          simp only [f_X12_split_17, nt_addl]
          exact ok_some ⟨o, rfl, hst, hle⟩
        have fin : ∀ (Q3 : (Int32 × xI × xJ) → Prop) (R : Option ((Int32 × Int32 × Int32 × Int32 × Int32 × Int32 × xI × xJ) ⊕ ((Int32 × Int32 × Int32 × Int32 × Int32 × (Option Value) × xI × xJ) ⊕ (Int32 × xI × xJ)))), Ok R (Sum.elim (fun r => ∃ o, r = (nt t, en1 o, en2 o, nt (en4 n o), nt p, nt (q + 1), I1, J1) ∧ Bst n m w (fun p' q' => q' < (pts n).length ∧ (p' < p ∨ (p' = p ∧ q' < q + 1))) o ∧ en4 n o ≤ 99) (fun r => ∃ o z6, r = .inl (nt t, en1 o, en2 o, nt (en4 n o), nt (p + 1), z6, I1, J1) ∧ Bst n m w (fun p' q' => p' < p + 1 ∧ q' < (pts n).length) o ∧ en4 n o ≤ 99)) → Ok R (Sum.elim (fun r => ∃ o, r = (nt t, en1 o, en2 o, nt (en4 n o), nt p, nt (q + 1), I1, J1) ∧ Bst n m w (fun p' q' => q' < (pts n).length ∧ (p' < p ∨ (p' = p ∧ q' < q + 1))) o ∧ en4 n o ≤ 99) (Sum.elim (fun r => ∃ o z6, r = (nt t, en1 o, en2 o, nt (en4 n o), nt (p + 1), z6, I1, J1) ∧ Bst n m w (fun p' q' => p' < p + 1 ∧ q' < (pts n).length) o ∧ en4 n o ≤ 99) Q3)) := by
          intro Q3 R hR
          refine hR.imp ?_
          intro o
          cases o with
          | inl s => exact id
          | inr s => rintro ⟨o, z6, rfl, hh⟩; exact ⟨o, z6, rfl, hh⟩
        refine fin _ _ ?_
        simp (disch := omega) only [b_X12_split_7, f_X12_split_8, f_X12_split_9, f_X12_split_10, f_X12_split_11, f_X12_split_12, h40, e17, nt_clamp, nt_le, nt_lt, nt_eq, lit_le, lit_lt, le_lit, lt_lit, eq_lit, lit_eq, nt_neg, nt_ge, nt_add, nt_mul, nt_addl, lit_add, nt_mull, lit_mul, nt_sub, nt_subl, lit_sub, nt_divl, nt_m1, nt_m2, nt_m1', nt_m2', false_or, if_neg, p3, q3, p2, q2, bi_0]
        cases eg1 : go n m w p p with
        | false =>
          rw [if_pos rfl]
          exact skip (by unfold sps vs; rw [eg1]; rfl)
        | true =>
          rw [if_neg (by decide)]
          cases eg2 : go n m w q q with
          | false =>
            rw [if_pos rfl]
            exact skip (by unfold sps vs; rw [eg1, eg2]; rfl)
          | true =>
            rw [if_neg (by decide)]
            by_cases c1 : n ≤ pblk n p
            · rw [if_pos c1]
              exact skip (by unfold sps vs; rw [eg1, eg2, decide_eq_false (show ¬ pblk n p < n from by omega)]; rfl)
            · rw [if_neg c1]
              by_cases c2 : n ≤ pblk n q
              · rw [if_pos c2]
                exact skip (by unfold sps vs; rw [eg1, eg2, decide_eq_true (show pblk n p < n from by omega), decide_eq_false (show ¬ pblk n q < n from by omega)]; rfl)
              · rw [if_neg c2]
                have evs : vs n m w p q = aal n p q := by unfold vs; rw [eg1, eg2, decide_eq_true (show pblk n p < n from by omega), decide_eq_true (show pblk n q < n from by omega)]; rfl
                by_cases c3 : en4 n o ≤ pblk n p + pblk n q
                · rw [if_pos c3]
                  refine skip ?_
                  unfold sps
                  rw [evs]
                  cases o with
                  | none => exact absurd c3 (by show ¬ 99 ≤ _; omega)
                  | some r =>
                    dsimp only
                    rw [if_pos (show ssm n r.1 r.2 ≤ ssm n p q from c3)]
                    split <;> rfl
                · rw [if_neg c3]
                  simp (disch := omega) only [f_X12_split_13, areAll_ok hn e17 (show p < 203 from by omega) (show q < 203 from by omega) (hbo p hp) (hbo q hq), Option.bind_some, f_X12_split_14, bi_0]
                  cases ea : aal n p q with
                  | false =>
                    rw [if_pos rfl]
                    simp only [f_X12_split_15]
                    exact skip (by unfold sps; rw [evs, ea]; rfl)
                  | true =>
                    rw [if_neg (by decide)]
                    have hs : sps n m w o p q = some (p, q) := by
                      unfold sps
                      rw [evs, ea, if_pos rfl]
                      cases o with
                      | none => rfl
                      | some r =>
                        dsimp only
                        rw [if_neg (show ¬ ssm n r.1 r.2 ≤ ssm n p q from c3)]
                    rw [hs] at hst
                    simp (disch := omega) only [f_X12_split_16, f_X12_split_17, nt_clamp, nt_le, nt_lt, nt_eq, lit_le, lit_lt, le_lit, lt_lit, eq_lit, lit_eq, nt_neg, nt_ge, nt_add, nt_mul, nt_addl, lit_add, nt_mull, lit_mul, nt_sub, nt_subl, lit_sub, nt_divl, nt_m1, nt_m2, nt_m1', nt_m2', false_or, if_neg, p2, q2]
                    exact ok_some ⟨some (p, q), rfl, hst, by show pblk n p + pblk n q ≤ 99; omega⟩
      · rintro r ⟨o, rfl, hB, hle⟩
        simp (disch := omega) only [b_X12_split_7, f_X12_split_18, h40, nt_clamp, nt_le, nt_lt, nt_eq, lit_le, lit_lt, le_lit, lt_lit, eq_lit, lit_eq, nt_neg, nt_ge, nt_add, nt_mul, nt_addl, lit_add, nt_mull, lit_mul, nt_sub, nt_subl, lit_sub, nt_divl, nt_m1, nt_m2, nt_m1', nt_m2', if_true, if_false, if_pos, if_neg, e01, e10, em12, em21, e0m1, e0m2, e1m1, e1m2, em10, em20, Int32.reduceLT, Int32.reduceLE, eq_self, Option.bind_some, Option.map_some, false_or, or_false, or_self, true_or, or_true, not_true_eq_false, not_false_eq_true, false_and, and_false, true_and, and_true]
        exact ok_some ⟨o, _, rfl, Bst_congr hB (fun p' q' _ => by omega), hle⟩
    · rintro r ⟨o, z6, rfl, hB, hle⟩
      have ho := spl_eq (Bst_tri hn hB)
      simp (disch := omega) only [b_X12_split_5, f_X12_split_19, h40, nt_clamp, nt_le, nt_lt, nt_eq, lit_le, lit_lt, le_lit, lt_lit, eq_lit, lit_eq, nt_neg, nt_ge, nt_add, nt_mul, nt_addl, lit_add, nt_mull, lit_mul, nt_sub, nt_subl, lit_sub, nt_divl, nt_m1, nt_m2, nt_m1', nt_m2', if_pos]
      apply ok_map
      simp only [if_true, ← ho]
      cases o with
      | none =>
        simp only [en1, Int32.reduceLE, if_false, f_X12_split_20]
        exact ok_some ⟨rfl, rfl, fun _ => ⟨a1, a2⟩, a3⟩
      | some r =>
        have hr1 := hB.1.1
        have hr2 := hB.1.2
        simp (disch := omega) only [en1, en2, nt_clamp, nt_le, nt_lt, nt_eq, lit_le, lit_lt, le_lit, lt_lit, eq_lit, lit_eq, nt_neg, nt_ge, nt_add, nt_mul, nt_addl, lit_add, nt_mull, lit_mul, nt_sub, nt_subl, lit_sub, nt_divl, nt_m1, nt_m2, nt_m1', nt_m2', if_true, f_X12_split_21, f_X12_split_22, f_X12_split_23, f_X12_split_24, f_X12_split_25, f_X12_split_26, false_or, if_neg, (hP r.1 hr1).1, (hP r.2 hr2).1]
        have ht : t = 0 ∨ t = 1 ∨ t = 2 := by omega
        rcases ht with rfl | rfl | rfl
        · exact ok_some ⟨rfl, rfl, fun _ => ⟨a1, a2⟩, a3⟩
        · exact ok_some ⟨rfl, rfl, fun _ => ⟨a1, a2⟩, a3⟩
        · exact ok_some ⟨rfl, rfl, fun _ => ⟨a1, a2⟩, a3⟩
