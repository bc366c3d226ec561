/-! beside -/
def bst (n : Nat) (w : aT) (p q x : Nat) (r : Nat × Nat) : (Nat × Nat) × Bool := match ptt n w p r.1 x, ptt n w q r.2 x with
  | some c, some d => ((c, d), false)
  | _, _ => (r, true)
def bsn (n : Nat) (w : aT) (p q : Nat) (X : Int32) (N s : Nat) : Nat → (Nat × Nat) × Bool
  | 0 => ((bo n p s, bo n q s), false)
  | k + 1 => if (bsn n w p q X N s k).2 = true then bsn n w p q X N s k else bst n w p q (dg2 X (N - 1 - k)) (bsn n w p q X N s k).1
theorem bsn_stop {n p q N s k : Nat} {w : aT} {X : Int32} (h : (bsn n w p q X N s k).2 = true) : ∀ d, bsn n w p q X N s (k + d) = bsn n w p q X N s k := by
  intro d
  induction d with
  | zero => rfl
  | succ d ih =>
    show (if (bsn n w p q X N s (k + d)).2 = true then bsn n w p q X N s (k + d) else bst n w p q (dg2 X (N - 1 - (k + d))) (bsn n w p q X N s (k + d)).1) = bsn n w p q X N s k
    rw [ih, if_pos h]
theorem bo6 {n i s : Nat} (hn : n ≤ 6) (hi : i < (pts n).length) : bo n i s < 6 := by
  by_cases h : s < 6
  · exact (pt_fact hn hi).2.2.1 s h
  · unfold bo; rw [if_neg (by omega)]; omega
theorem ptt6 {n i c x d : Nat} {w : aT} (hn : n ≤ 6) (hi : i < (pts n).length) (h : ptt n w i c x = some d) : d < 6 := by
  unfold ptt at h
  split at h
  · rw [Option.map_eq_some_iff] at h
    obtain ⟨t, _, rfl⟩ := h
    exact bo6 hn hi
  · cases h
theorem bsn6 {n p q N s : Nat} {w : aT} {X : Int32} (hn : n ≤ 6) (hp : p < (pts n).length) (hq : q < (pts n).length) : ∀ k, (bsn n w p q X N s k).1.1 < 6 ∧ (bsn n w p q X N s k).1.2 < 6 := by
  intro k
  induction k with
  | zero => exact ⟨bo6 hn hp, bo6 hn hq⟩
  | succ k ih =>
    unfold bsn
    split
    · exact ih
    · unfold bst
      split
      · rename_i c d e1 e2
        exact ⟨ptt6 hn hp e1, ptt6 hn hq e2⟩
      · exact ih
def besR (n m : Nat) (w : aT) (x y s X N : Int32) : Int32 := match gix n m w x, gix n m w y with
  | some p, some q => if (isS n s && wOk m X N) = true then sto n p (bsn n w p q X N.toNatClampNeg s.toNatClampNeg N.toNatClampNeg).1.1 &&& sto n q (bsn n w p q X N.toNatClampNeg s.toNatClampNeg N.toNatClampNeg).1.2 else -1
  | _, _ => -1
theorem cbes_ok {n m : Nat} {w : aT} {I : xI} {J : xJ} (hn : n ≤ 6) (hm : m ≤ 4) (V : Vd n m w) (h : cMa n m w (I 1 0) (I 1 1) (I 2) (I 3) (I 4)) (hA : caA m w I) (hD : caD n m w I) (x y s X N : Int32) : Ok (f_X11_beside x y s X N I J) (fun o => o.2.2 = J ∧ o.1 = besR n m w x y s X N ∧ caA m w o.2.1 ∧ caD n m w o.2.1 ∧ ∀ c j, ¬ tReg c j → o.2.1 c j = I c j) := by
  have hN := pts_len n (by omega)
  unfold f_X11_beside f_X11_beside_0
  apply ok_bind
  refine (partsNow_ok hn hm V h hA hD).imp ?_
  rintro ⟨_, I1, J1⟩ ⟨rfl, cA, cD, a1, a2, a3, a4⟩
  dsimp only at cA cD a1 a2 a3 a4 ⊢
  have hM1 := cMa_fr h (fun c j h1 h2 => a4 c j (by unfold tReg pReg; omega))
  unfold besR
  simp only [f_X11_beside_1, f_X11_beside_2, goingIx_ok hn V a1 a2, Option.bind_some]
  rw [show (pix n x).filter (fun i => go n m w i i) = gix n m w x from rfl, show (pix n y).filter (fun i => go n m w i i) = gix n m w y from rfl]
  cases e : gix n m w x with
  | none => exact ok_some ⟨rfl, rfl, cA, cD, a4⟩
  | some p =>
    obtain ⟨_, hgp, hp⟩ := gix_ex e
    cases e2 : gix n m w y with
    | none =>
      show Ok (f_X11_beside_3 x y s X N (nt p) (-1) I1 J1) _
      simp (disch := omega) only [f_X11_beside_3, f_X11_beside_4, nt_clamp, nt_le, nt_lt, nt_eq, lit_le, lit_lt, le_lit, lt_lit, eq_lit, lit_eq, nt_neg, nt_ge, nt_add, nt_mul, nt_addl, lit_add, nt_mull, lit_mul, nt_sub, nt_subl, lit_sub, nt_divl, nt_m1, nt_m2, nt_m1', nt_m2', if_false, if_true]
      exact ok_some ⟨rfl, rfl, cA, cD, a4⟩
    | some q =>
      obtain ⟨_, hgq, hq⟩ := gix_ex e2
      show Ok (f_X11_beside_3 x y s X N (nt p) (nt q) I1 J1) _
      simp (disch := omega) only [f_X11_beside_3, f_X11_beside_4, f_X11_beside_5, nt_clamp, nt_le, nt_lt, nt_eq, lit_le, lit_lt, le_lit, lt_lit, eq_lit, lit_eq, nt_neg, nt_ge, nt_add, nt_mul, nt_addl, lit_add, nt_mull, lit_mul, nt_sub, nt_subl, lit_sub, nt_divl, nt_m1, nt_m2, nt_m1', nt_m2', if_false, hasState_ok hM1.1, Option.bind_some, f_X11_beside_6, bi_0]
      cases hs : isS n s with
      | false => exact ok_some ⟨rfl, rfl, cA, cD, a4⟩
      | true =>
        simp (disch := omega) only [Bool.true_eq_false, if_false, f_X11_beside_7, hasWord_ok hm hM1.2.1, Option.bind_some, f_X11_beside_8, bi_0]
        cases hw : wOk m X N with
        | false => exact ok_some ⟨rfl, rfl, cA, cD, a4⟩
        | true =>
          obtain ⟨s, hsn, rfl⟩ := isS_ex (by omega) hs
          obtain ⟨k, hk8, rfl, hdg⟩ := wOk_ex hw
          rw [nt_clamp (by omega), nt_clamp (by omega)]
          simp (disch := omega) only [Bool.true_eq_false, if_false, f_X11_beside_10, f_X11_beside_11, f_X11_beside_12, blockOf2_ok hn hsn a2 hp, blockOf2_ok hn hsn a2 hq, Option.bind_some]
          unfold f_X11_beside_13
          have fin : ∀ (r : Nat × Nat) (x10 : Int32) (z11 z12 z13 : Option Value), r = (bsn n w p q X k s k).1 → Ok (f_X11_beside_21 x y (nt s) X (nt k) (nt p) (nt q) (nt r.1) (nt r.2) x10 z11 z12 z13 I1 J1) (fun o => o.2.2 = J1 ∧ o.1 = (if (true && true) = true then sto n p (bsn n w p q X k s k).1.1 &&& sto n q (bsn n w p q X k s k).1.2 else -1) ∧ caA m w o.2.1 ∧ caD n m w o.2.1 ∧ ∀ c j, ¬ tReg c j → o.2.1 c j = I c j) := by
            intro r x10 z11 z12 z13 hr
            have h6 := bsn6 (w := w) (X := X) (N := k) (s := s) hn hp hq k
            rw [← hr] at h6 ⊢
            simp (disch := omega) only [f_X11_beside_21, f_X11_beside_22, f_X11_beside_23, statesOf_ok hn a2 hp (show r.1 < 100 from by omega), statesOf_ok hn a2 hq (show r.2 < 100 from by omega), Option.bind_some, Bool.and_self, if_true]
            exact ok_some ⟨rfl, rfl, cA, cD, a4⟩
          refine ok_loop (fun i t => (bsn n w p q X k s i).2 = false ∧ ∃ z11 z12 z13, t = (x, y, nt s, X, nt k, nt p, nt q, nt (bsn n w p q X k s i).1.1, nt (bsn n w p q X k s i).1.2, nt i, z11, z12, z13, I1, J1)) k ?_ ?_ 5000 0 _ (by omega) (by omega) ⟨rfl, none, none, none, rfl⟩
          · rintro i hi t ⟨hst, z11, z12, z13, rfl⟩
            have h6 := bsn6 (w := w) (X := X) (N := k) (s := s) hn hp hq i
            have hnext : bsn n w p q X k s (i + 1) = bst n w p q (dg2 X (k - 1 - i)) (bsn n w p q X k s i).1 := by
              show (if (bsn n w p q X k s i).2 = true then _ else _) = _
              rw [hst]; rfl
            have hd := hdg (k - 1 - i) (by omega)
            have hd4 := dg2_lt X (k - 1 - i)
            have hbrk : (bsn n w p q X k s (i + 1)).2 = true → bsn n w p q X k s k = bsn n w p q X k s (i + 1) := by
              intro hh
              have := bsn_stop hh (k - (i + 1))
              rw [show i + 1 + (k - (i + 1)) = k from by omega] at this
              exact this
            revert hnext hbrk h6
            generalize bsn n w p q X k s (i + 1) = r2
            generalize (bsn n w p q X k s i).1 = r
            generalize hxd : dg2 X (k - 1 - i) = d at hd hd4
            intro h6 hnext hbrk
            simp (disch := omega) only [b_X11_beside_13, f_X11_beside_14, f_X11_beside_15, f_X11_beside_16, f_X5_digitOf_0, f_X5_digitOf, nt_clamp, nt_le, nt_lt, nt_eq, lit_le, lit_lt, le_lit, lt_lit, eq_lit, lit_eq, nt_neg, nt_ge, nt_add, nt_mul, nt_addl, lit_add, nt_mull, lit_mul, nt_sub, nt_subl, lit_sub, nt_divl, nt_m1, nt_m2, nt_m1', nt_m2', if_neg, nt_31, dg2_ok, hxd, Option.bind_some, blockBehind_ok hn hm V hM1 a2 hp hgp (show r.1 < 100 from by omega) hd, blockBehind_ok hn hm V hM1 a2 hq hgq (show r.2 < 100 from by omega) hd, f_X11_beside_17]
            unfold bst at hnext
            cases ep : ptt n w p r.1 d with
            | none =>
              rw [ep] at hnext
              simp only [ov_n, if_true]
              apply ok_map
              have hb2 := hbrk (by rw [hnext])
              exact fin r _ _ _ _ (by rw [hb2, hnext])
            | some c =>
              have hc6 := ptt6 hn hp ep
              simp (disch := omega) only [ov_s, nt_clamp, nt_le, nt_lt, nt_eq, lit_le, lit_lt, le_lit, lt_lit, eq_lit, lit_eq, nt_neg, nt_ge, nt_add, nt_mul, nt_addl, lit_add, nt_mull, lit_mul, nt_sub, nt_subl, lit_sub, nt_divl, nt_m1, nt_m2, nt_m1', nt_m2', if_false, f_X11_beside_18]
              cases eq : ptt n w q r.2 d with
              | none =>
                rw [ep, eq] at hnext
                simp only [ov_n, if_true, f_X11_beside_19]
                apply ok_map
                have hb2 := hbrk (by rw [hnext])
                exact fin r _ _ _ _ (by rw [hb2, hnext])
              | some c2 =>
                have hc7 := ptt6 hn hq eq
                rw [ep, eq] at hnext
                simp (disch := omega) only [ov_s, nt_clamp, nt_le, nt_lt, nt_eq, lit_le, lit_lt, le_lit, lt_lit, eq_lit, lit_eq, nt_neg, nt_ge, nt_add, nt_mul, nt_addl, lit_add, nt_mull, lit_mul, nt_sub, nt_subl, lit_sub, nt_divl, nt_m1, nt_m2, nt_m1', nt_m2', if_false, f_X11_beside_20]
                refine ok_some ⟨by rw [hnext], some (.int (nt d)), some (.int (nt c)), some (.int (nt c2)), ?_⟩
                rw [hnext]
          · rintro t ⟨hst, z11, z12, z13, rfl⟩
            simp (disch := omega) only [b_X11_beside_13, nt_clamp, nt_le, nt_lt, nt_eq, lit_le, lit_lt, le_lit, lt_lit, eq_lit, lit_eq, nt_neg, nt_ge, nt_add, nt_mul, nt_addl, lit_add, nt_mull, lit_mul, nt_sub, nt_subl, lit_sub, nt_divl, nt_m1, nt_m2, nt_m1', nt_m2', if_pos]
            apply ok_map
            exact fin _ _ _ _ _ rfl
theorem rbes_ok {n m : Nat} {w : aT} {I : xI} {J : xJ} (hn : n ≤ 6) (hm : m ≤ 4) (V : Vd n m w) (h0 : I 61 17 = nt n) (h1 : I 61 18 = nt m) (h : rMa n m w (I 70) 0) (hc : rCa n m w I) (x y s X N : Int32) : Ok (f_X12_beside x y s X N I J) (fun o => o.2.2 = J ∧ o.1 = besR n m w x y s X N ∧ rCa n m w o.2.1 ∧ ∀ c j, ¬ kReg c j → o.2.1 c j = I c j) := by
  have hN := pts_len n (by omega)
  unfold f_X12_beside f_X12_beside_0
  apply ok_bind
  refine (placeOf_ok hn hm V h0 h1 h hc x).imp ?_
  rintro ⟨_, I0, J0⟩ ⟨rfl, rfl, b1, b2, b3⟩
  dsimp only at b1 b2 b3 ⊢
  have d17 : I0 61 17 = nt n := (b3 61 17 (by unfold kReg; omega)).trans h0
  have d18 : I0 61 18 = nt m := (b3 61 18 (by unfold kReg; omega)).trans h1
  have d70 : I0 70 = I 70 := funext fun j => b3 70 j (by unfold kReg; omega)
  unfold f_X12_beside_1
  apply ok_bind
  refine (placeOf_ok hn hm V d17 d18 (by rw [d70]; exact h) (fun _ => ⟨b1, b2⟩) y).imp ?_
  rintro ⟨_, I1, J1⟩ ⟨rfl, rfl, a1, a2, a3'⟩
  dsimp only at a1 a2 a3' ⊢
  have a3 : ∀ c j, ¬ kReg c j → I1 c j = I c j := fun c j hr => (a3' c j hr).trans (b3 c j hr)
  unfold besR gix f_X12_beside_2
  cases e : pix n x with
  | none => exact ok_some ⟨rfl, rfl, fun _ => ⟨a1, a2⟩, a3⟩
  | some p =>
    have hp := pix_lt e
    show Ok (if nt p < 0 then _ else f_X12_beside_3 x y s X N (nt p) (o1 (pix n y)) I1 J1) _
    rw [if_neg (by rw [nt_neg (by omega)]; exact id), Option.filter_some]
    unfold f_X12_beside_3
    cases e2 : pix n y with
    | none =>
      rw [if_pos (show o1 none < 0 from by decide)]
      refine ok_some ⟨rfl, ?_, fun _ => ⟨a1, a2⟩, a3⟩
      cases go n m w p p <;> rfl
    | some q =>
      have hq := pix_lt e2
      rw [if_neg (show ¬ o1 (some q) < 0 from by show ¬ nt q < 0; rw [nt_neg (by omega)]; exact id), Option.filter_some]
      have e17 : I1 61 17 = nt n := (a3 61 17 (by unfold kReg; omega)).trans h0
      have e18 : I1 61 18 = nt m := (a3 61 18 (by unfold kReg; omega)).trans h1
      have e70 : I1 70 = I 70 := funext fun j => a3 70 j (by unfold kReg; omega)
      have hM1 : rMa n m w (I1 70) 0 := by rw [e70]; exact h
      have hP := a1.2.2.2.2.2.2
      have hbo : ∀ k, k < (pts n).length → ∀ s, s < 6 → I1 85 (6 * k + s) = nt (bo n k s) ∧ bo n k s < 6 := fun k hk s hs => ⟨(hP k hk).2.2.2 s hs, (pt_fact hn hk).2.2.1 s hs⟩
      show Ok (f_X12_beside_4 x y s X N (nt p) (nt q) I1 J1) _
      simp (disch := omega) only [f_X12_beside_4, f_X12_beside_5, nt_clamp, nt_le, nt_lt, nt_eq, lit_le, lit_lt, le_lit, lt_lit, eq_lit, lit_eq, nt_neg, nt_ge, nt_add, nt_mul, nt_addl, lit_add, nt_mull, lit_mul, nt_sub, nt_subl, lit_sub, nt_divl, nt_m1, nt_m2, nt_m1', nt_m2', false_or, if_neg, (hP p hp).2.2.1, (hP q hq).2.2.1, bi_0]
      cases hgp : go n m w p p with
      | false => exact ok_some ⟨rfl, rfl, fun _ => ⟨a1, a2⟩, a3⟩
      | true =>
        cases hgq : go n m w q q with
        | false => exact ok_some ⟨rfl, rfl, fun _ => ⟨a1, a2⟩, a3⟩
        | true =>
          simp (disch := omega) only [Bool.true_eq_false, if_false, f_X12_beside_6, isState_ok e17, Option.bind_some, f_X12_beside_7, bi_0, if_true]
          cases hs : isS n s with
          | false => exact ok_some ⟨rfl, rfl, fun _ => ⟨a1, a2⟩, a3⟩
          | true =>
            simp (disch := omega) only [Bool.true_eq_false, if_false, f_X12_beside_8, isWord_ok hm e18, Option.bind_some, f_X12_beside_9, bi_0]
            cases hw : wOk m X N with
            | false => exact ok_some ⟨rfl, rfl, fun _ => ⟨a1, a2⟩, a3⟩
            | true =>
              obtain ⟨s, hsn, rfl⟩ := isS_ex (by omega) hs
              obtain ⟨k, hk8, rfl, hdg⟩ := wOk_ex hw
              rw [nt_clamp (by omega), nt_clamp (by omega)]
              have q1 := hbo p hp s (by omega)
              have q2 := hbo q hq s (by omega)
              simp (disch := omega) only [Bool.true_eq_false, if_false, f_X12_beside_11, nt_clamp, nt_le, nt_lt, nt_eq, lit_le, lit_lt, le_lit, lt_lit, eq_lit, lit_eq, nt_neg, nt_ge, nt_add, nt_mul, nt_addl, lit_add, nt_mull, lit_mul, nt_sub, nt_subl, lit_sub, nt_divl, nt_m1, nt_m2, nt_m1', nt_m2', false_or, if_neg, q1.1, q2.1]
              have fin : ∀ (r : Nat × Nat) (x10 : Int32) (z11 z12 z13 : Option Value), r = (bsn n w p q X k s k).1 → Ok (f_X12_beside_19 x y (nt s) X (nt k) (nt p) (nt q) (nt r.1) (nt r.2) x10 z11 z12 z13 I1 J1) (fun o => o.2.2 = J1 ∧ o.1 = (if (true && true) = true then sto n p (bsn n w p q X k s k).1.1 &&& sto n q (bsn n w p q X k s k).1.2 else -1) ∧ rCa n m w o.2.1 ∧ ∀ c j, ¬ kReg c j → o.2.1 c j = I c j) := by
                intro r x10 z11 z12 z13 hr
                have h6 := bsn6 (w := w) (X := X) (N := k) (s := s) hn hp hq k
                rw [← hr] at h6 ⊢
                simp only [Bool.and_self, if_true]
                unfold f_X12_beside_19 f_X12_beside_20
                refine ok_loop (fun i t => t = (x, y, nt s, X, nt k, nt p, nt q, nt r.1, nt r.2, orf i (fun s => if (decide (bo n p s = r.1) && decide (bo n q s = r.2)) = true then 1 <<< nt s else 0), nt i, z12, z13, I1, J1)) n ?_ ?_ 5000 0 _ (by omega) (by omega) rfl
                · rintro i hi t rfl
                  have p1 := hbo p hp i (by omega)
                  have p2 := hbo q hq i (by omega)
                  simp (disch := omega) only [b_X12_beside_20, f_X12_beside_21, f_X12_beside_22, f_X12_beside_23, f_X12_beside_24, e17, nt_clamp, nt_le, nt_lt, nt_eq, lit_le, lit_lt, le_lit, lt_lit, eq_lit, lit_eq, nt_neg, nt_ge, nt_add, nt_mul, nt_addl, lit_add, nt_mull, lit_mul, nt_sub, nt_subl, lit_sub, nt_divl, nt_m1, nt_m2, nt_m1', nt_m2', false_or, if_neg, p1.1, p2.1, nt_31]
                  by_cases c1 : bo n p i = r.1
                  · rw [if_pos c1]
                    by_cases c2 : bo n q i = r.2
                    · rw [if_pos c2]
                      refine ok_some ?_
                      show _ = _
                      rw [orf, decide_eq_true c1, decide_eq_true c2]; rfl
                    · rw [if_neg c2]
                      refine ok_some ?_
                      show _ = _
                      rw [orf, decide_eq_false c2, Bool.and_false, if_neg (by decide), Int32.or_zero]
                  · rw [if_neg c1]
                    refine ok_some ?_
                    show _ = _
                    rw [orf, decide_eq_false c1, Bool.false_and, if_neg (by decide), Int32.or_zero]
                · rintro t rfl
                  simp (disch := omega) only [b_X12_beside_20, f_X12_beside_25, e17, nt_clamp, nt_le, nt_lt, nt_eq, lit_le, lit_lt, le_lit, lt_lit, eq_lit, lit_eq, nt_neg, nt_ge, nt_add, nt_mul, nt_addl, lit_add, nt_mull, lit_mul, nt_sub, nt_subl, lit_sub, nt_divl, nt_m1, nt_m2, nt_m1', nt_m2', if_true, if_false, if_pos, if_neg, e01, e10, em12, em21, e0m1, e0m2, e1m1, e1m2, em10, em20, Int32.reduceLT, Int32.reduceLE, eq_self, Option.bind_some, Option.map_some, false_or, or_false, or_self, true_or, or_true, not_true_eq_false, not_false_eq_true, false_and, and_false, true_and, and_true]
                  refine ok_some ⟨rfl, ?_, fun _ => ⟨a1, a2⟩, a3⟩
                  apply bt_ext
                  intro j hj
                  rw [bt_and, sto_bt hn hj, sto_bt hn hj]
                  dsimp only
                  rw [orf_bt]
                  cases ee : (decide (j < n) && decide (bo n p j = r.1) && (decide (j < n) && decide (bo n q j = r.2))) with
                  | true =>
                    simp only [Bool.and_eq_true] at ee
                    refine ex_iff.mpr ⟨j, of_decide_eq_true ee.1.1, ?_⟩
                    rw [ee.1.2, ee.2.2, if_pos (show (true && true) = true from rfl), one_shl (by omega) hj, decide_eq_true rfl]
                  | false =>
                    refine ex_false.mpr ?_
                    intro i hi
                    by_cases cc : i = j
                    · rw [cc] at hi ⊢
                      rw [decide_eq_true hi, Bool.true_and, Bool.true_and] at ee
                      rw [ee, if_neg (by decide), bt_zero]
                    · split
                      · rw [one_shl (by omega) hj, decide_eq_false (fun h => cc h.symm)]
                      · exact bt_zero j
              unfold f_X12_beside_12
              refine ok_loop (fun i t => (bsn n w p q X k s i).2 = false ∧ ∃ z11 z12 z13, t = (x, y, nt s, X, nt k, nt p, nt q, nt (bsn n w p q X k s i).1.1, nt (bsn n w p q X k s i).1.2, nt (k - i) - 1, z11, z12, z13, I1, J1)) k ?_ ?_ 5000 0 _ (by omega) (by omega) ⟨rfl, none, none, none, rfl⟩
              · rintro i hi t ⟨hst, z11, z12, z13, rfl⟩
                have h6 := bsn6 (w := w) (X := X) (N := k) (s := s) hn hp hq i
                have hnext : bsn n w p q X k s (i + 1) = bst n w p q (dg2 X (k - 1 - i)) (bsn n w p q X k s i).1 := by
                  show (if (bsn n w p q X k s i).2 = true then _ else _) = _
                  rw [hst]; rfl
                have hd := hdg (k - 1 - i) (by omega)
                have hd4 := dg2_lt X (k - 1 - i)
                have hbrk : (bsn n w p q X k s (i + 1)).2 = true → bsn n w p q X k s k = bsn n w p q X k s (i + 1) := by
                  intro hh
                  have := bsn_stop hh (k - (i + 1))
                  rw [show i + 1 + (k - (i + 1)) = k from by omega] at this
                  exact this
                revert hnext hbrk h6
                generalize bsn n w p q X k s (i + 1) = r2
                generalize (bsn n w p q X k s i).1 = r
                generalize hxd : dg2 X (k - 1 - i) = d at hd hd4
                intro h6 hnext hbrk
                have epos : nt (k - i) - 1 = nt (k - 1 - i) := by rw [nt_m1s (by omega), show k - i - 1 = k - 1 - i from by omega]
                have epos2 : nt (k - 1 - i) - 1 = nt (k - (i + 1)) - 1 := by rw [show k - 1 - i = k - (i + 1) from by omega]
                simp (disch := omega) only [b_X12_beside_12, f_X12_beside_13, f_X12_beside_14, f_X12_beside_15, epos, nt_clamp, nt_le, nt_lt, nt_eq, lit_le, lit_lt, le_lit, lt_lit, eq_lit, lit_eq, nt_neg, nt_ge, nt_add, nt_mul, nt_addl, lit_add, nt_mull, lit_mul, nt_sub, nt_subl, lit_sub, nt_divl, nt_m1, nt_m2, nt_m1', nt_m2', if_neg, nt_31, dg2_ok, hxd, Option.bind_some, partTo_ok hn hm V e17 hM1 (show p < 203 from by omega) (hbo p hp) (show r.1 < 100 from by omega) hd, partTo_ok hn hm V e17 hM1 (show q < 203 from by omega) (hbo q hq) (show r.2 < 100 from by omega) hd]
                unfold bst at hnext
                cases ep : ptt n w p r.1 d with
                | none =>
                  rw [ep] at hnext
                  simp only [ov_n, Int32.reduceLT, if_true]
                  apply ok_map
                  have hb2 := hbrk (by rw [hnext])
                  exact fin r _ _ _ _ (by rw [hb2, hnext])
                | some c =>
                  have hc6 := ptt6 hn hp ep
                  simp (disch := omega) only [ov_s, nt_clamp, nt_le, nt_lt, nt_eq, lit_le, lit_lt, le_lit, lt_lit, eq_lit, lit_eq, nt_neg, nt_ge, nt_add, nt_mul, nt_addl, lit_add, nt_mull, lit_mul, nt_sub, nt_subl, lit_sub, nt_divl, nt_m1, nt_m2, nt_m1', nt_m2', if_neg, f_X12_beside_16]
                  cases eq : ptt n w q r.2 d with
                  | none =>
                    rw [ep, eq] at hnext
                    simp only [ov_n, Int32.reduceLE, if_false, f_X12_beside_17]
                    apply ok_map
                    have hb2 := hbrk (by rw [hnext])
                    exact fin r _ _ _ _ (by rw [hb2, hnext])
                  | some c2 =>
                    have hc7 := ptt6 hn hq eq
                    rw [ep, eq] at hnext
                    simp (disch := omega) only [ov_s, nt_clamp, nt_le, nt_lt, nt_eq, lit_le, lit_lt, le_lit, lt_lit, eq_lit, lit_eq, nt_neg, nt_ge, nt_add, nt_mul, nt_addl, lit_add, nt_mull, lit_mul, nt_sub, nt_subl, lit_sub, nt_divl, nt_m1, nt_m2, nt_m1', nt_m2', if_true, f_X12_beside_18, add_m1]
                    refine ok_some ⟨by rw [hnext], some (.int (nt d)), some (.int (nt c)), some (.int (nt c2)), ?_⟩
                    rw [hnext, epos2]
              · rintro t ⟨hst, z11, z12, z13, rfl⟩
                have e : (nt (k - k) - 1 < 0) := by
                  rw [show k - k = 0 from by omega]; decide
                simp only [b_X12_beside_12, if_pos e]
                apply ok_map
                exact fin _ _ _ _ _ rfl
