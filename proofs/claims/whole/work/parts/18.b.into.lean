/-! partition, into, tail -/
def prtR (n m : Nat) (w : aT) (i : Int32) : Int32 := if i = -1 then nt (gol n m w).length else if isS (gol n m w).length i = true then nt (pnum n ((gol n m w).getD i.toNatClampNeg 0)) else -1
theorem cprt_ok {n m : Nat} {w : aT} {I : xI} {J : xJ} (hn : n ≤ 6) (hm : m ≤ 4) (V : Vd n m w) (h : cMa n m w (I 1 0) (I 1 1) (I 2) (I 3) (I 4)) (hA : caA m w I) (hD : caD n m w I) (i : Int32) : Ok (f_X11_partition i I J) (fun o => o.2.2 = J ∧ o.1 = prtR n m w i ∧ caA m w o.2.1 ∧ caD n m w o.2.1 ∧ ∀ c j, ¬ tReg c j → o.2.1 c j = I c j) := by
  have hN := pts_len n (by omega)
  have hgl : (gol n m w).length ≤ (pts n).length := fl_le
  unfold f_X11_partition f_X11_partition_0
  apply ok_bind
  refine (partsNow_ok hn hm V h hA hD).imp ?_
  rintro ⟨_, I1, J1⟩ ⟨rfl, cA, cD, a1, a2, ⟨h8, h47⟩, a4⟩
  dsimp only at cA cD a1 a2 h8 h47 a4 ⊢
  unfold prtR
  simp only [f_X11_partition_1, h8]
  by_cases hi1 : i = -1
  · rw [if_pos hi1, if_pos hi1]
    exact ok_some ⟨rfl, rfl, cA, cD, a4⟩
  · rw [if_neg hi1, if_neg hi1]
    unfold f_X11_partition_3
    rcases nt_all i with hz | ⟨k, hk, rfl⟩
    · rw [if_pos hz, isS_neg hz]
      exact ok_some ⟨rfl, rfl, cA, cD, a4⟩
    · rw [isS_nt (by omega) hk, nt_clamp hk]
      simp (disch := omega) only [f_X11_partition_4, nt_clamp, nt_le, nt_lt, nt_eq, lit_le, lit_lt, le_lit, lt_lit, eq_lit, lit_eq, nt_neg, nt_ge, nt_add, nt_mul, nt_addl, lit_add, nt_mull, lit_mul, nt_sub, nt_subl, lit_sub, nt_divl, nt_m1, nt_m2, nt_m1', nt_m2', if_neg]
      by_cases hc : (gol n m w).length ≤ k
      · rw [if_pos hc, decide_eq_false (by omega)]
        exact ok_some ⟨rfl, rfl, cA, cD, a4⟩
      · rw [if_neg hc, decide_eq_true (by omega)]
        obtain ⟨p, hp, hpN⟩ := gol_at (i := k) (show k < (gol n m w).length from by omega)
        have e47 := h47 k p hp
        simp (disch := omega) only [f_X11_partition_5, f_X11_partition_7, nt_clamp, nt_le, nt_lt, nt_eq, lit_le, lit_lt, le_lit, lt_lit, eq_lit, lit_eq, nt_neg, nt_ge, nt_add, nt_mul, nt_addl, lit_add, nt_mull, lit_mul, nt_sub, nt_subl, lit_sub, nt_divl, nt_m1, nt_m2, nt_m1', nt_m2', false_or, if_neg, e47, (cPl_at a2 hpN).1]
        rw [getD_of hp]
        exact ok_some ⟨rfl, rfl, cA, cD, a4⟩
theorem rprt_ok {n m : Nat} {w : aT} {I : xI} {J : xJ} (hn : n ≤ 6) (hm : m ≤ 4) (V : Vd n m w) (h0 : I 61 17 = nt n) (h1 : I 61 18 = nt m) (h : rMa n m w (I 70) 0) (hc : rCa n m w I) (i : Int32) : Ok (f_X12_partition i I J) (fun o => o.2.2 = J ∧ o.1 = prtR n m w i ∧ rCa n m w o.2.1 ∧ ∀ c j, ¬ kReg c j → o.2.1 c j = I c j) := by
  have hN := pts_len n (by omega)
  have hgl : (gol n m w).length ≤ (pts n).length := fl_le
  unfold f_X12_partition f_X12_partition_0
  apply ok_bind
  refine (knows_ok hn hm V h0 h1 h hc).imp ?_
  rintro ⟨_, I1, J1⟩ ⟨rfl, a1, a2, a3⟩
  dsimp only at a1 a2 a3 ⊢
  have h40 := a1.2.2.2.2.2.1
  have hP := a1.2.2.2.2.2.2
  unfold f_X12_partition_1 f_X12_partition_2
  refine ok_loop (fun p r => r = (i, nt (fl (gii n m w) p).length, nt p, I1, J1) ∧ ∀ k, k < (fl (gii n m w) p).length → ¬ i = nt k) (pts n).length ?_ ?_ 5000 0 _ (by omega) (by omega) ⟨rfl, fun k hk => absurd hk (by show ¬ k < 0; omega)⟩
  · rintro p hp r ⟨rfl, hg⟩
    have hfl : (fl (gii n m w) p).length ≤ p := fl_le
    obtain ⟨p1, p2, p3, p4⟩ := hP p hp
    simp (disch := omega) only [b_X12_partition_2, f_X12_partition_3, f_X12_partition_4, f_X12_partition_5, f_X12_partition_7, f_X12_partition_8, h40, nt_clamp, nt_le, nt_lt, nt_eq, lit_le, lit_lt, le_lit, lt_lit, eq_lit, lit_eq, nt_neg, nt_ge, nt_add, nt_mul, nt_addl, lit_add, nt_mull, lit_mul, nt_sub, nt_subl, lit_sub, nt_divl, nt_m1, nt_m2, nt_m1', nt_m2', false_or, if_neg, p3, bi_0]
    rw [show go n m w p p = gii n m w p from rfl]
    cases eg : gii n m w p with
    | false =>
      rw [if_pos rfl]
      refine ok_some ⟨?_, ?_⟩
      · rw [fl_f eg]
      · rw [fl_f eg]; exact hg
    | true =>
      rw [if_neg (by decide)]
      by_cases c : nt (fl (gii n m w) p).length = i
      · rw [if_pos c]
        simp (disch := omega) only [f_X12_partition_6, nt_clamp, nt_le, nt_lt, nt_eq, lit_le, lit_lt, le_lit, lt_lit, eq_lit, lit_eq, nt_neg, nt_ge, nt_add, nt_mul, nt_addl, lit_add, nt_mull, lit_mul, nt_sub, nt_subl, lit_sub, nt_divl, nt_m1, nt_m2, nt_m1', nt_m2', false_or, if_neg, p1, Option.map_some]
        refine ok_some ⟨rfl, ?_, fun _ => ⟨a1, a2⟩, a3⟩
        have hat := fl_at eg hp
        have hlt : (fl (gii n m w) p).length < (gol n m w).length := fl_mono eg hp
        unfold prtR
        rw [← c, if_neg (by rw [nt_m1 (by omega)]; exact id), isS_nt (by omega) (by omega), decide_eq_true hlt, if_pos rfl, nt_clamp (by omega)]
        show nt (pnum n p) = nt (pnum n ((fl (gii n m w) (pts n).length).getD _ 0))
        rw [getD_of hat]
      · rw [if_neg c]
        refine ok_some ⟨?_, ?_⟩
        · rw [fl_t eg, List.length_append]; rfl
        · rw [fl_t eg, List.length_append]
          intro k hk he
          by_cases ck : k = (fl (gii n m w) p).length
          · rw [ck] at he; exact c he.symm
          · exact hg k (by simp at hk; omega) he
  · rintro r ⟨rfl, hg⟩
    simp (disch := omega) only [b_X12_partition_2, f_X12_partition_9, f_X12_partition_10, f_X12_partition_11, f_X12_partition_12, h40, nt_clamp, nt_le, nt_lt, nt_eq, lit_le, lit_lt, le_lit, lt_lit, eq_lit, lit_eq, nt_neg, nt_ge, nt_add, nt_mul, nt_addl, lit_add, nt_mull, lit_mul, nt_sub, nt_subl, lit_sub, nt_divl, nt_m1, nt_m2, nt_m1', nt_m2', if_pos]
    apply ok_map
    unfold prtR
    by_cases hi1 : i = -1
    · rw [if_pos hi1, if_pos hi1]
      exact ok_some ⟨rfl, rfl, fun _ => ⟨a1, a2⟩, a3⟩
    · rw [if_neg hi1, if_neg hi1]
      cases hs : isS (gol n m w).length i with
      | false => exact ok_some ⟨rfl, rfl, fun _ => ⟨a1, a2⟩, a3⟩
      | true =>
        obtain ⟨k, hk, rfl⟩ := isS_ex (by omega) hs
        exact absurd rfl (hg k hk)
def intR (n m : Nat) (w : aT) (x : Int32) : Int32 := match pix n x with
  | none => -1
  | some i => nt (pnum n ((bM n (go n m w i) (pts n).length).getD 0))
theorem go_0 {n m i : Nat} {w : aT} (hn : n ≤ 6) (V : Vd n m w) : go n m w i 0 = true := by
  have hz : ∀ a, a < n → bo n 0 a = 0 := fun a ha => bo_zero n (by omega) a (by omega)
  unfold go
  rw [al_iff]; intro x hx
  rw [al_iff]; intro a ha
  rw [al_iff]; intro b hb
  unfold gob
  cases ea : w.1 a x with
  | none => rfl
  | some u =>
    cases eb : w.1 b x with
    | none => rfl
    | some v =>
      dsimp only
      rw [hz u (V.1 a x u ea).2.2, hz v (V.1 b x v eb).2.2, decide_eq_true (show (0 : Nat) = 0 from rfl), Bool.or_true]
theorem cint_ok {n m : Nat} {w : aT} {I : xI} {J : xJ} (hn : n ≤ 6) (hm : m ≤ 4) (V : Vd n m w) (h : cMa n m w (I 1 0) (I 1 1) (I 2) (I 3) (I 4)) (hA : caA m w I) (hD : caD n m w I) (x : Int32) : Ok (f_X11_into x I J) (fun o => o.2.2 = J ∧ o.1 = intR n m w x ∧ caA m w o.2.1 ∧ caD n m w o.2.1 ∧ ∀ c j, ¬ tReg c j → o.2.1 c j = I c j) := by
  have hN := pts_len n (by omega)
  unfold f_X11_into f_X11_into_0
  apply ok_bind
  refine (partsNow_ok hn hm V h hA hD).imp ?_
  rintro ⟨_, I1, J1⟩ ⟨rfl, cA, cD, a1, a2, a3, a4⟩
  dsimp only at cA cD a1 a2 a3 a4 ⊢
  unfold intR
  simp only [f_X11_into_1, indexOf_ok hn a2, Option.bind_some]
  cases e : pix n x with
  | none => exact ok_some ⟨rfl, rfl, cA, cD, a4⟩
  | some i =>
    have hi := pix_lt e
    have h5 := a2.2.1
    show Ok (f_X11_into_2 x (nt i) I1 J1) _
    simp (disch := omega) only [f_X11_into_2, nt_clamp, nt_le, nt_lt, nt_eq, lit_le, lit_lt, le_lit, lt_lit, eq_lit, lit_eq, nt_neg, nt_ge, nt_add, nt_mul, nt_addl, lit_add, nt_mull, lit_mul, nt_sub, nt_subl, lit_sub, nt_divl, nt_m1, nt_m2, nt_m1', nt_m2', if_false, f_X11_into_4, f_X7_intoOf, f_X7_intoOf_0, f_X7_intoOf_1, false_or, if_neg, followed_ok, (cPl_at a2 hi).2.2, Option.bind_some]
    apply ok_bind
    unfold f_X7_intoOf_2
    refine ok_loop (fun k r => r = (nt i, fol (I1 33) (jno n (pnum n i)), o1 (bM n (go n m w i) k), nt k, I1, J1)) (pts n).length ?_ ?_ 5000 0 _ (by omega) (by omega) rfl
    · rintro k hk r rfl
      have hp := cPl_at a2 hk
      have hb := pblk6 hn hk
      simp (disch := omega) only [b_X7_intoOf_2, f_X7_intoOf_3, f_X7_intoOf_7, h5, nt_clamp, nt_le, nt_lt, nt_eq, lit_le, lit_lt, le_lit, lt_lit, eq_lit, lit_eq, nt_neg, nt_ge, nt_add, nt_mul, nt_addl, lit_add, nt_mull, lit_mul, nt_sub, nt_subl, lit_sub, nt_divl, nt_m1, nt_m2, nt_m1', nt_m2', false_or, if_neg, hp.2.2, sub_def, fol_go hn V a1]
      have hlt : ∀ j, bM n (go n m w i) k = some j → j < (pts n).length := fun j hj => by have := bM_lt hj; omega
      have es := bM_s n (go n m w i) k
      revert hlt es
      generalize bM n (go n m w i) k = o
      intro hlt es
      cases eg : go n m w i k with
      | false =>
        rw [if_neg (by decide)]
        have : stM n (go n m w i) o k = o := by unfold stM; rw [eg]; rfl
        refine ok_some ?_
        show _ = _
        rw [es, this]
      | true =>
        rw [if_pos rfl]
        cases o with
        | none =>
          have : stM n (go n m w i) none k = some k := by unfold stM; rw [eg]; rfl
          simp only [f_X7_intoOf_4, o1, if_true, f_X7_intoOf_6, f_X7_intoOf_7, nt_addl]
          refine ok_some ?_
          show _ = _
          rw [es, this]
        | some j =>
          have hj := hlt j rfl
          have hpj := cPl_at a2 hj
          have hbj := pblk6 hn hj
          simp (disch := omega) only [f_X7_intoOf_4, o1, nt_clamp, nt_le, nt_lt, nt_eq, lit_le, lit_lt, le_lit, lt_lit, eq_lit, lit_eq, nt_neg, nt_ge, nt_add, nt_mul, nt_addl, lit_add, nt_mull, lit_mul, nt_sub, nt_subl, lit_sub, nt_divl, nt_m1, nt_m2, nt_m1', nt_m2', if_false, f_X7_intoOf_5, f_X7_intoOf_6, f_X7_intoOf_7, false_or, if_neg, hp.2.1, hpj.2.1]
          have est : stM n (go n m w i) (some j) k = if pblk n k ≤ pblk n j then some j else some k := by unfold stM; rw [eg]; rfl
          by_cases c2 : pblk n k ≤ pblk n j
          · rw [if_pos c2]
            refine ok_some ?_
            show _ = _
            rw [es, est, if_pos c2]
          · rw [if_neg c2]
            refine ok_some ?_
            show _ = _
            rw [es, est, if_neg c2]
    · rintro r rfl
      obtain ⟨j, hj⟩ := bM_ex (n := n) (P := go n m w i) (show 0 < (pts n).length from by omega) (go_0 hn V)
      have hjl := bM_lt hj
      rw [hj]
      simp (disch := omega) only [b_X7_intoOf_2, h5, nt_clamp, nt_le, nt_lt, nt_eq, lit_le, lit_lt, le_lit, lt_lit, eq_lit, lit_eq, nt_neg, nt_ge, nt_add, nt_mul, nt_addl, lit_add, nt_mull, lit_mul, nt_sub, nt_subl, lit_sub, nt_divl, nt_m1, nt_m2, nt_m1', nt_m2', if_pos, f_X7_intoOf_8, o1, if_false, f_X7_intoOf_10, f_X7_intoOf_11, false_or, if_neg, (cPl_at a2 hjl).1, Option.map_some, f_X11_into_5]
      exact ok_some (ok_some ⟨rfl, rfl, cA, cD, a4⟩)
theorem rint_ok {n m : Nat} {w : aT} {I : xI} {J : xJ} (hn : n ≤ 6) (hm : m ≤ 4) (V : Vd n m w) (h0 : I 61 17 = nt n) (h1 : I 61 18 = nt m) (h : rMa n m w (I 70) 0) (hc : rCa n m w I) (x : Int32) : Ok (f_X12_into x I J) (fun o => o.2.2 = J ∧ o.1 = intR n m w x ∧ rCa n m w o.2.1 ∧ ∀ c j, ¬ kReg c j → o.2.1 c j = I c j) := by
  have hN := pts_len n (by omega)
  unfold f_X12_into f_X12_into_0
  apply ok_bind
  refine (placeOf_ok hn hm V h0 h1 h hc x).imp ?_
  rintro ⟨_, I1, J1⟩ ⟨rfl, rfl, a1, a2, a3⟩
  dsimp only at a1 a2 a3 ⊢
  unfold intR f_X12_into_1
  cases e : pix n x with
  | none =>
    show Ok (if (0 : Int32) ≤ -1 then _ else _) _
    simp only [Int32.reduceLE, if_false]
    exact ok_some ⟨rfl, rfl, fun _ => ⟨a1, a2⟩, a3⟩
  | some i =>
    have hi := pix_lt e
    have h40 := a1.2.2.2.2.2.1
    have hP := a1.2.2.2.2.2.2
    have e17 : I1 61 17 = nt n := (a3 61 17 (by unfold kReg; omega)).trans h0
    have e18 : I1 61 18 = nt m := (a3 61 18 (by unfold kReg; omega)).trans h1
    have e70 : I1 70 = I 70 := funext fun j => a3 70 j (by unfold kReg; omega)
    have hM1 : rMa n m w (I1 70) 0 := by rw [e70]; exact h
    have hbo : ∀ k, k < (pts n).length → ∀ s, s < 6 → I1 85 (6 * k + s) = nt (bo n k s) ∧ bo n k s < 6 := fun k hk s hs => ⟨(hP k hk).2.2.2 s hs, (pt_fact hn hk).2.2.1 s hs⟩
    show Ok (if 0 ≤ nt i then f_X12_into_3 x (nt i) I1 J1 else _) _
    rw [if_pos (by rw [nt_ge (by omega)]; trivial)]
    unfold f_X12_into_3 f_X12_into_4
    refine ok_loop (fun k r => r = (x, nt i, o1 (bM n (go n m w i) k), nt k, I1, J1)) (pts n).length ?_ ?_ 5000 0 _ (by omega) (by omega) rfl
    · rintro k hk r rfl
      have hp := hP k hk
      have hb := pblk6 hn hk
      simp (disch := omega) only [b_X12_into_4, f_X12_into_5, f_X12_into_6, f_X12_into_10, h40, nt_clamp, nt_le, nt_lt, nt_eq, lit_le, lit_lt, le_lit, lt_lit, eq_lit, lit_eq, nt_neg, nt_ge, nt_add, nt_mul, nt_addl, lit_add, nt_mull, lit_mul, nt_sub, nt_subl, lit_sub, nt_divl, nt_m1, nt_m2, nt_m1', nt_m2', if_neg, doesGo_ok hn hm V e17 e18 hM1 (show i < 203 from by omega) (show k < 203 from by omega) (hbo i hi) (hbo k hk), Option.bind_some, bi_0]
      have hlt : ∀ j, bM n (go n m w i) k = some j → j < (pts n).length := fun j hj => by have := bM_lt hj; omega
      have es := bM_s n (go n m w i) k
      revert hlt es
      generalize bM n (go n m w i) k = o
      intro hlt es
      cases eg : go n m w i k with
      | false =>
        rw [if_pos rfl]
        have : stM n (go n m w i) o k = o := by unfold stM; rw [eg]; rfl
        refine ok_some ?_
        show _ = _
        rw [es, this]
      | true =>
        rw [if_neg (by decide)]
        cases o with
        | none =>
          have : stM n (go n m w i) none k = some k := by unfold stM; rw [eg]; rfl
          simp only [f_X12_into_7, o1, Int32.reduceLT, if_true, f_X12_into_9, f_X12_into_10, nt_addl]
          refine ok_some ?_
          show _ = _
          rw [es, this]
        | some j =>
          have hj := hlt j rfl
          have hpj := (hP j hj).2.1
          have hbj := pblk6 hn hj
          simp (disch := omega) only [f_X12_into_7, o1, nt_clamp, nt_le, nt_lt, nt_eq, lit_le, lit_lt, le_lit, lt_lit, eq_lit, lit_eq, nt_neg, nt_ge, nt_add, nt_mul, nt_addl, lit_add, nt_mull, lit_mul, nt_sub, nt_subl, lit_sub, nt_divl, nt_m1, nt_m2, nt_m1', nt_m2', f_X12_into_8, f_X12_into_9, f_X12_into_10, false_or, if_neg, hp.2.1, hpj]
          have est : stM n (go n m w i) (some j) k = if pblk n k ≤ pblk n j then some j else some k := by unfold stM; rw [eg]; rfl
          by_cases c2 : pblk n k ≤ pblk n j
          · rw [if_pos c2]
            refine ok_some ?_
            show _ = _
            rw [es, est, if_pos c2]
          · rw [if_neg c2]
            refine ok_some ?_
            show _ = _
            rw [es, est, if_neg c2]
    · rintro r rfl
      obtain ⟨j, hj⟩ := bM_ex (n := n) (P := go n m w i) (show 0 < (pts n).length from by omega) (go_0 hn V)
      have hjl := bM_lt hj
      rw [hj]
      simp (disch := omega) only [b_X12_into_4, h40, nt_clamp, nt_le, nt_lt, nt_eq, lit_le, lit_lt, le_lit, lt_lit, eq_lit, lit_eq, nt_neg, nt_ge, nt_add, nt_mul, nt_addl, lit_add, nt_mull, lit_mul, nt_sub, nt_subl, lit_sub, nt_divl, nt_m1, nt_m2, nt_m1', nt_m2', if_pos, f_X12_into_11, o1, false_or, if_neg, (hP j hjl).1, Option.map_some]
      exact ok_some ⟨rfl, by rw [hj]; rfl, fun _ => ⟨a1, a2⟩, a3⟩
/-! tails -/
def aal (n p q : Nat) : Bool := al n (fun a => al a (fun b => !(decide (bo n p a = bo n p b) && decide (bo n q a = bo n q b))))
theorem jj_aal {n p q : Nat} (hn : n ≤ 6) : (jno n (pnum n p) &&& jno n (pnum n q) = 0) = (aal n p q = true) := by
  apply propext
  rw [bt_0]
  unfold aal
  rw [al_iff]
  constructor
  · intro h a ha
    rw [al_iff]
    intro b hb
    have el := pX_inv b (by omega) a (by omega) hb
    have hx := pX_lt b (by omega) a (by omega)
    have := h (pX b a) (by omega)
    rw [bt_and, jn_bt (by omega), jn_bt (by omega), decide_eq_true hx, el.1, el.2, decide_eq_true ha] at this
    by_cases c1 : bo n p a = bo n p b
    · by_cases c2 : bo n q a = bo n q b
      · rw [decide_eq_true c1.symm, decide_eq_true c2.symm] at this; cases this
      · rw [decide_eq_false c2, Bool.and_false]; rfl
    · rw [decide_eq_false c1]; rfl
  · intro h k hk
    rw [bt_and, jn_bt hk, jn_bt hk]
    by_cases c15 : k < 15
    · by_cases c : pH k < n
      · have hlh := (pX_lh k c15).2.1
        have := al_iff.mp (h (pH k) c) (pL k) hlh
        by_cases c1 : bo n p (pL k) = bo n p (pH k)
        · by_cases c2 : bo n q (pL k) = bo n q (pH k)
          · rw [decide_eq_true c1.symm, decide_eq_true c2.symm] at this; cases this
          · rw [decide_eq_false c2]; simp
        · rw [decide_eq_false c1]; simp
      · rw [decide_eq_false c]; simp
    · rw [decide_eq_false c15]; simp
/-- the first of fewest blocks -/
def stN (n : Nat) (P : Nat → Bool) (o : Option Nat) (k : Nat) : Option Nat := if P k = true then (match o with
  | none => some k
  | some j => if pblk n j ≤ pblk n k then some j else some k) else o
def bN (n : Nat) (P : Nat → Bool) (k : Nat) : Option Nat := (List.range k).foldl (stN n P) none
theorem bN_s (n : Nat) (P : Nat → Bool) (k : Nat) : bN n P (k + 1) = stN n P (bN n P k) k := by
  unfold bN; rw [List.range_succ, List.foldl_append]; rfl
theorem bN_lt {n : Nat} {P : Nat → Bool} : ∀ {k j : Nat}, bN n P k = some j → j < k := by
  intro k
  induction k with
  | zero => intro j h; cases h
  | succ k ih =>
    intro j h
    rw [bN_s] at h
    unfold stN at h
    split at h
    · split at h
      · cases h; omega
      · rename_i j' e
        have := ih e
        split at h
        · cases h; omega
        · cases h; omega
    · have := ih h; omega
theorem bN_ex {n : Nat} {P : Nat → Bool} {i k : Nat} (hi : i < k) (hP : P i = true) : ∃ j, bN n P k = some j := by
  induction k with
  | zero => omega
  | succ k ih =>
    rw [bN_s]
    unfold stN
    by_cases c : i = k
    · rw [← c, hP, if_pos rfl]
      split
      · exact ⟨_, rfl⟩
      · split <;> exact ⟨_, rfl⟩
    · obtain ⟨j, hj⟩ := ih (by omega)
      rw [hj]
      split
      · dsimp only; split <;> exact ⟨_, rfl⟩
      · exact ⟨j, rfl⟩
theorem bo_last : ∀ n, n < 7 → 0 < n → ∀ a, a < n → bo n ((pts n).length - 1) a = a := by decide +kernel
theorem aal_last {n p : Nat} (hn : n ≤ 6) (hn0 : 0 < n) : aal n p ((pts n).length - 1) = true := by
  unfold aal
  rw [al_iff]; intro a ha
  rw [al_iff]; intro b hb
  rw [bo_last n (by omega) hn0 a ha, bo_last n (by omega) hn0 b (by omega), decide_eq_false (show ¬ a = b from by omega), Bool.and_false]; rfl
/-- what goes behind a partition -/
def tlo (n p : Nat) : Nat := (bN n (aal n p) (pts n).length).getD 0
theorem tlo_ok {n p : Nat} (hn : n ≤ 6) (hp : p < (pts n).length) : bN n (aal n p) (pts n).length = some (tlo n p) ∧ tlo n p < (pts n).length := by
  have hn0 : 0 < n := by
    rcases Nat.eq_zero_or_pos n with c | c
    · subst c; exact absurd hp (by show ¬ p < 0; omega)
    · exact c
  obtain ⟨j, hj⟩ := bN_ex (n := n) (P := aal n p) (show (pts n).length - 1 < (pts n).length from by omega) (aal_last hn hn0)
  have e : tlo n p = j := by unfold tlo; rw [hj]; rfl
  rw [e]
  exact ⟨hj, bN_lt hj⟩
theorem tailOf_ok {n p : Nat} {I : xI} {J : xJ} (hn : n ≤ 6) (hP : cPl n (pts n) I) (hp : p < (pts n).length) : f_X7_tailOf (nt p) I J = some (nt (tlo n p), I, J) := by
  apply Ok.eq
  have hN := pts_len n (by omega)
  have h5 := hP.2.1
  have hpp := cPl_at hP hp
  unfold f_X7_tailOf f_X7_tailOf_0 f_X7_tailOf_1
  refine ok_loop (fun k r => r = (nt p, nt ((bN n (aal n p) k).getD p), nt (((bN n (aal n p) k).map (pblk n)).getD 7), nt k, I, J)) (pts n).length ?_ ?_ 5000 0 _ (by omega) (by omega) rfl
  · rintro k hk r rfl
    have hpk := cPl_at hP hk
    have hb := pblk6 hn hk
    have hlt : ∀ j, bN n (aal n p) k = some j → j < (pts n).length := fun j hj => by have := bN_lt hj; omega
    have hle : ((bN n (aal n p) k).map (pblk n)).getD 7 ≤ 7 := by
      cases e : bN n (aal n p) k with
      | none => exact Nat.le_refl 7
      | some j => have := pblk6 hn (hlt j e); show pblk n j ≤ 7; omega
    have es := bN_s n (aal n p) k
    have ean : (jno n (pnum n k) &&& jno n (pnum n p) = 0) = (aal n p k = true) := by
      rw [← jj_aal hn, Int32.and_comm]
    simp (disch := omega) only [b_X7_tailOf_1, f_X7_tailOf_2, f_X7_tailOf_3, f_X7_tailOf_4, f_X7_tailOf_5, h5, nt_clamp, nt_le, nt_lt, nt_eq, lit_le, lit_lt, le_lit, lt_lit, eq_lit, lit_eq, nt_neg, nt_ge, nt_add, nt_mul, nt_addl, lit_add, nt_mull, lit_mul, nt_sub, nt_subl, lit_sub, nt_divl, nt_m1, nt_m2, nt_m1', nt_m2', false_or, if_neg, hpp.2.2, hpk.2.2, hpk.2.1, ean]
    revert hlt hle es
    generalize bN n (aal n p) k = o
    intro hlt hle es
    cases ea : aal n p k with
    | false =>
      rw [if_neg (by decide)]
      have : stN n (aal n p) o k = o := by unfold stN; rw [ea]; rfl
      refine ok_some ?_
      show _ = _
      rw [es, this]
    | true =>
      rw [if_pos rfl]
      cases o with
      | none =>
        have : stN n (aal n p) none k = some k := by unfold stN; rw [ea]; rfl
        rw [if_neg (by show ¬ 7 ≤ pblk n k; omega)]
        refine ok_some ?_
        show _ = _
        rw [es, this]; rfl
      | some j =>
        have est : stN n (aal n p) (some j) k = if pblk n j ≤ pblk n k then some j else some k := by unfold stN; rw [ea]; rfl
        by_cases c2 : pblk n j ≤ pblk n k
        · rw [if_pos (show ((some j).map (pblk n)).getD 7 ≤ pblk n k from c2)]
          refine ok_some ?_
          show _ = _
          rw [es, est, if_pos c2]
        · rw [if_neg (show ¬ ((some j).map (pblk n)).getD 7 ≤ pblk n k from c2)]
          refine ok_some ?_
          show _ = _
          rw [es, est, if_neg c2]; rfl
  · rintro r rfl
    rw [(tlo_ok hn hp).1]
    simp (disch := omega) only [b_X7_tailOf_1, f_X7_tailOf_6, h5, nt_clamp, nt_le, nt_lt, nt_eq, lit_le, lit_lt, le_lit, lt_lit, eq_lit, lit_eq, nt_neg, nt_ge, nt_add, nt_mul, nt_addl, lit_add, nt_mull, lit_mul, nt_sub, nt_subl, lit_sub, nt_divl, nt_m1, nt_m2, nt_m1', nt_m2', if_true, if_false, if_pos, if_neg, e01, e10, em12, em21, e0m1, e0m2, e1m1, e1m2, em10, em20, Int32.reduceLT, Int32.reduceLE, eq_self, Option.bind_some, Option.map_some, false_or, or_false, or_self, true_or, or_true, not_true_eq_false, not_false_eq_true, false_and, and_false, true_and, and_true]
    exact ok_some rfl
theorem goingIx_ok {n m : Nat} {w : aT} {I : xI} {J : xJ} (hn : n ≤ 6) (V : Vd n m w) (hp : cPa m w (I 32 3) (I 33) (I 34)) (hP : cPl n (pts n) I) (x : Int32) : f_X7_goingIndexOf x I J = some (o1 ((pix n x).filter (fun i => go n m w i i)), I, J) := by
  have hN := pts_len n (by omega)
  simp only [f_X7_goingIndexOf, f_X7_goingIndexOf_0, indexOf_ok hn hP, Option.bind_some]
  cases e : pix n x with
  | none => rfl
  | some i =>
    have hi := pix_lt e
    show f_X7_goingIndexOf_1 x (nt i) I J = _
    simp (disch := omega) only [f_X7_goingIndexOf_1, nt_clamp, nt_le, nt_lt, nt_eq, lit_le, lit_lt, le_lit, lt_lit, eq_lit, lit_eq, nt_neg, nt_ge, nt_add, nt_mul, nt_addl, lit_add, nt_mull, lit_mul, nt_sub, nt_subl, lit_sub, nt_divl, nt_m1, nt_m2, nt_m1', nt_m2', if_false, f_X7_goingIndexOf_2, f_X7_goingIndexOf_3, f_X7_goingIndexOf_4, f_X7_goingIndexOf_5, f_X7_goingIndexOf_6, stays_ok hn V hp hP hi, Option.bind_some, bi_0]
    cases eg : go n m w i i with
    | false => rw [Option.filter_some, eg]; rfl
    | true => rw [Option.filter_some, eg]; rfl
/-- a partition that goes on -/
def gix (n m : Nat) (w : aT) (x : Int32) : Option Nat := (pix n x).filter (fun i => go n m w i i)
theorem gix_ex {n m i : Nat} {w : aT} {x : Int32} (h : gix n m w x = some i) : pix n x = some i ∧ go n m w i i = true ∧ i < (pts n).length := by
  unfold gix at h
  rw [Option.filter_eq_some_iff] at h
  exact ⟨h.1, h.2, pix_lt h.1⟩
def talR (n m : Nat) (w : aT) (x : Int32) : Int32 := match gix n m w x with
  | none => -1
  | some i => nt (pnum n (tlo n i))
theorem ctal_ok {n m : Nat} {w : aT} {I : xI} {J : xJ} (hn : n ≤ 6) (hm : m ≤ 4) (V : Vd n m w) (h : cMa n m w (I 1 0) (I 1 1) (I 2) (I 3) (I 4)) (hA : caA m w I) (hD : caD n m w I) (x : Int32) : Ok (f_X11_tail x I J) (fun o => o.2.2 = J ∧ o.1 = talR n m w x ∧ caA m w o.2.1 ∧ caD n m w o.2.1 ∧ ∀ c j, ¬ tReg c j → o.2.1 c j = I c j) := by
  have hN := pts_len n (by omega)
  unfold f_X11_tail f_X11_tail_0
  apply ok_bind
  refine (partsNow_ok hn hm V h hA hD).imp ?_
  rintro ⟨_, I1, J1⟩ ⟨rfl, cA, cD, a1, a2, a3, a4⟩
  dsimp only at cA cD a1 a2 a3 a4 ⊢
  unfold talR
  simp only [f_X11_tail_1, goingIx_ok hn V a1 a2, Option.bind_some]
  rw [show (pix n x).filter (fun i => go n m w i i) = gix n m w x from rfl]
  cases e : gix n m w x with
  | none => exact ok_some ⟨rfl, rfl, cA, cD, a4⟩
  | some i =>
    have hi := (gix_ex e).2.2
    have ht := (tlo_ok hn hi).2
    show Ok (f_X11_tail_2 x (nt i) I1 J1) _
    simp (disch := omega) only [f_X11_tail_2, nt_clamp, nt_le, nt_lt, nt_eq, lit_le, lit_lt, le_lit, lt_lit, eq_lit, lit_eq, nt_neg, nt_ge, nt_add, nt_mul, nt_addl, lit_add, nt_mull, lit_mul, nt_sub, nt_subl, lit_sub, nt_divl, nt_m1, nt_m2, nt_m1', nt_m2', if_false, f_X11_tail_4, f_X11_tail_5, f_X11_tail_6, tailOf_ok hn a2 hi, Option.bind_some, false_or, if_neg, (cPl_at a2 ht).1]
    exact ok_some ⟨rfl, rfl, cA, cD, a4⟩
theorem areAll_ok {n p q : Nat} {I : xI} {J : xJ} (hn : n ≤ 6) (h0 : I 61 17 = nt n) (hp : p < 203) (hq : q < 203) (hbp : ∀ s, s < 6 → I 85 (6 * p + s) = nt (bo n p s) ∧ bo n p s < 6) (hbq : ∀ s, s < 6 → I 85 (6 * q + s) = nt (bo n q s) ∧ bo n q s < 6) : f_X12_areAll (nt p) (nt q) I J = some (bi (aal n p q), I, J) := by
  apply Ok.eq
  unfold f_X12_areAll f_X12_areAll_0 f_X12_areAll_1
  refine ok_loop (fun a s => (∃ z4, s = (nt p, nt q, nt a, z4, I, J)) ∧ al a (fun a => al a (fun b => !(decide (bo n p a = bo n p b) && decide (bo n q a = bo n q b)))) = true) n ?_ ?_ 5000 0 _ (by omega) (by omega) ⟨⟨none, rfl⟩, rfl⟩
  · rintro a ha s ⟨⟨z4, rfl⟩, hg⟩
    simp (disch := omega) only [b_X12_areAll_1, f_X12_areAll_2, h0, nt_clamp, nt_le, nt_lt, nt_eq, lit_le, lit_lt, le_lit, lt_lit, eq_lit, lit_eq, nt_neg, nt_ge, nt_add, nt_mul, nt_addl, lit_add, nt_mull, lit_mul, nt_sub, nt_subl, lit_sub, nt_divl, nt_m1, nt_m2, nt_m1', nt_m2', if_true, if_false, if_pos, if_neg, e01, e10, em12, em21, e0m1, e0m2, e1m1, e1m2, em10, em20, Int32.reduceLT, Int32.reduceLE, eq_self, Option.bind_some, Option.map_some, false_or, or_false, or_self, true_or, or_true, not_true_eq_false, not_false_eq_true, false_and, and_false, true_and, and_true]
    unfold f_X12_areAll_3
    refine ok_loop (fun b s => s = (nt p, nt q, nt a, nt b, I, J) ∧ al b (fun b => !(decide (bo n p a = bo n p b) && decide (bo n q a = bo n q b))) = true) a ?_ ?_ 5000 0 _ (by omega) (by omega) ⟨rfl, rfl⟩
    · rintro b hb s ⟨rfl, hg2⟩
      have b1 := hbp a (by omega)
      have b2 := hbp b (by omega)
      have b3 := hbq a (by omega)
      have b4 := hbq b (by omega)
      simp (disch := omega) only [b_X12_areAll_3, f_X12_areAll_4, f_X12_areAll_5, f_X12_areAll_7, nt_clamp, nt_le, nt_lt, nt_eq, lit_le, lit_lt, le_lit, lt_lit, eq_lit, lit_eq, nt_neg, nt_ge, nt_add, nt_mul, nt_addl, lit_add, nt_mull, lit_mul, nt_sub, nt_subl, lit_sub, nt_divl, nt_m1, nt_m2, nt_m1', nt_m2', false_or, if_neg, b1.1, b2.1, b3.1, b4.1]
      by_cases c1 : bo n p a = bo n p b
      · rw [if_pos c1]
        by_cases c2 : bo n q a = bo n q b
        · rw [if_pos c2]
          simp only [f_X12_areAll_6, Option.map_some]
          refine ok_some ?_
          have : aal n p q = false := al_false ha (al_false hb (by rw [decide_eq_true c1, decide_eq_true c2]; rfl))
          rw [this]; rfl
        · rw [if_neg c2]
          refine ok_some ⟨rfl, ?_⟩
          rw [al, hg2, decide_eq_false c2, Bool.and_false]; rfl
      · rw [if_neg c1]
        refine ok_some ⟨rfl, ?_⟩
        rw [al, hg2, decide_eq_false c1]; rfl
    · rintro s ⟨rfl, hg2⟩
      simp (disch := omega) only [b_X12_areAll_3, f_X12_areAll_8, nt_clamp, nt_le, nt_lt, nt_eq, lit_le, lit_lt, le_lit, lt_lit, eq_lit, lit_eq, nt_neg, nt_ge, nt_add, nt_mul, nt_addl, lit_add, nt_mull, lit_mul, nt_sub, nt_subl, lit_sub, nt_divl, nt_m1, nt_m2, nt_m1', nt_m2', if_true, if_false, if_pos, if_neg, e01, e10, em12, em21, e0m1, e0m2, e1m1, e1m2, em10, em20, Int32.reduceLT, Int32.reduceLE, eq_self, Option.bind_some, Option.map_some, false_or, or_false, or_self, true_or, or_true, not_true_eq_false, not_false_eq_true, false_and, and_false, true_and, and_true]
      refine ok_some ⟨⟨_, rfl⟩, ?_⟩
      rw [al, hg, hg2]; rfl
  · rintro s ⟨⟨z4, rfl⟩, hg⟩
    simp (disch := omega) only [b_X12_areAll_1, f_X12_areAll_9, h0, nt_clamp, nt_le, nt_lt, nt_eq, lit_le, lit_lt, le_lit, lt_lit, eq_lit, lit_eq, nt_neg, nt_ge, nt_add, nt_mul, nt_addl, lit_add, nt_mull, lit_mul, nt_sub, nt_subl, lit_sub, nt_divl, nt_m1, nt_m2, nt_m1', nt_m2', if_true, if_false, if_pos, if_neg, e01, e10, em12, em21, e0m1, e0m2, e1m1, e1m2, em10, em20, Int32.reduceLT, Int32.reduceLE, eq_self, Option.bind_some, Option.map_some, false_or, or_false, or_self, true_or, or_true, not_true_eq_false, not_false_eq_true, false_and, and_false, true_and, and_true]
    refine ok_some ?_
    rw [show aal n p q = true from hg]; rfl
theorem tailAt_ok {n m p : Nat} {w : aT} {I : xI} {J : xJ} (hn : n ≤ 6) (h0 : I 61 17 = nt n) (h40 : I 61 40 = nt (pts n).length) (hP : rPt n m w (pts n).length (I 82) (I 83) (I 84) (I 85)) (hp : p < (pts n).length) : f_X12_tailAt (nt p) I J = some (nt (tlo n p), I, J) := by
  apply Ok.eq
  have hN := pts_len n (by omega)
  have hbo : ∀ k, k < (pts n).length → ∀ s, s < 6 → I 85 (6 * k + s) = nt (bo n k s) ∧ bo n k s < 6 := fun k hk s hs => ⟨(hP k hk).2.2.2 s hs, (pt_fact hn hk).2.2.1 s hs⟩
  unfold f_X12_tailAt f_X12_tailAt_0 f_X12_tailAt_1
  refine ok_loop (fun k r => r = (nt p, o1 (bN n (aal n p) k), nt k, I, J)) (pts n).length ?_ ?_ 5000 0 _ (by omega) (by omega) rfl
  · rintro k hk r rfl
    have hpk := hP k hk
    have hb := pblk6 hn hk
    have hlt : ∀ j, bN n (aal n p) k = some j → j < (pts n).length := fun j hj => by have := bN_lt hj; omega
    have es := bN_s n (aal n p) k
    simp (disch := omega) only [b_X12_tailAt_1, f_X12_tailAt_2, f_X12_tailAt_3, f_X12_tailAt_7, h40, nt_clamp, nt_le, nt_lt, nt_eq, lit_le, lit_lt, le_lit, lt_lit, eq_lit, lit_eq, nt_neg, nt_ge, nt_add, nt_mul, nt_addl, lit_add, nt_mull, lit_mul, nt_sub, nt_subl, lit_sub, nt_divl, nt_m1, nt_m2, nt_m1', nt_m2', if_neg, areAll_ok hn h0 (show p < 203 from by omega) (show k < 203 from by omega) (hbo p hp) (hbo k hk), Option.bind_some, bi_0]
    revert hlt es
    generalize bN n (aal n p) k = o
    intro hlt es
    cases ea : aal n p k with
    | false =>
      rw [if_pos rfl]
      have : stN n (aal n p) o k = o := by unfold stN; rw [ea]; rfl
      refine ok_some ?_
      show _ = _
      rw [es, this]
    | true =>
      rw [if_neg (by decide)]
      cases o with
      | none =>
        have : stN n (aal n p) none k = some k := by unfold stN; rw [ea]; rfl
        simp only [f_X12_tailAt_4, o1, Int32.reduceLT, if_true, f_X12_tailAt_6, f_X12_tailAt_7, nt_addl]
        refine ok_some ?_
        show _ = _
        rw [es, this]
      | some j =>
        have hj := hlt j rfl
        have hpj := (hP j hj).2.1
        have hbj := pblk6 hn hj
        have est : stN n (aal n p) (some j) k = if pblk n j ≤ pblk n k then some j else some k := by unfold stN; rw [ea]; rfl
        simp (disch := omega) only [f_X12_tailAt_4, o1, nt_clamp, nt_le, nt_lt, nt_eq, lit_le, lit_lt, le_lit, lt_lit, eq_lit, lit_eq, nt_neg, nt_ge, nt_add, nt_mul, nt_addl, lit_add, nt_mull, lit_mul, nt_sub, nt_subl, lit_sub, nt_divl, nt_m1, nt_m2, nt_m1', nt_m2', if_neg, f_X12_tailAt_5, f_X12_tailAt_6, f_X12_tailAt_7, false_or, hpk.2.1, hpj]
        by_cases c2 : pblk n j ≤ pblk n k
        · rw [if_pos c2]
          refine ok_some ?_
          show _ = _
          rw [es, est, if_pos c2]
        · rw [if_neg c2]
          refine ok_some ?_
          show _ = _
          rw [es, est, if_neg c2]
  · rintro r rfl
    rw [(tlo_ok hn hp).1]
    simp (disch := omega) only [b_X12_tailAt_1, f_X12_tailAt_8, h40, nt_clamp, nt_le, nt_lt, nt_eq, lit_le, lit_lt, le_lit, lt_lit, eq_lit, lit_eq, nt_neg, nt_ge, nt_add, nt_mul, nt_addl, lit_add, nt_mull, lit_mul, nt_sub, nt_subl, lit_sub, nt_divl, nt_m1, nt_m2, nt_m1', nt_m2', if_true, if_false, if_pos, if_neg, e01, e10, em12, em21, e0m1, e0m2, e1m1, e1m2, em10, em20, Int32.reduceLT, Int32.reduceLE, eq_self, Option.bind_some, Option.map_some, false_or, or_false, or_self, true_or, or_true, not_true_eq_false, not_false_eq_true, false_and, and_false, true_and, and_true]
    exact ok_some rfl
theorem rtal_ok {n m : Nat} {w : aT} {I : xI} {J : xJ} (hn : n ≤ 6) (hm : m ≤ 4) (V : Vd n m w) (h0 : I 61 17 = nt n) (h1 : I 61 18 = nt m) (h : rMa n m w (I 70) 0) (hc : rCa n m w I) (x : Int32) : Ok (f_X12_tail x I J) (fun o => o.2.2 = J ∧ o.1 = talR n m w x ∧ rCa n m w o.2.1 ∧ ∀ c j, ¬ kReg c j → o.2.1 c j = I c j) := by
  have hN := pts_len n (by omega)
  unfold f_X12_tail f_X12_tail_0
  apply ok_bind
  refine (placeOf_ok hn hm V h0 h1 h hc x).imp ?_
  rintro ⟨_, I1, J1⟩ ⟨rfl, rfl, a1, a2, a3⟩
  dsimp only at a1 a2 a3 ⊢
  unfold talR gix f_X12_tail_1
  cases e : pix n x with
  | none => exact ok_some ⟨rfl, rfl, fun _ => ⟨a1, a2⟩, a3⟩
  | some i =>
    have hi := pix_lt e
    have ht := (tlo_ok hn hi).2
    have e17 : I1 61 17 = nt n := (a3 61 17 (by unfold kReg; omega)).trans h0
    have h40 := a1.2.2.2.2.2.1
    have hP := a1.2.2.2.2.2.2
    show Ok (if nt i < 0 then _ else f_X12_tail_2 x (nt i) I1 J1) _
    rw [if_neg (by rw [nt_neg (by omega)]; exact id), Option.filter_some]
    simp (disch := omega) only [f_X12_tail_2, f_X12_tail_3, f_X12_tail_4, f_X12_tail_5, f_X12_tail_6, nt_clamp, nt_le, nt_lt, nt_eq, lit_le, lit_lt, le_lit, lt_lit, eq_lit, lit_eq, nt_neg, nt_ge, nt_add, nt_mul, nt_addl, lit_add, nt_mull, lit_mul, nt_sub, nt_subl, lit_sub, nt_divl, nt_m1, nt_m2, nt_m1', nt_m2', false_or, if_neg, (hP i hi).2.2.1, bi_0, tailAt_ok hn e17 h40 hP hi, Option.bind_some, (hP _ ht).1]
    cases eg : go n m w i i with
    | false => exact ok_some ⟨rfl, rfl, fun _ => ⟨a1, a2⟩, a3⟩
    | true => exact ok_some ⟨rfl, rfl, fun _ => ⟨a1, a2⟩, a3⟩
