/-! count: unreached, met, blocks; all -/
theorem lm_bt {o : Option Nat} {q : Nat} (ho : ∀ t, o = some t → t < 32) (hq : q < 32) : bt (lm o) q = decide (o = some q) := by
  cases o with
  | none => exact (bt_zero q).trans (decide_eq_false (by intro h; cases h)).symm
  | some t =>
    show bt (1 <<< nt t) q = _
    rw [one_shl (ho t rfl) hq]
    by_cases c : q = t
    · rw [decide_eq_true c, decide_eq_true (by rw [c])]
    · rw [decide_eq_false c, decide_eq_false (by intro h; cases h; exact c rfl)]
theorem ld1_bt {n m : Nat} {w : aT} (hn : n ≤ 6) (V : Vd n m w) {s x q : Nat} (hs : s < n) (hq : q < 32) : bt (ld n w (1 <<< nt s) x) q = decide (w.1 s x = some q) := by
  have hl := lm_bt (o := w.1 s x) (fun t h => by have := (V.1 _ _ _ h).2.2; omega) hq
  rw [← hl]
  unfold ld
  rw [orf_bt]
  cases e : bt (lm (w.1 s x)) q with
  | true =>
    refine ex_iff.mpr ⟨s, hs, ?_⟩
    rw [one_shl (by omega) (by omega), decide_eq_true rfl, if_pos rfl, e]
  | false =>
    refine ex_false.mpr ?_
    intro i hi
    rw [one_shl (by omega) (by omega)]
    by_cases c : i = s
    · rw [decide_eq_true c, if_pos rfl, c, e]
    · rw [decide_eq_false c, if_neg (by decide), bt_zero]
def unx (w : aT) (q s x : Nat) : Bool := decide (w.1 s x = some q) && !decide (q = s)
def unb (n m : Nat) (w : aT) (q : Nat) : Bool := decide (q < n) && !ex n (fun s => ex m (unx w q s))
def unr (n m : Nat) (w : aT) : Nat := mkn 6 (unb n m w)
theorem unr_of {n m : Nat} {w : aT} (hn : n ≤ 6) {y : Int32} (h : ∀ q, q < 32 → bt y q = unb n m w q) : y = nt (unr n m w) := by
  apply bt_ext
  intro q hq
  rw [h q hq, bt_nt, decide_eq_true hq, Bool.true_and, unr, mkn_tb]
  by_cases c : q < 6
  · rw [decide_eq_true c, Bool.true_and]
  · rw [decide_eq_false c, Bool.false_and, unb, decide_eq_false (by omega), Bool.false_and]
theorem cunr_ok {n m : Nat} {w : aT} {I : xI} {J : xJ} (hn : n ≤ 6) (hm : m ≤ 4) (V : Vd n m w) (h : cMa n m w (I 1 0) (I 1 1) (I 2) (I 3) (I 4)) : f_X5_unreached I J = some (nt (unr n m w), I, J) := by
  apply Ok.eq
  unfold f_X5_unreached f_X5_unreached_0 f_X5_unreached_1
  refine ok_loop (fun s t => ∃ y z, t = (y, nt s, z, I, J) ∧ ∀ q, q < 32 → bt y q = ex s (fun s => ex m (unx w q s))) n ?_ ?_ 5000 0 _ (by omega) (by omega) ⟨0, none, rfl, fun q _ => bt_zero q⟩
  · rintro s hs t ⟨y, z, rfl, hy⟩
    simp (disch := omega) only [b_X5_unreached_1, f_X5_unreached_2, h.1, nt_clamp, nt_le, nt_lt, nt_eq, lit_le, lit_lt, le_lit, lt_lit, eq_lit, lit_eq, nt_neg, nt_ge, nt_add, nt_mul, nt_addl, lit_add, nt_mull, lit_mul, nt_sub, nt_subl, lit_sub, nt_divl, nt_m1, nt_m2, nt_m1', nt_m2', if_neg]
    unfold f_X5_unreached_3
    refine ok_loop (fun x t => ∃ y, t = (y, nt s, nt x, I, J) ∧ ∀ q, q < 32 → bt y q = (ex s (fun s => ex m (unx w q s)) || ex x (unx w q s))) m ?_ ?_ 5000 0 _ (by omega) (by omega) ⟨y, rfl, fun q hq => by rw [hy q hq]; exact (Bool.or_false _).symm⟩
    · rintro x hx t ⟨y, rfl, hy⟩
      simp (disch := omega) only [b_X5_unreached_3, f_X5_unreached_4, f_X5_unreached_5, h.2.1, nt_clamp, nt_le, nt_lt, nt_eq, lit_le, lit_lt, le_lit, lt_lit, eq_lit, lit_eq, nt_neg, nt_ge, nt_add, nt_mul, nt_addl, lit_add, nt_mull, lit_mul, nt_sub, nt_subl, lit_sub, nt_divl, nt_m1, nt_m2, nt_m1', nt_m2', if_neg, nt_31, leadOf_ok hn hm V h, Option.bind_some]
      refine ok_some ⟨_, rfl, ?_⟩
      intro q hq
      rw [bt_or, bt_and, bt_xor, m1_bt hq, one_shl (by omega) hq, ld1_bt hn V hs hq, hy q hq, Bool.xor_true, Bool.or_assoc]
      rfl
    · rintro t ⟨y, rfl, hy⟩
      simp (disch := omega) only [b_X5_unreached_3, f_X5_unreached_6, h.2.1, nt_clamp, nt_le, nt_lt, nt_eq, lit_le, lit_lt, le_lit, lt_lit, eq_lit, lit_eq, nt_neg, nt_ge, nt_add, nt_mul, nt_addl, lit_add, nt_mull, lit_mul, nt_sub, nt_subl, lit_sub, nt_divl, nt_m1, nt_m2, nt_m1', nt_m2', if_pos, Option.map_some]
      exact ok_some ⟨_, _, rfl, hy⟩
  · rintro t ⟨y, z, rfl, hy⟩
    simp (disch := omega) only [b_X5_unreached_1, f_X5_unreached_7, h.1, nt_clamp, nt_le, nt_lt, nt_eq, lit_le, lit_lt, le_lit, lt_lit, eq_lit, lit_eq, nt_neg, nt_ge, nt_add, nt_mul, nt_addl, lit_add, nt_mull, lit_mul, nt_sub, nt_subl, lit_sub, nt_divl, nt_m1, nt_m2, nt_m1', nt_m2', if_pos, Option.map_some, nt_31]
    refine ok_some ?_
    show (_, _, _) = (_, _, _)
    rw [← unr_of hn (y := (1 <<< nt n - 1) &&& (y ^^^ -1)) ?_]
    intro q hq
    rw [shl_nt n (by omega), nt_m1s (pow_pos2 n), bt_and, bt_xor, bt_nt, m1_bt hq, hy q hq, decide_eq_true hq, Bool.true_and, Nat.testBit_two_pow_sub_one, Bool.xor_true]
    rfl
theorem runr_ok {n m : Nat} {w : aT} {I : xI} {J : xJ} (hn : n ≤ 6) (hm : m ≤ 4) (V : Vd n m w) (h0 : I 61 17 = nt n) (h1 : I 61 18 = nt m) (h : rMa n m w (I 70) 0) : f_X12_unreached I J = some (nt (unr n m w), I, J) := by
  apply Ok.eq
  unfold f_X12_unreached f_X12_unreached_0 f_X12_unreached_1
  refine ok_loop (fun s t => ∃ y z, t = (y, nt s, z, I, J) ∧ ∀ q, q < 32 → bt y q = (decide (q < n) && !ex s (fun s => ex m (unx w q s)))) n ?_ ?_ 5000 0 _ (by omega) (by omega) ⟨_, none, rfl, ?_⟩
  · rintro s hs t ⟨y, z, rfl, hy⟩
    simp (disch := omega) only [b_X12_unreached_1, f_X12_unreached_2, h0, nt_clamp, nt_le, nt_lt, nt_eq, lit_le, lit_lt, le_lit, lt_lit, eq_lit, lit_eq, nt_neg, nt_ge, nt_add, nt_mul, nt_addl, lit_add, nt_mull, lit_mul, nt_sub, nt_subl, lit_sub, nt_divl, nt_m1, nt_m2, nt_m1', nt_m2', if_neg]
    unfold f_X12_unreached_3
    refine ok_loop (fun x t => ∃ y, t = (y, nt s, nt x, I, J) ∧ ∀ q, q < 32 → bt y q = (decide (q < n) && !(ex s (fun s => ex m (unx w q s)) || ex x (unx w q s)))) m ?_ ?_ 5000 0 _ (by omega) (by omega) ⟨y, rfl, fun q hq => by rw [hy q hq]; show _ = (_ && !(_ || false)); rw [Bool.or_false]⟩
    · rintro x hx t ⟨y, rfl, hy⟩
      simp (disch := omega) only [b_X12_unreached_3, f_X12_unreached_4, f_X12_unreached_5, h1, nt_clamp, nt_le, nt_lt, nt_eq, lit_le, lit_lt, le_lit, lt_lit, eq_lit, lit_eq, nt_neg, nt_ge, nt_add, nt_mul, nt_addl, lit_add, nt_mull, lit_mul, nt_sub, nt_subl, lit_sub, nt_divl, nt_m1, nt_m2, nt_m1', nt_m2', if_neg, to_ok hn hm h hs hx, Option.bind_some]
      cases e : w.1 s x with
      | none =>
        simp only [ov_n, Int32.reduceLT, if_true, f_X12_unreached_10, nt_addl]
        refine ok_some ⟨_, rfl, ?_⟩
        intro q hq
        rw [hy q hq]
        show _ = (_ && !(_ || (_ || unx w q s x)))
        rw [unx, e, decide_eq_false (show ¬ none = some q from by intro h; cases h), Bool.false_and, Bool.or_false]
      | some t =>
        have ht := (V.1 _ _ _ e).2.2
        simp (disch := omega) only [ov_s, nt_clamp, nt_le, nt_lt, nt_eq, lit_le, lit_lt, le_lit, lt_lit, eq_lit, lit_eq, nt_neg, nt_ge, nt_add, nt_mul, nt_addl, lit_add, nt_mull, lit_mul, nt_sub, nt_subl, lit_sub, nt_divl, nt_m1, nt_m2, nt_m1', nt_m2', if_false, f_X12_unreached_6, f_X12_unreached_7, to_ok hn hm h hs hx, Option.bind_some, e]
        by_cases c : t = s
        · rw [if_pos c]
          simp only [f_X12_unreached_10, nt_addl]
          refine ok_some ⟨_, rfl, ?_⟩
          intro q hq
          rw [hy q hq]
          show _ = (_ && !(_ || (_ || unx w q s x)))
          have : unx w q s x = false := by
            rw [unx, e]
            by_cases c2 : q = s
            · rw [decide_eq_true c2]; exact Bool.and_false _
            · rw [decide_eq_false (show ¬ some t = some q from by intro h; cases h; exact c2 c), Bool.false_and]
          rw [this, Bool.or_false]
        · rw [if_neg c]
          simp (disch := omega) only [f_X12_unreached_8, f_X12_unreached_9, f_X12_unreached_10, to_ok hn hm h hs hx, Option.bind_some, e, ov_s, nt_31, nt_addl]
          refine ok_some ⟨_, rfl, ?_⟩
          intro q hq
          rw [bt_and, bt_xor, m1_bt hq, one_shl (by omega) hq, hy q hq, Bool.xor_true]
          show _ = (_ && !(_ || (_ || unx w q s x)))
          have : unx w q s x = decide (q = t) := by
            rw [unx, e]
            by_cases c2 : q = t
            · rw [decide_eq_true c2, decide_eq_true (show some t = some q from by rw [c2]), decide_eq_false (show ¬ q = s from by omega)]; rfl
            · rw [decide_eq_false c2, decide_eq_false (show ¬ some t = some q from by intro h; cases h; exact c2 rfl), Bool.false_and]
          rw [this]
          generalize decide (q < n) = b1
          generalize ex s (fun s => ex m (unx w q s)) = b2
          generalize ex x (unx w q s) = b3
          generalize decide (q = t) = b4
          cases b1 <;> cases b2 <;> cases b3 <;> cases b4 <;> rfl
    · rintro t ⟨y, rfl, hy⟩
      simp (disch := omega) only [b_X12_unreached_3, f_X12_unreached_11, h1, nt_clamp, nt_le, nt_lt, nt_eq, lit_le, lit_lt, le_lit, lt_lit, eq_lit, lit_eq, nt_neg, nt_ge, nt_add, nt_mul, nt_addl, lit_add, nt_mull, lit_mul, nt_sub, nt_subl, lit_sub, nt_divl, nt_m1, nt_m2, nt_m1', nt_m2', if_pos, Option.map_some]
      exact ok_some ⟨_, _, rfl, hy⟩
  · rintro t ⟨y, z, rfl, hy⟩
    simp (disch := omega) only [b_X12_unreached_1, f_X12_unreached_12, h0, nt_clamp, nt_le, nt_lt, nt_eq, lit_le, lit_lt, le_lit, lt_lit, eq_lit, lit_eq, nt_neg, nt_ge, nt_add, nt_mul, nt_addl, lit_add, nt_mull, lit_mul, nt_sub, nt_subl, lit_sub, nt_divl, nt_m1, nt_m2, nt_m1', nt_m2', if_pos, Option.map_some]
    refine ok_some ?_
    show (_, _, _) = (_, _, _)
    rw [unr_of hn (y := y) hy]
  · intro q hq
    rw [h0, nt_31 n (by omega), shl_nt n (by omega), nt_m1s (pow_pos2 n), bt_nt, decide_eq_true hq, Bool.true_and, Nat.testBit_two_pow_sub_one]
    show _ = (_ && !false)
    exact (Bool.and_true _).symm
/-- the sets that states are met by, counted -/
noncomputable def mtN (n m : Nat) (w : aT) (s : Nat) : Nat := mkn 6 (fun c => decide (c < fk n m w) && bt (fs n m w c) s)
theorem mt_nt {n m : Nat} {w : aT} (hn : n ≤ 6) (hf : fOk n m w) (s : Nat) : mt n m w s = nt (mtN n m w s) := by
  apply bt_ext
  intro c hc
  have hk := hf.1
  rw [mt_bt hn hf hc, bt_nt, decide_eq_true hc, Bool.true_and, mtN, mkn_tb]
  by_cases c6 : c < 6
  · rw [decide_eq_true c6, Bool.true_and]
  · rw [decide_eq_false c6, Bool.false_and, decide_eq_false (by omega), Bool.false_and]
noncomputable def mtc (n m : Nat) (w : aT) (k : Nat) : Nat := ssum k (fun s => pcn (mtN n m w s))
theorem cmtc_ok {n m : Nat} {w : aT} {I : xI} {J : xJ} (hn : n ≤ 6) (h : I 1 0 = nt n) (hf : cFw n m w (I 36 12) (I 42)) : f_X1_metCount I J = some (nt (mtc n m w n), I, J) := by
  apply Ok.eq
  unfold f_X1_metCount f_X1_metCount_0 f_X1_metCount_1
  refine ok_loop (fun s t => t = (nt (mtc n m w s), nt s, I, J)) n ?_ ?_ 5000 0 _ (by omega) (by omega) rfl
  · rintro s hs t rfl
    have h64 : mtN n m w s < 64 := mkn_lt 6 _
    simp (disch := omega) only [b_X1_metCount_1, f_X1_metCount_2, f_X1_metCount_3, f_X1_metCount_4, h, nt_clamp, nt_le, nt_lt, nt_eq, lit_le, lit_lt, le_lit, lt_lit, eq_lit, lit_eq, nt_neg, nt_ge, nt_add, nt_mul, nt_addl, lit_add, nt_mull, lit_mul, nt_sub, nt_subl, lit_sub, nt_divl, nt_m1, nt_m2, nt_m1', nt_m2', if_neg, metBy_ok hn hf, Option.bind_some, mt_nt hn hf.1, bitCount_ok, bcf_64 _ h64]
    exact ok_some rfl
  · rintro t rfl
    simp (disch := omega) only [b_X1_metCount_1, f_X1_metCount_5, h, nt_clamp, nt_le, nt_lt, nt_eq, lit_le, lit_lt, le_lit, lt_lit, eq_lit, lit_eq, nt_neg, nt_ge, nt_add, nt_mul, nt_addl, lit_add, nt_mull, lit_mul, nt_sub, nt_subl, lit_sub, nt_divl, nt_m1, nt_m2, nt_m1', nt_m2', if_pos, Option.map_some]
    exact ok_some rfl
theorem rmtc_ok {n m : Nat} {w : aT} {I : xI} {J : xJ} (hn : n ≤ 6) (h0 : I 61 17 = nt n) (hf : fOk n m w) (h81 : ∀ s, s < n → I 81 s = mt n m w s) (x1 : Int32) : f_X12_count_47 x1 0 I J = some (nt (mtc n m w n), I, J) := by
  apply Ok.eq
  unfold f_X12_count_47 f_X12_count_48
  refine ok_loop (fun s t => t = (x1, nt (mtc n m w s), nt s, I, J)) n ?_ ?_ 5000 0 _ (by omega) (by omega) rfl
  · rintro s hs t rfl
    have h64 : mtN n m w s < 64 := mkn_lt 6 _
    simp (disch := omega) only [b_X12_count_48, f_X12_count_49, f_X12_count_50, h0, nt_clamp, nt_le, nt_lt, nt_eq, lit_le, lit_lt, le_lit, lt_lit, eq_lit, lit_eq, nt_neg, nt_ge, nt_add, nt_mul, nt_addl, lit_add, nt_mull, lit_mul, nt_sub, nt_subl, lit_sub, nt_divl, nt_m1, nt_m2, nt_m1', nt_m2', false_or, if_neg, h81 s hs, mt_nt hn hf, bitsOf_ok _ h64, Option.bind_some]
    exact ok_some rfl
  · rintro t rfl
    simp (disch := omega) only [b_X12_count_48, f_X12_count_51, h0, nt_clamp, nt_le, nt_lt, nt_eq, lit_le, lit_lt, le_lit, lt_lit, eq_lit, lit_eq, nt_neg, nt_ge, nt_add, nt_mul, nt_addl, lit_add, nt_mull, lit_mul, nt_sub, nt_subl, lit_sub, nt_divl, nt_m1, nt_m2, nt_m1', nt_m2', if_pos, Option.map_some]
    exact ok_some rfl
/-- the fewest blocks of a partition that goes on -/
def stL (n : Nat) (o : Option Nat) (k : Nat) : Option Nat := if pblk n k ≤ 1 then o else match o with
  | none => some (pblk n k)
  | some v => if v ≤ pblk n k then some v else some (pblk n k)
def lbk (n : Nat) (G : Nat → Bool) : Nat → Option Nat
  | 0 => none
  | k + 1 => if G k = true then stL n (lbk n G k) k else lbk n G k
theorem lbk_s (n : Nat) (G : Nat → Bool) (k : Nat) : lbk n G (k + 1) = if G k = true then stL n (lbk n G k) k else lbk n G k := rfl
theorem lbk_fl (n : Nat) (G : Nat → Bool) (k : Nat) : (fl G k).foldl (stL n) none = lbk n G k := by
  induction k with
  | zero => rfl
  | succ k ih =>
    rw [lbk_s]
    cases e : G k with
    | true => rw [fl_t e, List.foldl_append, ih, if_pos rfl]; rfl
    | false => rw [fl_f e, ih, if_neg (by decide)]
theorem clb_ok {n m : Nat} {w : aT} {I : xI} {J : xJ} (hn : n ≤ 6) (hP : cPl n (pts n) I) (hG : cGo n m w (I 43 8) (I 47)) : f_X7_leastBlocks I J = some (ov (lbk n (gii n m w) (pts n).length), I, J) := by
  apply Ok.eq
  have hN := pts_len n (by omega)
  have hgl : (gol n m w).length ≤ (pts n).length := fl_le
  obtain ⟨h8, h47⟩ := hG
  unfold f_X7_leastBlocks f_X7_leastBlocks_0 f_X7_leastBlocks_1
  refine ok_loop (fun i r => ∃ z, r = (ov (((gol n m w).take i).foldl (stL n) none), nt i, z, I, J) ∧ ∀ j, ((gol n m w).take i).foldl (stL n) none = some j → j ≤ 6) (gol n m w).length ?_ ?_ 5000 0 _ (by omega) (by omega) ⟨none, rfl, fun j hj => (by cases hj)⟩
  · rintro i hi r ⟨z, rfl, hlt⟩
    obtain ⟨k, hk, hkN⟩ := gol_at hi
    have e47 := h47 i k hk
    have hp := cPl_at hP hkN
    have hb := pblk6 hn hkN
    have etk : ((gol n m w).take (i + 1)).foldl (stL n) none = stL n (((gol n m w).take i).foldl (stL n) none) k := by
      rw [List.take_succ, hk, List.foldl_append]; rfl
    simp (disch := omega) only [b_X7_leastBlocks_1, f_X7_leastBlocks_2, h8, nt_clamp, nt_le, nt_lt, nt_eq, lit_le, lit_lt, le_lit, lt_lit, eq_lit, lit_eq, nt_neg, nt_ge, nt_add, nt_mul, nt_addl, lit_add, nt_mull, lit_mul, nt_sub, nt_subl, lit_sub, nt_divl, nt_m1, nt_m2, nt_m1', nt_m2', false_or, if_neg, e47, hp.2.1]
    rw [etk]
    revert hlt
    generalize ((gol n m w).take i).foldl (stL n) none = o
    intro hlt
    by_cases c : pblk n k ≤ 1
    · have : stL n o k = o := if_pos c
      rw [if_pos c, this]
      simp only [f_X7_leastBlocks_6, nt_addl]
      exact ok_some ⟨_, rfl, hlt⟩
    · rw [if_neg c]
      cases o with
      | none =>
        have : stL n none k = some (pblk n k) := if_neg c
        rw [this]
        simp only [f_X7_leastBlocks_3, ov_n, if_true, f_X7_leastBlocks_5, f_X7_leastBlocks_6, nt_addl]
        exact ok_some ⟨_, rfl, fun j hj => by cases hj; exact hb⟩
      | some v =>
        have hv := hlt v rfl
        have : stL n (some v) k = if v ≤ pblk n k then some v else some (pblk n k) := if_neg c
        rw [this]
        simp (disch := omega) only [f_X7_leastBlocks_3, ov_s, nt_clamp, nt_le, nt_lt, nt_eq, lit_le, lit_lt, le_lit, lt_lit, eq_lit, lit_eq, nt_neg, nt_ge, nt_add, nt_mul, nt_addl, lit_add, nt_mull, lit_mul, nt_sub, nt_subl, lit_sub, nt_divl, nt_m1, nt_m2, nt_m1', nt_m2', if_false, f_X7_leastBlocks_4]
        by_cases c2 : v ≤ pblk n k
        · rw [if_pos c2, if_pos c2]
          simp only [f_X7_leastBlocks_6, nt_addl]
          exact ok_some ⟨_, rfl, fun j hj => by cases hj; exact hv⟩
        · rw [if_neg c2, if_neg c2]
          simp only [f_X7_leastBlocks_5, f_X7_leastBlocks_6, nt_addl]
          exact ok_some ⟨_, rfl, fun j hj => by cases hj; exact hb⟩
  · rintro r ⟨z, rfl, hlt⟩
    rw [List.take_length, show (gol n m w).foldl (stL n) none = lbk n (gii n m w) (pts n).length from lbk_fl _ _ _]
    simp (disch := omega) only [b_X7_leastBlocks_1, h8, nt_clamp, nt_le, nt_lt, nt_eq, lit_le, lit_lt, le_lit, lt_lit, eq_lit, lit_eq, nt_neg, nt_ge, nt_add, nt_mul, nt_addl, lit_add, nt_mull, lit_mul, nt_sub, nt_subl, lit_sub, nt_divl, nt_m1, nt_m2, nt_m1', nt_m2', if_pos, f_X7_leastBlocks_7, Option.map_some]
    exact ok_some rfl
theorem rlb_ok {n m : Nat} {w : aT} {I : xI} {J : xJ} (hn : n ≤ 6) (h40 : I 61 40 = nt (pts n).length) (hP : rPt n m w (pts n).length (I 82) (I 83) (I 84) (I 85)) (x1 : Int32) : f_X12_count_52 x1 0 I J = some (ov (lbk n (gii n m w) (pts n).length), I, J) := by
  apply Ok.eq
  have hN := pts_len n (by omega)
  unfold f_X12_count_52 f_X12_count_53
  refine ok_loop (fun i t => t = (x1, ov (lbk n (gii n m w) i), nt i, I, J) ∧ ∀ j, lbk n (gii n m w) i = some j → j ≤ 6) (pts n).length ?_ ?_ 5000 0 _ (by omega) (by omega) ⟨rfl, fun j hj => (by cases hj)⟩
  · rintro k hk t ⟨rfl, hlt⟩
    have hp := hP k hk
    have hb := pblk6 hn hk
    simp (disch := omega) only [b_X12_count_53, f_X12_count_54, h40, nt_clamp, nt_le, nt_lt, nt_eq, lit_le, lit_lt, le_lit, lt_lit, eq_lit, lit_eq, nt_neg, nt_ge, nt_add, nt_mul, nt_addl, lit_add, nt_mull, lit_mul, nt_sub, nt_subl, lit_sub, nt_divl, nt_m1, nt_m2, nt_m1', nt_m2', false_or, if_neg, hp.2.2.1, bi_0, lbk_s]
    revert hlt
    generalize lbk n (gii n m w) k = o
    intro hlt
    cases e : go n m w k k with
    | false =>
      rw [if_pos rfl]
      have e2 : gii n m w k = false := e
      simp only [f_X12_count_59, nt_addl, e2, Bool.false_eq_true, if_false]
      exact ok_some ⟨rfl, hlt⟩
    | true =>
      rw [if_neg (by decide)]
      have e2 : gii n m w k = true := e
      simp (disch := omega) only [f_X12_count_55, nt_clamp, nt_le, nt_lt, nt_eq, lit_le, lit_lt, le_lit, lt_lit, eq_lit, lit_eq, nt_neg, nt_ge, nt_add, nt_mul, nt_addl, lit_add, nt_mull, lit_mul, nt_sub, nt_subl, lit_sub, nt_divl, nt_m1, nt_m2, nt_m1', nt_m2', false_or, if_neg, hp.2.1, e2, if_true]
      by_cases c : pblk n k ≤ 1
      · have : stL n o k = o := if_pos c
        rw [if_pos c, this]
        simp only [f_X12_count_59, nt_addl]
        exact ok_some ⟨rfl, hlt⟩
      · rw [if_neg c]
        cases o with
        | none =>
          have : stL n none k = some (pblk n k) := if_neg c
          rw [this]
          simp (disch := omega) only [f_X12_count_56, ov_n, Int32.reduceLT, if_true, f_X12_count_58, f_X12_count_59, nt_clamp, nt_le, nt_lt, nt_eq, lit_le, lit_lt, le_lit, lt_lit, eq_lit, lit_eq, nt_neg, nt_ge, nt_add, nt_mul, nt_addl, lit_add, nt_mull, lit_mul, nt_sub, nt_subl, lit_sub, nt_divl, nt_m1, nt_m2, nt_m1', nt_m2', false_or, if_neg, hp.2.1]
          exact ok_some ⟨rfl, fun j hj => by cases hj; exact hb⟩
        | some v =>
          have hv := hlt v rfl
          have : stL n (some v) k = if v ≤ pblk n k then some v else some (pblk n k) := if_neg c
          rw [this]
          simp (disch := omega) only [f_X12_count_56, ov_s, nt_clamp, nt_le, nt_lt, nt_eq, lit_le, lit_lt, le_lit, lt_lit, eq_lit, lit_eq, nt_neg, nt_ge, nt_add, nt_mul, nt_addl, lit_add, nt_mull, lit_mul, nt_sub, nt_subl, lit_sub, nt_divl, nt_m1, nt_m2, nt_m1', nt_m2', if_false, f_X12_count_57, false_or, if_neg, hp.2.1]
          by_cases c2 : v ≤ pblk n k
          · rw [if_pos c2, if_pos c2]
            simp only [f_X12_count_59, nt_addl]
            exact ok_some ⟨rfl, fun j hj => by cases hj; exact hv⟩
          · rw [if_neg c2, if_neg c2]
            simp (disch := omega) only [f_X12_count_58, f_X12_count_59, nt_clamp, nt_le, nt_lt, nt_eq, lit_le, lit_lt, le_lit, lt_lit, eq_lit, lit_eq, nt_neg, nt_ge, nt_add, nt_mul, nt_addl, lit_add, nt_mull, lit_mul, nt_sub, nt_subl, lit_sub, nt_divl, nt_m1, nt_m2, nt_m1', nt_m2', false_or, if_neg, hp.2.1]
            exact ok_some ⟨rfl, fun j hj => by cases hj; exact hb⟩
  · rintro t ⟨rfl, hlt⟩
    simp (disch := omega) only [b_X12_count_53, f_X12_count_60, h40, nt_clamp, nt_le, nt_lt, nt_eq, lit_le, lit_lt, le_lit, lt_lit, eq_lit, lit_eq, nt_neg, nt_ge, nt_add, nt_mul, nt_addl, lit_add, nt_mull, lit_mul, nt_sub, nt_subl, lit_sub, nt_divl, nt_m1, nt_m2, nt_m1', nt_m2', if_pos, Option.map_some]
    exact ok_some rfl
