/-! the small machine, and who is met -/
noncomputable def smo (n m : Nat) (w : aT) (c x : Nat) : Option Nat := if ld n w (fs n m w c) x = 0 then none else ff (fk n m w) (fun i => sub (ld n w (fs n m w c) x) (fs n m w i))
theorem smo_some {n m : Nat} {w : aT} {c x j : Nat} (h : smo n m w c x = some j) : j < fk n m w ∧ sub (ld n w (fs n m w c) x) (fs n m w j) = true := by
  unfold smo at h
  split at h
  · cases h
  · have := ff_some.mp h
    exact ⟨this.1, this.2.1⟩
theorem smo_ne {n m : Nat} {w : aT} (hf : fOk n m w) {c x : Nat} (hc : c < fk n m w) (hx : x < m) (h0 : ¬ ld n w (fs n m w c) x = 0) : o1 (ff (fk n m w) (fun i => sub (ld n w (fs n m w c) x) (fs n m w i))) = ov (smo n m w c x) := by
  unfold smo
  rw [if_neg h0]
  obtain ⟨j, hj, hs⟩ := fs_led hf hc hx
  cases e : ff (fk n m w) (fun i => sub (ld n w (fs n m w c) x) (fs n m w i)) with
  | some i => rfl
  | none => have := ff_none.mp e j hj; rw [hs] at this; cases this
theorem ff_congr {k : Nat} {p q : Nat → Bool} (h : ∀ i, i < k → p i = q i) : ff k p = ff k q := by
  induction k with
  | zero => rfl
  | succ k ih => unfold ff; rw [ih (fun i hi => h i (by omega)), h k (by omega)]
theorem smallTo_ok {n m : Nat} {w : aT} {I : xI} {J : xJ} (hn : n ≤ 6) (hm : m ≤ 4) (V : Vd n m w) (h0 : I 61 17 = nt n) (h : rMa n m w (I 70) 0) (hf : cFw n m w (I 61 37) (I 79)) {c x : Nat} (hc : c < fk n m w) (hx : x < m) : f_X12_smallTo (nt c) (nt x) I J = some (ov (smo n m w c x), I, J) := by
  obtain ⟨hO, h37, h79⟩ := hf
  have hk := hO.1
  simp (disch := omega) only [f_X12_smallTo, f_X12_smallTo_0, f_X12_smallTo_1, f_X12_smallTo_2, f_X12_smallTo_3, f_X12_smallTo_4, nt_clamp, nt_le, nt_lt, nt_eq, lit_le, lit_lt, le_lit, lt_lit, eq_lit, lit_eq, nt_neg, nt_ge, nt_add, nt_mul, nt_addl, lit_add, nt_mull, lit_mul, nt_sub, nt_subl, lit_sub, nt_divl, nt_m1, nt_m2, nt_m1', nt_m2', false_or, if_neg, h79 c hc, ledTo_ok hn hm V h0 h, Option.bind_some, firstWith_ok (show fk n m w ≤ 6 from by omega) h37]
  by_cases h00 : ld n w (fs n m w c) x = 0
  · rw [if_pos h00]
    unfold smo; rw [if_pos h00]; rfl
  · rw [if_neg h00, ff_congr (q := fun i => sub (ld n w (fs n m w c) x) (fs n m w i)) (fun i hi => by rw [h79 i hi]), smo_ne hO hc hx h00]
theorem hasFewest_ok {k : Nat} {I : xI} {J : xJ} (hk : k < 2147483648) (h : I 36 12 = nt k) (x : Int32) : f_X1_hasFewest x I J = some (bi (isS k x), I, J) := by
  rcases nt_all x with hx | ⟨i, hi, rfl⟩
  · rw [isS_neg hx]
    simp only [f_X1_hasFewest_4, f_X1_hasFewest_3, f_X1_hasFewest_2, f_X1_hasFewest_1, f_X1_hasFewest_0, f_X1_hasFewest, if_pos hx]
    rfl
  · rw [isS_nt hk hi]
    simp (disch := omega) only [f_X1_hasFewest_4, f_X1_hasFewest_3, f_X1_hasFewest_2, f_X1_hasFewest_1, f_X1_hasFewest_0, f_X1_hasFewest, nt_clamp, nt_le, nt_lt, nt_eq, lit_le, lit_lt, le_lit, lt_lit, eq_lit, lit_eq, nt_neg, nt_ge, nt_add, nt_mul, nt_addl, lit_add, nt_mull, lit_mul, nt_sub, nt_subl, lit_sub, nt_divl, nt_m1, nt_m2, nt_m1', nt_m2', h, if_true, if_false, if_pos, if_neg, e01, e10, em12, em21, e0m1, e0m2, e1m1, e1m2, em10, em20, Int32.reduceLT, Int32.reduceLE, eq_self, Option.bind_some, Option.map_some, false_or, or_false, or_self, true_or, or_true, not_true_eq_false, not_false_eq_true, false_and, and_false, true_and, and_true]
    by_cases hc : k ≤ i
    · rw [if_pos hc, decide_eq_false (by omega)]; rfl
    · rw [if_neg hc, decide_eq_true (by omega)]; rfl
theorem firstHolding_ok {k : Nat} {I : xI} {J : xJ} (hk : k ≤ 6) (h : I 36 12 = nt k) (x : Int32) : f_X1_firstHolding x I J = some (o1 (ff k (fun i => sub x (I 42 i))), I, J) := by
  apply Ok.eq
  unfold f_X1_firstHolding f_X1_firstHolding_0 f_X1_firstHolding_1
  refine ok_loop (fun i s => s = (x, nt i, I, J) ∧ ∀ j, j < i → sub x (I 42 j) = false) k ?_ ?_ 5000 0 _ (by omega) (by omega) ⟨rfl, fun j hj => absurd hj (by omega)⟩
  · rintro i hi s ⟨rfl, hg⟩
    simp (disch := omega) only [b_X1_firstHolding_1, f_X1_firstHolding_2, f_X1_firstHolding_4, h, nt_clamp, nt_le, nt_lt, nt_eq, lit_le, lit_lt, le_lit, lt_lit, eq_lit, lit_eq, nt_neg, nt_ge, nt_add, nt_mul, nt_addl, lit_add, nt_mull, lit_mul, nt_sub, nt_subl, lit_sub, nt_divl, nt_m1, nt_m2, nt_m1', nt_m2', false_or, if_neg, sub_def]
    cases e : sub x (I 42 i) with
    | true =>
      simp only [if_true, f_X1_firstHolding_3, Option.map_some]
      refine ok_some ?_
      rw [ff_some.mpr ⟨hi, e, hg⟩]; rfl
    | false =>
      simp only [Bool.false_eq_true, if_false]
      refine ok_some ⟨rfl, ?_⟩
      intro j hj
      by_cases c : j = i
      · rw [c]; exact e
      · exact hg j (by omega)
  · rintro s ⟨rfl, hg⟩
    simp (disch := omega) only [b_X1_firstHolding_1, f_X1_firstHolding_5, h, nt_clamp, nt_le, nt_lt, nt_eq, lit_le, lit_lt, le_lit, lt_lit, eq_lit, lit_eq, nt_neg, nt_ge, nt_add, nt_mul, nt_addl, lit_add, nt_mull, lit_mul, nt_sub, nt_subl, lit_sub, nt_divl, nt_m1, nt_m2, nt_m1', nt_m2', if_true, if_false, if_pos, if_neg, e01, e10, em12, em21, e0m1, e0m2, e1m1, e1m2, em10, em20, Int32.reduceLT, Int32.reduceLE, eq_self, Option.bind_some, Option.map_some, false_or, or_false, or_self, true_or, or_true, not_true_eq_false, not_false_eq_true, false_and, and_false, true_and, and_true]
    refine ok_some ?_
    rw [ff_none.mpr hg]; rfl
theorem smallTarget_ok {n m : Nat} {w : aT} {I : xI} {J : xJ} (hn : n ≤ 6) (hm : m ≤ 4) (V : Vd n m w) (h : cMa n m w (I 1 0) (I 1 1) (I 2) (I 3) (I 4)) (hf : cFw n m w (I 36 12) (I 42)) {c x : Nat} (hc : c < fk n m w) (hx : x < m) : f_X1_smallTarget (nt c) (nt x) I J = some (ov (smo n m w c x), I, J) := by
  obtain ⟨hO, h37, h79⟩ := hf
  have hk := hO.1
  simp (disch := omega) only [f_X1_smallTarget, f_X1_smallTarget_0, f_X1_smallTarget_1, hasFewest_ok (show fk n m w < 2147483648 from by omega) h37, isS_nt, decide_eq_true, Option.bind_some, bi_0, Bool.true_eq_false, if_false, f_X1_smallTarget_2, f_X1_smallTarget_3, f_X1_smallTarget_5, f_X1_smallTarget_6, f_X1_smallTarget_7, f_X1_smallTarget_8, nt_clamp, nt_le, nt_lt, nt_eq, lit_le, lit_lt, le_lit, lt_lit, eq_lit, lit_eq, nt_neg, nt_ge, nt_add, nt_mul, nt_addl, lit_add, nt_mull, lit_mul, nt_sub, nt_subl, lit_sub, nt_divl, nt_m1, nt_m2, nt_m1', nt_m2', false_or, if_neg, h79 c hc, leadOf_ok hn hm V h, firstHolding_ok (show fk n m w ≤ 6 from by omega) h37]
  by_cases h00 : ld n w (fs n m w c) x = 0
  · rw [if_pos h00]
    unfold smo; rw [if_pos h00]; rfl
  · rw [if_neg h00, ff_congr (q := fun i => sub (ld n w (fs n m w c) x) (fs n m w i)) (fun i hi => by rw [h79 i hi]), smo_ne hO hc hx h00]
/-- the answer of a set: that of its first state that has one -/
def sma (k : Nat) (w : aT) (y : Int32) (x : Nat) : Option Nat := match ff k (fun s => bt y s && (w.2.1 s x).isSome) with
  | some s => w.2.1 s x
  | none => none
theorem smallAnswer_ok {n m : Nat} {w : aT} {I : xI} {J : xJ} (hn : n ≤ 6) (hm : m ≤ 4) (V : Vd n m w) (h0 : I 61 17 = nt n) (h : rMa n m w (I 70) 0) {c x : Nat} (hc : c < 6) (hx : x < m) : f_X12_smallAnswer (nt c) (nt x) I J = some (ov (sma n w (I 79 c) x), I, J) := by
  apply Ok.eq
  unfold f_X12_smallAnswer f_X12_smallAnswer_0 f_X12_smallAnswer_1
  refine ok_loop (fun k s => s = (nt c, nt x, nt k, I, J) ∧ ∀ s, s < k → (bt (I 79 c) s && (w.2.1 s x).isSome) = false) n ?_ ?_ 5000 0 _ (by omega) (by omega) ⟨rfl, fun s hs => absurd hs (by omega)⟩
  · rintro k hk t ⟨rfl, hg⟩
    simp (disch := omega) only [b_X12_smallAnswer_1, f_X12_smallAnswer_2, f_X12_smallAnswer_3, f_X12_smallAnswer_4, f_X12_smallAnswer_5, f_X12_smallAnswer_6, f_X12_smallAnswer_7, f_X12_smallAnswer_8, h0, nt_clamp, nt_le, nt_lt, nt_eq, lit_le, lit_lt, le_lit, lt_lit, eq_lit, lit_eq, nt_neg, nt_ge, nt_add, nt_mul, nt_addl, lit_add, nt_mull, lit_mul, nt_sub, nt_subl, lit_sub, nt_divl, nt_m1, nt_m2, nt_m1', nt_m2', false_or, if_neg, has_ok, Option.bind_some, bi_0, answer_ok hn hm h hk hx]
    have next : (bt (I 79 c) k && (w.2.1 k x).isSome) = false → ∀ s, s < k + 1 → (bt (I 79 c) s && (w.2.1 s x).isSome) = false := by
      intro e s hs
      by_cases cc : s = k
      · rw [cc]; exact e
      · exact hg s (by omega)
    cases ea : bt (I 79 c) k with
    | false =>
      simp only [if_true]
      exact ok_some ⟨rfl, next (by rw [ea]; rfl)⟩
    | true =>
      simp only [Bool.true_eq_false, if_false]
      cases et : w.2.1 k x with
      | none =>
        simp only [ov_n, Int32.reduceLT, if_true]
        exact ok_some ⟨rfl, next (by rw [et]; simp)⟩
      | some v =>
        have hv := (V.2.1 k x v et).2.2
        simp (disch := omega) only [ov_s, nt_clamp, nt_le, nt_lt, nt_eq, lit_le, lit_lt, le_lit, lt_lit, eq_lit, lit_eq, nt_neg, nt_ge, nt_add, nt_mul, nt_addl, lit_add, nt_mull, lit_mul, nt_sub, nt_subl, lit_sub, nt_divl, nt_m1, nt_m2, nt_m1', nt_m2', if_false, Option.map_some]
        refine ok_some ?_
        unfold sma
        rw [ff_some.mpr ⟨hk, by rw [ea, et]; rfl, hg⟩]
        dsimp only
        rw [et]; rfl
  · rintro t ⟨rfl, hg⟩
    simp (disch := omega) only [b_X12_smallAnswer_1, f_X12_smallAnswer_9, h0, nt_clamp, nt_le, nt_lt, nt_eq, lit_le, lit_lt, le_lit, lt_lit, eq_lit, lit_eq, nt_neg, nt_ge, nt_add, nt_mul, nt_addl, lit_add, nt_mull, lit_mul, nt_sub, nt_subl, lit_sub, nt_divl, nt_m1, nt_m2, nt_m1', nt_m2', if_true, if_false, if_pos, if_neg, e01, e10, em12, em21, e0m1, e0m2, e1m1, e1m2, em10, em20, Int32.reduceLT, Int32.reduceLE, eq_self, Option.bind_some, Option.map_some, false_or, or_false, or_self, true_or, or_true, not_true_eq_false, not_false_eq_true, false_and, and_false, true_and, and_true]
    refine ok_some ?_
    unfold sma
    rw [ff_none.mpr hg]; rfl
/-- in a class no two answers are unlike -/
theorem cls_like {n m : Nat} {w : aT} (V : Vd n m w) {S : Nat} (hS : S ∈ cls n m w) {a b x u v : Nat} (hx : x < m) (ha : bt (nt S) a = true) (hb : bt (nt S) b = true) (hu : w.2.1 a x = some u) (hv : w.2.1 b x = some v) : u = v := by
  by_cases hab : a = b
  · rw [hab, hv] at hu; exact (Option.some.inj hu).symm
  have hp := (fl_mem.mp hS).2
  unfold pc at hp
  rw [Bool.and_eq_true] at hp
  have ha' := (V.2.1 a x u hu).1
  have hb' := (V.2.1 b x v hv).1
  have key : ∀ a b u v : Nat, b < a → a < n → bt (nt S) a = true → bt (nt S) b = true → w.2.1 a x = some u → w.2.1 b x = some v → u = v := by
    intro a b u v hlt ha' ha hb hu hv
    have h1 := al_iff.mp (al_iff.mp hp.2 a ha') b hlt
    rw [ha, hb] at h1
    by_cases e : u = v
    · exact e
    · exfalso
      have h2 : rdk m w 0 a b = some 0 := by
        unfold rdk
        have : ex m (fun x => unl w a b x) = true := ex_iff.mpr ⟨x, hx, by unfold unl; rw [hu, hv]; dsimp only; rw [decide_eq_false e]; rfl⟩
        rw [this]; rfl
      have h3 := rdk_up m w h2 15
      have h4 : rd m w a b = some 0 := h3
      rw [h4] at h1
      cases h1
  rcases Nat.lt_or_gt_of_ne hab with c | c
  · exact (key b a v u c hb' hb ha hv hu).symm
  · exact key a b u v c ha' ha hb hu hv
theorem csmallAnswer_ok {n m : Nat} {w : aT} {I : xI} {J : xJ} (hn : n ≤ 6) (hm : m ≤ 4) (V : Vd n m w) (h : cMa n m w (I 1 0) (I 1 1) (I 2) (I 3) (I 4)) (hf : cFw n m w (I 36 12) (I 42)) {c x : Nat} (hc : c < fk n m w) (hx : x < m) : f_X1_smallAnswer (nt c) (nt x) I J = some (ov (sma n w (fs n m w c) x), I, J) := by
  apply Ok.eq
  obtain ⟨hO, h37, h79⟩ := hf
  have hk := hO.1
  obtain ⟨S, hS, eS⟩ := fs_cls hO hc
  have h0 := h.1
  unfold f_X1_smallAnswer f_X1_smallAnswer_0 f_X1_smallAnswer_1
  refine ok_loop (fun k s => s = (nt c, nt x, ov (sma k w (fs n m w c) x), nt k, I, J)) n ?_ ?_ 5000 0 _ (by omega) (by omega) rfl
  · rintro k hk t rfl
    simp (disch := omega) only [b_X1_smallAnswer_1, f_X1_smallAnswer_2, f_X1_smallAnswer_3, f_X1_smallAnswer_4, f_X1_smallAnswer_5, f_X1_smallAnswer_6, f_X1_smallAnswer_7, h0, nt_clamp, nt_le, nt_lt, nt_eq, lit_le, lit_lt, le_lit, lt_lit, eq_lit, lit_eq, nt_neg, nt_ge, nt_add, nt_mul, nt_addl, lit_add, nt_mull, lit_mul, nt_sub, nt_subl, lit_sub, nt_divl, nt_m1, nt_m2, nt_m1', nt_m2', false_or, if_neg, hasFewest_ok (show fk n m w < 2147483648 from by omega) h37, isS_nt, decide_eq_true, Option.bind_some, bi_0, bi_1, Bool.true_eq_false, if_false, h79 c hc, nt_31, has_bi, answerOf_ok hn hm V h]
    have same : (bt (fs n m w c) k && (w.2.1 k x).isSome) = false → sma (k + 1) w (fs n m w c) x = sma k w (fs n m w c) x := by
      intro e
      have e2 : ff (k + 1) (fun s => bt (fs n m w c) s && (w.2.1 s x).isSome) = ff k (fun s => bt (fs n m w c) s && (w.2.1 s x).isSome) := by
        show (match ff k (fun s => bt (fs n m w c) s && (w.2.1 s x).isSome) with
          | some i => some i
          | none => if (bt (fs n m w c) k && (w.2.1 k x).isSome) = true then some k else none) = _
        rw [e]
        cases ff k (fun s => bt (fs n m w c) s && (w.2.1 s x).isSome) <;> rfl
      unfold sma
      rw [e2]
    cases ea : bt (fs n m w c) k with
    | false =>
      simp only [Bool.false_eq_true, if_false]
      refine ok_some ?_
      show _ = _
      rw [same (by rw [ea]; rfl)]
    | true =>
      simp only [if_true]
      cases et : w.2.1 k x with
      | none =>
        rw [ov_n]
        have hnl : ¬ (ov (sma k w (fs n m w c) x) < -2) := by
          cases e : sma k w (fs n m w c) x with
          | none => decide
          | some v =>
            rw [ov_s]
            have hv : v < 4 := by
              unfold sma at e
              split at e
              · exact (V.2.1 _ x v e).2.2
              · cases e
            intro hlt
            rw [Int32.lt_iff_toInt_lt, nt_int (by omega)] at hlt
            have : (-2 : Int32).toInt = -2 := by decide
            omega
        rw [if_neg hnl]
        refine ok_some ?_
        show _ = _
        rw [same (by rw [et]; simp)]
      | some v =>
        have hv := (V.2.1 k x v et).2.2
        rw [ov_s]
        cases eff : ff k (fun s => bt (fs n m w c) s && (w.2.1 s x).isSome) with
        | none =>
          have e1 : sma k w (fs n m w c) x = none := by unfold sma; rw [eff]
          have e2 : sma (k + 1) w (fs n m w c) x = some v := by
            unfold sma
            rw [ff_some.mpr ⟨show k < k + 1 from by omega, by rw [ea, et]; rfl, ff_none.mp eff⟩]
            exact et
          rw [e1, ov_n]
          have hlt : (-2 : Int32) < nt v := neg_lt (by decide) (by omega)
          rw [if_pos hlt]
          refine ok_some ?_
          show _ = _
          rw [e2]; rfl
        | some s0 =>
          have hs0 := ff_some.mp eff
          have hbs := hs0.2.1
          rw [Bool.and_eq_true] at hbs
          obtain ⟨u, hu⟩ := Option.isSome_iff_exists.mp hbs.2
          have e1 : sma k w (fs n m w c) x = some u := by unfold sma; rw [eff]; exact hu
          have e2 : sma (k + 1) w (fs n m w c) x = some u := by
            unfold sma
            rw [ff_some.mpr ⟨show s0 < k + 1 from by omega, hs0.2.1, hs0.2.2⟩]
            exact hu
          have huv : u = v := cls_like V hS hx (by rw [← eS]; exact hbs.1) (by rw [← eS]; exact ea) hu et
          rw [e1, ov_s, if_neg (by rw [huv, nt_lt (by omega) (by omega)]; omega)]
          refine ok_some ?_
          show _ = _
          rw [e2]; rfl
  · rintro t rfl
    simp (disch := omega) only [b_X1_smallAnswer_1, f_X1_smallAnswer_8, h0, nt_clamp, nt_le, nt_lt, nt_eq, lit_le, lit_lt, le_lit, lt_lit, eq_lit, lit_eq, nt_neg, nt_ge, nt_add, nt_mul, nt_addl, lit_add, nt_mull, lit_mul, nt_sub, nt_subl, lit_sub, nt_divl, nt_m1, nt_m2, nt_m1', nt_m2', if_true, if_false, if_pos, if_neg, e01, e10, em12, em21, e0m1, e0m2, e1m1, e1m2, em10, em20, Int32.reduceLT, Int32.reduceLE, eq_self, Option.bind_some, Option.map_some, false_or, or_false, or_self, true_or, or_true, not_true_eq_false, not_false_eq_true, false_and, and_false, true_and, and_true]
    exact ok_some rfl
noncomputable def mt (n m : Nat) (w : aT) (s : Nat) : Int32 := orf (fk n m w) (fun c => if bt (fs n m w c) s = true then 1 <<< nt c else 0)
theorem mt_bt {n m : Nat} {w : aT} (hn : n ≤ 6) (hf : fOk n m w) {s c : Nat} (hc : c < 32) : bt (mt n m w s) c = (decide (c < fk n m w) && bt (fs n m w c) s) := by
  unfold mt
  rw [orf_bt]
  have hk := hf.1
  cases e : (decide (c < fk n m w) && bt (fs n m w c) s) with
  | true =>
    rw [Bool.and_eq_true] at e
    have hcf := of_decide_eq_true e.1
    refine ex_iff.mpr ⟨c, hcf, ?_⟩
    rw [e.2, if_pos rfl, one_shl (by omega) hc, decide_eq_true rfl]
  | false =>
    refine ex_false.mpr ?_
    intro i hi
    by_cases cc : i = c
    · rw [cc] at hi ⊢
      rw [decide_eq_true hi, Bool.true_and] at e
      rw [e, if_neg (by decide), bt_zero]
    · split
      · rw [one_shl (by omega) hc, decide_eq_false (fun h => cc h.symm)]
      · exact bt_zero c
theorem metBy_ok {n m : Nat} {w : aT} {I : xI} {J : xJ} (hn : n ≤ 6) (hf : cFw n m w (I 36 12) (I 42)) {s : Nat} (hs : s < 32) : f_X1_metBy (nt s) I J = some (mt n m w s, I, J) := by
  apply Ok.eq
  obtain ⟨hO, h37, h79⟩ := hf
  have hk := hO.1
  unfold f_X1_metBy f_X1_metBy_0 f_X1_metBy_1
  refine ok_loop (fun k t => t = (nt s, orf k (fun c => if bt (fs n m w c) s = true then 1 <<< nt c else 0), nt k, I, J)) (fk n m w) ?_ ?_ 5000 0 _ (by omega) (by omega) rfl
  · rintro k hk2 t rfl
    simp (disch := omega) only [b_X1_metBy_1, f_X1_metBy_2, h37, nt_clamp, nt_le, nt_lt, nt_eq, lit_le, lit_lt, le_lit, lt_lit, eq_lit, lit_eq, nt_neg, nt_ge, nt_add, nt_mul, nt_addl, lit_add, nt_mull, lit_mul, nt_sub, nt_subl, lit_sub, nt_divl, nt_m1, nt_m2, nt_m1', nt_m2', false_or, if_neg, h79 k hk2, nt_31, has_bi]
    refine ok_some ?_
    show _ = _
    rw [orf]
    cases bt (fs n m w k) s with
    | true => rw [if_pos rfl]; rfl
    | false => rw [if_neg (by decide), show bi false = 0 from rfl, Int32.zero_shiftLeft]
  · rintro t rfl
    simp (disch := omega) only [b_X1_metBy_1, f_X1_metBy_3, h37, nt_clamp, nt_le, nt_lt, nt_eq, lit_le, lit_lt, le_lit, lt_lit, eq_lit, lit_eq, nt_neg, nt_ge, nt_add, nt_mul, nt_addl, lit_add, nt_mull, lit_mul, nt_sub, nt_subl, lit_sub, nt_divl, nt_m1, nt_m2, nt_m1', nt_m2', if_true, if_false, if_pos, if_neg, e01, e10, em12, em21, e0m1, e0m2, e1m1, e1m2, em10, em20, Int32.reduceLT, Int32.reduceLE, eq_self, Option.bind_some, Option.map_some, false_or, or_false, or_self, true_or, or_true, not_true_eq_false, not_false_eq_true, false_and, and_false, true_and, and_true]
    exact ok_some rfl
