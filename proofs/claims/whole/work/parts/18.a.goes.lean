/-! goesOn, together, partition, into, tail -/
def caD (n m : Nat) (w : aT) (I : xI) : Prop := ∃ k, k ≤ 6 ∧ cPl k (pts k) I ∧ (I 43 9 = I 1 2 → k = n ∧ cGo n m w (I 43 8) (I 47))
def tReg (c j : Nat) : Prop := pReg c j ∨ (44 ≤ c ∧ c ≤ 47) ∨ (c = 43 ∧ (j = 5 ∨ j = 6 ∨ j = 8 ∨ j = 9))
theorem partsNow_ok {n m : Nat} {w : aT} {I : xI} {J : xJ} (hn : n ≤ 6) (hm : m ≤ 4) (V : Vd n m w) (h : cMa n m w (I 1 0) (I 1 1) (I 2) (I 3) (I 4)) (hA : caA m w I) (hD : caD n m w I) : Ok (f_X11_partitionsNow I J) (fun o => o.2.2 = J ∧ caA m w o.2.1 ∧ caD n m w o.2.1 ∧ cPa m w (o.2.1 32 3) (o.2.1 33) (o.2.1 34) ∧ cPl n (pts n) o.2.1 ∧ cGo n m w (o.2.1 43 8) (o.2.1 47) ∧ ∀ c j, ¬ tReg c j → o.2.1 c j = I c j) := by
  obtain ⟨k, hk, hP, hG⟩ := hD
  unfold f_X11_partitionsNow f_X11_partitionsNow_0
  apply ok_bind
  refine (refresh_ok hn hm V h hA).imp ?_
  rintro ⟨_, I1, J1⟩ ⟨rfl, a1, a2, a3⟩
  dsimp only at a1 a2 a3 ⊢
  have e10 : I1 1 0 = nt n := (a3 1 0 (by omega) (by omega) (by omega)).trans h.1
  have e12 : I1 1 2 = I 1 2 := a3 1 2 (by omega) (by omega) (by omega)
  have e43 : I1 43 = I 43 := funext fun j => a3 43 j (by omega) (by omega) (by omega)
  have e47 : I1 47 = I 47 := funext fun j => a3 47 j (by omega) (by omega) (by omega)
  have hP1 : cPl k (pts k) I1 := by
    obtain ⟨h6, h5, hl⟩ := hP
    refine ⟨by rw [e43]; exact h6, by rw [e43]; exact h5, ?_⟩
    intro i q hq
    rw [a3 44 i (by omega) (by omega) (by omega), a3 45 i (by omega) (by omega) (by omega), a3 46 i (by omega) (by omega) (by omega)]
    exact hl i q hq
  unfold f_X11_partitionsNow_1
  apply ok_bind
  refine (prefr_ok hn V e10 a1 hk hP1 (by rw [e43, e12, e47]; exact hG)).imp ?_
  rintro ⟨_, I2, J2⟩ ⟨rfl, b1, b2, b3, b4⟩
  dsimp only at b1 b2 b3 b4 ⊢
  have f33 : I2 33 = I1 33 := funext fun j => b4 33 j (by omega) (by omega) (by omega) (by omega) (by omega)
  have f34 : I2 34 = I1 34 := funext fun j => b4 34 j (by omega) (by omega) (by omega) (by omega) (by omega)
  have hp2 : cPa m w (I2 32 3) (I2 33) (I2 34) := by
    rw [f33, f34, b4 32 3 (by omega) (by omega) (by omega) (by omega) (by omega)]; exact a1
  refine ok_some ⟨rfl, fun _ => hp2, ⟨n, hn, b1, fun _ => ⟨rfl, b2⟩⟩, hp2, b1, b2, ?_⟩
  intro c j hr
  unfold tReg pReg at hr
  exact (b4 c j (by omega) (by omega) (by omega) (by omega) (by omega)).trans (a3 c j (by omega) (by omega) (by omega))
/-- where a number stands -/
def pix (n : Nat) (x : Int32) : Option Nat := ff (pts n).length (fun i => decide (nt (pnum n i) = x))
theorem pix_lt {n i : Nat} {x : Int32} (h : pix n x = some i) : i < (pts n).length := (ff_some.mp h).1
theorem cPl_at {n i : Nat} {I : xI} (hP : cPl n (pts n) I) (hi : i < (pts n).length) : I 44 i = nt (pnum n i) ∧ I 46 i = nt (pblk n i) ∧ I 45 i = jno n (pnum n i) := hP.2.2 i _ (pts_at hi)
theorem indexOf_ok {n : Nat} {I : xI} {J : xJ} (hn : n ≤ 6) (hP : cPl n (pts n) I) (x : Int32) : f_X7_indexOf x I J = some (o1 (pix n x), I, J) := by
  apply Ok.eq
  have hN := pts_len n (by omega)
  have h5 := hP.2.1
  unfold f_X7_indexOf f_X7_indexOf_0 f_X7_indexOf_1
  refine ok_loop (fun i s => s = (x, nt i, I, J) ∧ ∀ j, j < i → decide (nt (pnum n j) = x) = false) (pts n).length ?_ ?_ 5000 0 _ (by omega) (by omega) ⟨rfl, fun j hj => absurd hj (by omega)⟩
  · rintro i hi s ⟨rfl, hg⟩
    simp (disch := omega) only [b_X7_indexOf_1, f_X7_indexOf_2, f_X7_indexOf_4, h5, nt_clamp, nt_le, nt_lt, nt_eq, lit_le, lit_lt, le_lit, lt_lit, eq_lit, lit_eq, nt_neg, nt_ge, nt_add, nt_mul, nt_addl, lit_add, nt_mull, lit_mul, nt_sub, nt_subl, lit_sub, nt_divl, nt_m1, nt_m2, nt_m1', nt_m2', false_or, if_neg, (cPl_at hP hi).1]
    by_cases c : nt (pnum n i) = x
    · rw [if_pos c]
      simp only [f_X7_indexOf_3, Option.map_some]
      refine ok_some ?_
      unfold pix
      rw [ff_some.mpr ⟨hi, decide_eq_true c, hg⟩]; rfl
    · rw [if_neg c]
      refine ok_some ⟨rfl, ?_⟩
      intro j hj
      by_cases e : j = i
      · rw [e]; exact decide_eq_false c
      · exact hg j (by omega)
  · rintro s ⟨rfl, hg⟩
    simp (disch := omega) only [b_X7_indexOf_1, f_X7_indexOf_5, h5, nt_clamp, nt_le, nt_lt, nt_eq, lit_le, lit_lt, le_lit, lt_lit, eq_lit, lit_eq, nt_neg, nt_ge, nt_add, nt_mul, nt_addl, lit_add, nt_mull, lit_mul, nt_sub, nt_subl, lit_sub, nt_divl, nt_m1, nt_m2, nt_m1', nt_m2', if_true, if_false, if_pos, if_neg, e01, e10, em12, em21, e0m1, e0m2, e1m1, e1m2, em10, em20, Int32.reduceLT, Int32.reduceLE, eq_self, Option.bind_some, Option.map_some, false_or, or_false, or_self, true_or, or_true, not_true_eq_false, not_false_eq_true, false_and, and_false, true_and, and_true]
    refine ok_some ?_
    unfold pix
    rw [ff_none.mpr hg]; rfl
theorem placeOf_ok {n m : Nat} {w : aT} {I : xI} {J : xJ} (hn : n ≤ 6) (hm : m ≤ 4) (V : Vd n m w) (h0 : I 61 17 = nt n) (h1 : I 61 18 = nt m) (h : rMa n m w (I 70) 0) (hc : rCa n m w I) (x : Int32) : Ok (f_X12_placeOf x I J) (fun o => o.2.2 = J ∧ o.1 = o1 (pix n x) ∧ rKn n m w o.2.1 ∧ o.2.1 61 29 = 1 ∧ ∀ c j, ¬ kReg c j → o.2.1 c j = I c j) := by
  have hN := pts_len n (by omega)
  unfold f_X12_placeOf f_X12_placeOf_0
  apply ok_bind
  refine (knows_ok hn hm V h0 h1 h hc).imp ?_
  rintro ⟨_, I1, J1⟩ ⟨rfl, a1, a2, a3⟩
  dsimp only at a1 a2 a3 ⊢
  have h40 := a1.2.2.2.2.2.1
  have hP := a1.2.2.2.2.2.2
  unfold f_X12_placeOf_1 f_X12_placeOf_2
  refine ok_loop (fun i s => s = (x, nt i, I1, J1) ∧ ∀ j, j < i → decide (nt (pnum n j) = x) = false) (pts n).length ?_ ?_ 5000 0 _ (by omega) (by omega) ⟨rfl, fun j hj => absurd hj (by omega)⟩
  · rintro i hi s ⟨rfl, hg⟩
    simp (disch := omega) only [b_X12_placeOf_2, f_X12_placeOf_3, f_X12_placeOf_5, h40, nt_clamp, nt_le, nt_lt, nt_eq, lit_le, lit_lt, le_lit, lt_lit, eq_lit, lit_eq, nt_neg, nt_ge, nt_add, nt_mul, nt_addl, lit_add, nt_mull, lit_mul, nt_sub, nt_subl, lit_sub, nt_divl, nt_m1, nt_m2, nt_m1', nt_m2', false_or, if_neg, (hP i hi).1]
    by_cases c : nt (pnum n i) = x
    · rw [if_pos c]
      simp only [f_X12_placeOf_4, Option.map_some]
      refine ok_some ⟨rfl, ?_, a1, a2, a3⟩
      unfold pix
      rw [ff_some.mpr ⟨hi, decide_eq_true c, hg⟩]; rfl
    · rw [if_neg c]
      refine ok_some ⟨rfl, ?_⟩
      intro j hj
      by_cases e : j = i
      · rw [e]; exact decide_eq_false c
      · exact hg j (by omega)
  · rintro s ⟨rfl, hg⟩
    simp (disch := omega) only [b_X12_placeOf_2, f_X12_placeOf_6, h40, nt_clamp, nt_le, nt_lt, nt_eq, lit_le, lit_lt, le_lit, lt_lit, eq_lit, lit_eq, nt_neg, nt_ge, nt_add, nt_mul, nt_addl, lit_add, nt_mull, lit_mul, nt_sub, nt_subl, lit_sub, nt_divl, nt_m1, nt_m2, nt_m1', nt_m2', if_true, if_false, if_pos, if_neg, e01, e10, em12, em21, e0m1, e0m2, e1m1, e1m2, em10, em20, Int32.reduceLT, Int32.reduceLE, eq_self, Option.bind_some, Option.map_some, false_or, or_false, or_self, true_or, or_true, not_true_eq_false, not_false_eq_true, false_and, and_false, true_and, and_true]
    refine ok_some ⟨rfl, ?_, a1, a2, a3⟩
    unfold pix
    rw [ff_none.mpr hg]; rfl
def goesR (n m : Nat) (w : aT) (x : Int32) : Int32 := match pix n x with
  | none => -1
  | some i => bi (go n m w i i)
theorem cgoes_ok {n m : Nat} {w : aT} {I : xI} {J : xJ} (hn : n ≤ 6) (hm : m ≤ 4) (V : Vd n m w) (h : cMa n m w (I 1 0) (I 1 1) (I 2) (I 3) (I 4)) (hA : caA m w I) (hD : caD n m w I) (x : Int32) : Ok (f_X11_goesOn x I J) (fun o => o.2.2 = J ∧ o.1 = goesR n m w x ∧ caA m w o.2.1 ∧ caD n m w o.2.1 ∧ ∀ c j, ¬ tReg c j → o.2.1 c j = I c j) := by
  have hN := pts_len n (by omega)
  unfold f_X11_goesOn f_X11_goesOn_0
  apply ok_bind
  refine (partsNow_ok hn hm V h hA hD).imp ?_
  rintro ⟨_, I1, J1⟩ ⟨rfl, cA, cD, a1, a2, a3, a4⟩
  dsimp only at cA cD a1 a2 a3 a4 ⊢
  unfold goesR
  simp only [f_X11_goesOn_1, indexOf_ok hn a2, Option.bind_some]
  cases e : pix n x with
  | none => exact ok_some ⟨rfl, rfl, cA, cD, a4⟩
  | some i =>
    have hi := pix_lt e
    show Ok (f_X11_goesOn_2 x (nt i) I1 J1) _
    simp (disch := omega) only [f_X11_goesOn_2, nt_clamp, nt_le, nt_lt, nt_eq, lit_le, lit_lt, le_lit, lt_lit, eq_lit, lit_eq, nt_neg, nt_ge, nt_add, nt_mul, nt_addl, lit_add, nt_mull, lit_mul, nt_sub, nt_subl, lit_sub, nt_divl, nt_m1, nt_m2, nt_m1', nt_m2', if_false, f_X11_goesOn_4, stays_ok hn V a1 a2 hi, Option.bind_some, f_X11_goesOn_5, f_X11_goesOn_6, f_X11_goesOn_7, f_X11_goesOn_8, bi_0]
    cases go n m w i i with
    | false => exact ok_some ⟨rfl, rfl, cA, cD, a4⟩
    | true => exact ok_some ⟨rfl, rfl, cA, cD, a4⟩
theorem rgoes_ok {n m : Nat} {w : aT} {I : xI} {J : xJ} (hn : n ≤ 6) (hm : m ≤ 4) (V : Vd n m w) (h0 : I 61 17 = nt n) (h1 : I 61 18 = nt m) (h : rMa n m w (I 70) 0) (hc : rCa n m w I) (x : Int32) : Ok (f_X12_goesOn x I J) (fun o => o.2.2 = J ∧ o.1 = goesR n m w x ∧ rCa n m w o.2.1 ∧ ∀ c j, ¬ kReg c j → o.2.1 c j = I c j) := by
  have hN := pts_len n (by omega)
  unfold f_X12_goesOn f_X12_goesOn_0
  apply ok_bind
  refine (placeOf_ok hn hm V h0 h1 h hc x).imp ?_
  rintro ⟨_, I1, J1⟩ ⟨rfl, rfl, a1, a2, a3⟩
  dsimp only at a1 a2 a3 ⊢
  unfold goesR f_X12_goesOn_1
  cases e : pix n x with
  | none =>
    show Ok (if (0 : Int32) ≤ -1 then _ else _) _
    simp only [Int32.reduceLE, if_false]
    exact ok_some ⟨rfl, rfl, fun _ => ⟨a1, a2⟩, a3⟩
  | some i =>
    have hi := pix_lt e
    have e84 := (a1.2.2.2.2.2.2 i hi).2.2.1
    show Ok (if 0 ≤ nt i then f_X12_goesOn_3 x (nt i) I1 J1 else _) _
    simp (disch := omega) only [nt_clamp, nt_le, nt_lt, nt_eq, lit_le, lit_lt, le_lit, lt_lit, eq_lit, lit_eq, nt_neg, nt_ge, nt_add, nt_mul, nt_addl, lit_add, nt_mull, lit_mul, nt_sub, nt_subl, lit_sub, nt_divl, nt_m1, nt_m2, nt_m1', nt_m2', if_true, f_X12_goesOn_3, f_X12_goesOn_4, f_X12_goesOn_5, f_X12_goesOn_6, false_or, if_neg, e84, bi_0]
    cases go n m w i i with
    | false => exact ok_some ⟨rfl, rfl, fun _ => ⟨a1, a2⟩, a3⟩
    | true => exact ok_some ⟨rfl, rfl, fun _ => ⟨a1, a2⟩, a3⟩
/-- the first of most blocks -/
def stM (n : Nat) (P : Nat → Bool) (o : Option Nat) (k : Nat) : Option Nat := if P k = true then (match o with
  | none => some k
  | some j => if pblk n k ≤ pblk n j then some j else some k) else o
def bM (n : Nat) (P : Nat → Bool) (k : Nat) : Option Nat := (List.range k).foldl (stM n P) none
theorem bM_s (n : Nat) (P : Nat → Bool) (k : Nat) : bM n P (k + 1) = stM n P (bM n P k) k := by
  unfold bM; rw [List.range_succ, List.foldl_append]; rfl
theorem bM_lt {n : Nat} {P : Nat → Bool} : ∀ {k j : Nat}, bM n P k = some j → j < k := by
  intro k
  induction k with
  | zero => intro j h; cases h
  | succ k ih =>
    intro j h
    rw [bM_s] at h
    unfold stM at h
    split at h
    · split at h
      · cases h; omega
      · rename_i j' e
        have := ih e
        split at h
        · cases h; omega
        · cases h; omega
    · have := ih h; omega
theorem bM_ex {n : Nat} {P : Nat → Bool} {i k : Nat} (hi : i < k) (hP : P i = true) : ∃ j, bM n P k = some j := by
  induction k with
  | zero => omega
  | succ k ih =>
    rw [bM_s]
    unfold stM
    by_cases c : i = k
    · rw [← c, hP, if_pos rfl]
      split
      · exact ⟨_, rfl⟩
      · split <;> exact ⟨_, rfl⟩
    · obtain ⟨j, hj⟩ := ih (by omega)
      rw [hj]
      split
      · dsimp only; split <;> exact ⟨_, rfl⟩
      · exact ⟨j, rfl⟩
theorem bM_fl {n : Nat} {G P : Nat → Bool} (k : Nat) : (fl G k).foldl (stM n P) none = bM n (fun i => G i && P i) k := by
  induction k with
  | zero => rfl
  | succ k ih =>
    rw [bM_s]
    cases e : G k with
    | false =>
      rw [fl_f e, ih]
      simp only [stM, e, Bool.false_and, Bool.false_eq_true, if_false]
    | true =>
      rw [fl_t e, List.foldl_append, ih]
      show stM n P _ k = _
      simp only [stM, e, Bool.true_and]
theorem pblk6 {n i : Nat} (hn : n ≤ 6) (hi : i < (pts n).length) : pblk n i ≤ 6 := (pt_fact hn hi).2.2.2.1
def tgP (n m : Nat) (w : aT) (s t i : Nat) : Bool := go n m w i i && decide (bo n i s = bo n i t)
theorem tg0 {n m s t : Nat} {w : aT} (hn : n ≤ 6) (V : Vd n m w) (hs : s < n) (ht : t < n) : tgP n m w s t 0 = true := by
  unfold tgP
  have hz : ∀ a, a < n → bo n 0 a = 0 := fun a ha => bo_zero n (by omega) a (by omega)
  rw [hz s hs, hz t ht, decide_eq_true rfl, Bool.and_true]
  unfold go
  rw [al_iff]; intro x hx
  rw [al_iff]; intro a ha
  rw [al_iff]; intro b hb
  unfold gob
  cases ea : w.1 a x with
  | none => rfl
  | some u =>
    cases eb : w.1 b x with
    | none => rfl
    | some v =>
      dsimp only
      rw [hz u (V.1 a x u ea).2.2, hz v (V.1 b x v eb).2.2, decide_eq_true (show (0 : Nat) = 0 from rfl), Bool.or_true]
def togR (n m : Nat) (w : aT) (x y : Int32) : Int32 := if (isS n x && isS n y) = true then nt (pnum n ((bM n (tgP n m w x.toNatClampNeg y.toNatClampNeg) (pts n).length).getD 0)) else -1
theorem sub_pm {n i s t : Nat} (hn : n ≤ 6) (hs : s < n) (ht : t < n) : sub (pm s t) (jno n (pnum n i)) = decide (bo n i s = bo n i t) := by
  by_cases e : s = t
  · rw [e, pm_self t (by omega), sub_0, decide_eq_true rfl]
  · have hx := pX_lt s (by omega) t (by omega)
    have key : sub (pm s t) (jno n (pnum n i)) = true ↔ bt (jno n (pnum n i)) (pX s t) = true := by
      rw [sub_iff]
      constructor
      · intro h
        refine h _ (by omega) ?_
        rw [pm_bt (by omega) (by omega) (by omega), decide_eq_false e, decide_eq_true rfl]; rfl
      · intro h k hk hb
        rw [pm_bt (by omega) (by omega) hk, Bool.and_eq_true] at hb
        rw [of_decide_eq_true hb.2]; exact h
    have eb : bt (jno n (pnum n i)) (pX s t) = decide (bo n i s = bo n i t) := by
      rw [jn_bt (by omega), decide_eq_true hx]
      rcases px_lh (a := s) (b := t) (by omega) (by omega) e with ⟨q1, q2⟩ | ⟨q1, q2⟩
      · rw [q1, q2, decide_eq_true ht]; rfl
      · rw [q1, q2, decide_eq_true hs]
        by_cases c : bo n i s = bo n i t
        · rw [decide_eq_true c, decide_eq_true c.symm]; rfl
        · rw [decide_eq_false c, decide_eq_false (fun h => c h.symm)]; rfl
    rw [eb] at key
    cases e1 : sub (pm s t) (jno n (pnum n i)) with
    | true => exact (key.mp e1).symm
    | false =>
      cases e2 : decide (bo n i s = bo n i t) with
      | false => rfl
      | true => rw [key.mpr e2] at e1; cases e1
theorem gol_at {n m i : Nat} {w : aT} (hi : i < (gol n m w).length) : ∃ k, (gol n m w)[i]? = some k ∧ k < (pts n).length := by
  refine ⟨(gol n m w)[i], List.getElem?_eq_getElem hi, ?_⟩
  have : (gol n m w)[i] ∈ gol n m w := List.getElem_mem hi
  exact (fl_mem.mp this).1
theorem joined_ok {n m : Nat} {w : aT} {I : xI} {J : xJ} (hn : n ≤ 6) (V : Vd n m w) (hP : cPl n (pts n) I) (hG : cGo n m w (I 43 8) (I 47)) {s t : Nat} (hs : s < n) (ht : t < n) : f_X7_joined (nt s) (nt t) I J = some (nt (pnum n ((bM n (tgP n m w s t) (pts n).length).getD 0)), I, J) := by
  apply Ok.eq
  have hN := pts_len n (by omega)
  have hgl : (gol n m w).length ≤ (pts n).length := fl_le
  obtain ⟨h8, h47⟩ := hG
  simp (disch := omega) only [f_X7_joined, f_X7_joined_0, f_X7_joined_1, pairOf_ok, Option.bind_some]
  unfold f_X7_joined_2
  refine ok_loop (fun i r => ∃ z6, r = (nt s, nt t, pm s t, o1 (((gol n m w).take i).foldl (stM n (fun i => decide (bo n i s = bo n i t))) none), nt i, z6, I, J) ∧ ∀ j, ((gol n m w).take i).foldl (stM n (fun i => decide (bo n i s = bo n i t))) none = some j → j < (pts n).length) (gol n m w).length ?_ ?_ 5000 0 _ (by omega) (by omega) ⟨none, rfl, fun j hj => (by cases hj)⟩
  · rintro i hi r ⟨z6, rfl, hlt⟩
    obtain ⟨k, hk, hkN⟩ := gol_at hi
    have e47 := h47 i k hk
    have hp := cPl_at hP hkN
    have hb := pblk6 hn hkN
    have etk : ((gol n m w).take (i + 1)).foldl (stM n (fun i => decide (bo n i s = bo n i t))) none = stM n (fun i => decide (bo n i s = bo n i t)) (((gol n m w).take i).foldl (stM n (fun i => decide (bo n i s = bo n i t))) none) k := by
      rw [List.take_succ, hk, List.foldl_append]; rfl
    simp (disch := omega) only [b_X7_joined_2, f_X7_joined_3, f_X7_joined_7, h8, nt_clamp, nt_le, nt_lt, nt_eq, lit_le, lit_lt, le_lit, lt_lit, eq_lit, lit_eq, nt_neg, nt_ge, nt_add, nt_mul, nt_addl, lit_add, nt_mull, lit_mul, nt_sub, nt_subl, lit_sub, nt_divl, nt_m1, nt_m2, nt_m1', nt_m2', false_or, if_neg, e47, hp.2.2, sub_def, sub_pm hn hs ht]
    rw [etk]
    revert hlt
    generalize ((gol n m w).take i).foldl (stM n (fun i => decide (bo n i s = bo n i t))) none = o
    intro hlt
    by_cases c : bo n k s = bo n k t
    · rw [if_pos (decide_eq_true c)]
      unfold stM
      rw [if_pos (decide_eq_true c)]
      cases o with
      | none =>
        simp only [f_X7_joined_4, o1, if_true, f_X7_joined_6, f_X7_joined_7, nt_addl]
        exact ok_some ⟨_, rfl, fun j hj => by cases hj; exact hkN⟩
      | some j =>
        have hj := hlt j rfl
        have hpj := cPl_at hP hj
        have hbj := pblk6 hn hj
        simp (disch := omega) only [f_X7_joined_4, o1, nt_clamp, nt_le, nt_lt, nt_eq, lit_le, lit_lt, le_lit, lt_lit, eq_lit, lit_eq, nt_neg, nt_ge, nt_add, nt_mul, nt_addl, lit_add, nt_mull, lit_mul, nt_sub, nt_subl, lit_sub, nt_divl, nt_m1, nt_m2, nt_m1', nt_m2', if_false, f_X7_joined_5, f_X7_joined_6, f_X7_joined_7, false_or, if_neg, hp.2.1, hpj.2.1]
        by_cases c2 : pblk n k ≤ pblk n j
        · rw [if_pos c2, if_pos c2]
          exact ok_some ⟨_, rfl, fun j' hj' => by cases hj'; exact hj⟩
        · rw [if_neg c2, if_neg c2]
          exact ok_some ⟨_, rfl, fun j' hj' => by cases hj'; exact hkN⟩
    · rw [if_neg (by rw [decide_eq_false c]; decide)]
      have : stM n (fun i => decide (bo n i s = bo n i t)) o k = o := by
        exact if_neg (by show ¬ decide (bo n k s = bo n k t) = true; rw [decide_eq_false c]; decide)
      rw [this]
      exact ok_some ⟨_, rfl, hlt⟩
  · rintro r ⟨z6, rfl, hlt⟩
    rw [List.take_length] at hlt ⊢
    have ef : (gol n m w).foldl (stM n (fun i => decide (bo n i s = bo n i t))) none = bM n (tgP n m w s t) (pts n).length := bM_fl (G := gii n m w) (pts n).length
    rw [ef] at hlt ⊢
    obtain ⟨j, hj⟩ := bM_ex (n := n) (P := tgP n m w s t) (pts_pos n (by omega) (by omega)) (tg0 hn V hs ht)
    have hjl := hlt j hj
    rw [hj]
    simp (disch := omega) only [b_X7_joined_2, h8, nt_clamp, nt_le, nt_lt, nt_eq, lit_le, lit_lt, le_lit, lt_lit, eq_lit, lit_eq, nt_neg, nt_ge, nt_add, nt_mul, nt_addl, lit_add, nt_mull, lit_mul, nt_sub, nt_subl, lit_sub, nt_divl, nt_m1, nt_m2, nt_m1', nt_m2', if_pos, f_X7_joined_8, o1, if_false, f_X7_joined_10, f_X7_joined_11, false_or, if_neg, (cPl_at hP hjl).1, Option.map_some]
    exact ok_some rfl
theorem ctog_ok {n m : Nat} {w : aT} {I : xI} {J : xJ} (hn : n ≤ 6) (hm : m ≤ 4) (V : Vd n m w) (h : cMa n m w (I 1 0) (I 1 1) (I 2) (I 3) (I 4)) (hA : caA m w I) (hD : caD n m w I) (x y : Int32) : Ok (f_X11_together x y I J) (fun o => o.2.2 = J ∧ o.1 = togR n m w x y ∧ caA m w o.2.1 ∧ caD n m w o.2.1 ∧ ∀ c j, ¬ tReg c j → o.2.1 c j = I c j) := by
  unfold f_X11_together f_X11_together_0 togR
  rw [hasState_ok h.1 (by omega), Option.bind_some]
  unfold f_X11_together_1
  dsimp only
  cases hx : isS n x with
  | false => exact ok_some ⟨rfl, rfl, hA, hD, fun _ _ _ => rfl⟩
  | true =>
    show Ok (f_X11_together_2 x y I J) _
    unfold f_X11_together_2
    rw [hasState_ok h.1 (by omega), Option.bind_some]
    unfold f_X11_together_3
    dsimp only
    cases hy : isS n y with
    | false => exact ok_some ⟨rfl, rfl, hA, hD, fun _ _ _ => rfl⟩
    | true =>
      obtain ⟨s, hs, rfl⟩ := isS_ex (by omega) hx
      obtain ⟨t, ht, rfl⟩ := isS_ex (by omega) hy
      rw [nt_clamp (by omega), nt_clamp (by omega)]
      show Ok (f_X11_together_4 (nt s) (nt t) I J) _
      unfold f_X11_together_4
      apply ok_bind
      refine (partsNow_ok hn hm V h hA hD).imp ?_
      rintro ⟨_, I1, J1⟩ ⟨rfl, cA, cD, a1, a2, a3, a4⟩
      dsimp only at cA cD a1 a2 a3 a4 ⊢
      simp only [f_X11_together_5, f_X11_together_6, f_X11_together_8, joined_ok hn V a2 a3 hs ht, Option.bind_some]
      exact ok_some ⟨rfl, rfl, cA, cD, a4⟩
theorem rtog_ok {n m : Nat} {w : aT} {I : xI} {J : xJ} (hn : n ≤ 6) (hm : m ≤ 4) (V : Vd n m w) (h0 : I 61 17 = nt n) (h1 : I 61 18 = nt m) (h : rMa n m w (I 70) 0) (hc : rCa n m w I) (x y : Int32) : Ok (f_X12_together x y I J) (fun o => o.2.2 = J ∧ o.1 = togR n m w x y ∧ rCa n m w o.2.1 ∧ ∀ c j, ¬ kReg c j → o.2.1 c j = I c j) := by
  have hN := pts_len n (by omega)
  unfold f_X12_together f_X12_together_0 togR
  rw [isState_ok h0 (by omega), Option.bind_some]
  unfold f_X12_together_1
  dsimp only
  cases hx : isS n x with
  | false => exact ok_some ⟨rfl, rfl, hc, fun _ _ _ => rfl⟩
  | true =>
    show Ok (f_X12_together_2 x y I J) _
    unfold f_X12_together_2
    rw [isState_ok h0 (by omega), Option.bind_some]
    unfold f_X12_together_3
    dsimp only
    cases hy : isS n y with
    | false => exact ok_some ⟨rfl, rfl, hc, fun _ _ _ => rfl⟩
    | true =>
      obtain ⟨s, hs, rfl⟩ := isS_ex (by omega) hx
      obtain ⟨t, ht, rfl⟩ := isS_ex (by omega) hy
      rw [nt_clamp (by omega), nt_clamp (by omega)]
      show Ok (f_X12_together_5 (nt s) (nt t) I J) _
      unfold f_X12_together_5
      apply ok_bind
      refine (knows_ok hn hm V h0 h1 h hc).imp ?_
      rintro ⟨_, I1, J1⟩ ⟨rfl, a1, a2, a3⟩
      dsimp only at a1 a2 a3 ⊢
      have h40 := a1.2.2.2.2.2.1
      have hP := a1.2.2.2.2.2.2
      unfold f_X12_together_6 f_X12_together_7
      refine ok_loop (fun i r => r = (nt s, nt t, o1 (bM n (tgP n m w s t) i), nt i, I1, J1)) (pts n).length ?_ ?_ 5000 0 _ (by omega) (by omega) rfl
      · rintro i hi r rfl
        obtain ⟨p1, p2, p3, p4⟩ := hP i hi
        have hf := pt_fact hn hi
        have hb := pblk6 hn hi
        have b1 := hf.2.2.1 s (by omega)
        have b2 := hf.2.2.1 t (by omega)
        simp (disch := omega) only [b_X12_together_7, f_X12_together_8, f_X12_together_9, f_X12_together_13, h40, nt_clamp, nt_le, nt_lt, nt_eq, lit_le, lit_lt, le_lit, lt_lit, eq_lit, lit_eq, nt_neg, nt_ge, nt_add, nt_mul, nt_addl, lit_add, nt_mull, lit_mul, nt_sub, nt_subl, lit_sub, nt_divl, nt_m1, nt_m2, nt_m1', nt_m2', false_or, if_neg, p3, bi_0, p4 s (by omega), p4 t (by omega)]
        have hlt : ∀ j, bM n (tgP n m w s t) i = some j → j < (pts n).length := fun j hj => by have := bM_lt hj; omega
        have es := bM_s n (tgP n m w s t) i
        revert hlt es
        generalize bM n (tgP n m w s t) i = o
        intro hlt es
        cases eg : go n m w i i with
        | false =>
          rw [if_pos rfl]
          have : stM n (tgP n m w s t) o i = o := by
            unfold stM tgP; rw [eg]; rfl
          refine ok_some ?_
          show _ = _
          rw [es, this]
        | true =>
          rw [if_neg (by decide)]
          by_cases c : bo n i s = bo n i t
          · have etg : tgP n m w s t i = true := by unfold tgP; rw [eg, decide_eq_true c]; rfl
            rw [if_pos c]
            cases o with
            | none =>
              have : stM n (tgP n m w s t) none i = some i := by unfold stM; rw [etg]; rfl
              simp only [f_X12_together_10, o1, Int32.reduceLT, if_true, f_X12_together_12, f_X12_together_13, nt_addl]
              refine ok_some ?_
              show _ = _
              rw [es, this]
            | some j =>
              have hj := hlt j rfl
              have hpj := (hP j hj).2.1
              have hbj := pblk6 hn hj
              simp (disch := omega) only [f_X12_together_10, o1, nt_clamp, nt_le, nt_lt, nt_eq, lit_le, lit_lt, le_lit, lt_lit, eq_lit, lit_eq, nt_neg, nt_ge, nt_add, nt_mul, nt_addl, lit_add, nt_mull, lit_mul, nt_sub, nt_subl, lit_sub, nt_divl, nt_m1, nt_m2, nt_m1', nt_m2', if_neg, f_X12_together_11, f_X12_together_12, f_X12_together_13, false_or, p2, hpj]
              have est : stM n (tgP n m w s t) (some j) i = if pblk n i ≤ pblk n j then some j else some i := by unfold stM; rw [etg]; rfl
              by_cases c2 : pblk n i ≤ pblk n j
              · rw [if_pos c2]
                refine ok_some ?_
                show _ = _
                rw [es, est, if_pos c2]
              · rw [if_neg c2]
                refine ok_some ?_
                show _ = _
                rw [es, est, if_neg c2]
          · rw [if_neg c]
            have : stM n (tgP n m w s t) o i = o := by
              unfold stM tgP; rw [eg, decide_eq_false c]; rfl
            refine ok_some ?_
            show _ = _
            rw [es, this]
      · rintro r rfl
        obtain ⟨j, hj⟩ := bM_ex (n := n) (P := tgP n m w s t) (pts_pos n (by omega) (by omega)) (tg0 hn V hs ht)
        have hjl := bM_lt hj
        rw [hj]
        simp (disch := omega) only [b_X12_together_7, h40, nt_clamp, nt_le, nt_lt, nt_eq, lit_le, lit_lt, le_lit, lt_lit, eq_lit, lit_eq, nt_neg, nt_ge, nt_add, nt_mul, nt_addl, lit_add, nt_mull, lit_mul, nt_sub, nt_subl, lit_sub, nt_divl, nt_m1, nt_m2, nt_m1', nt_m2', if_pos, f_X12_together_14, o1, false_or, if_neg, (hP j hjl).1, Option.map_some]
        exact ok_some ⟨rfl, rfl, fun _ => ⟨a1, a2⟩, a3⟩
