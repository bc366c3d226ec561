/-! the text gone through: SYNTAX and ROOM -/
def st (tb : Nat → Nat) : Nat → Nat
  | 0 => en tb qB 0
  | k + 1 => en tb qB (te tb (st tb k))
theorem st_s (tb : Nat → Nat) (k : Nat) : st tb (k + 1) = en tb qB (te tb (st tb k)) := rfl
theorem st_le {l : Nat} {tb : Nat → Nat} (T : Tb l tb) : ∀ k, (∀ j, j < k → st tb j < l) → st tb k ≤ l := by
  intro k
  cases k with
  | zero => intro _; exact en_le T rfl (Nat.zero_le _)
  | succ k => intro h; exact en_le T rfl (te_le T (h k (by omega)))
theorem st_lt (tb : Nat → Nat) (k : Nat) : st tb k < st tb (k + 1) := Nat.lt_of_lt_of_le (te_gt tb (st tb k)) (en_ge _ _ _)
/-- the automaton: kind of the line, what is due, state lines -/
def nf (q : Nat × Nat × Nat) (k : Nat) : Nat := if q.2.1 < (shp q.1).length then (if fitb ((shp q.1).getD q.2.1 0) k = true then 0 else 1) else if (shp k).length = 0 then 1 else if k = 4 ∧ 6 ≤ q.2.2 then 2 else 0
def nq (q : Nat × Nat × Nat) (k : Nat) : Nat × Nat × Nat := if q.2.1 < (shp q.1).length then (q.1, q.2.1 + 1, q.2.2) else (k, 0, q.2.2 + (if k = 4 then 1 else 0))
def aq (tb : Nat → Nat) : Nat → Nat × Nat × Nat
  | 0 => (0, 0, 0)
  | k + 1 => nq (aq tb k) (kd tb (st tb k))
def flt (tb : Nat → Nat) (k : Nat) : Nat := if nf (aq tb k) (kd tb (st tb k)) = 0 then (if 400 ≤ k then 2 else 0) else nf (aq tb k) (kd tb (st tb k))
theorem nf_le (q : Nat × Nat × Nat) (k : Nat) : nf q k ≤ 2 := by
  unfold nf
  repeat' split
  all_goals omega
theorem flt_le (tb : Nat → Nat) (k : Nat) : flt tb k ≤ 2 := by
  unfold flt
  have := nf_le (aq tb k) (kd tb (st tb k))
  repeat' split
  all_goals omega
theorem aq_c (tb : Nat → Nat) : ∀ k, (aq tb k).1 < 9 ∧ (aq tb k).2.1 ≤ (shp (aq tb k).1).length ∧ (aq tb k).2.2 ≤ k := by
  intro k
  induction k with
  | zero => exact ⟨by show 0 < 9; omega, Nat.zero_le _, Nat.le_refl _⟩
  | succ k ih =>
    show (nq (aq tb k) (kd tb (st tb k))).1 < 9 ∧ (nq (aq tb k) (kd tb (st tb k))).2.1 ≤ (shp (nq (aq tb k) (kd tb (st tb k))).1).length ∧ (nq (aq tb k) (kd tb (st tb k))).2.2 ≤ k + 1
    unfold nq
    split
    · rename_i h
      exact ⟨ih.1, h, by have := ih.2.2; show (aq tb k).2.2 ≤ k + 1; omega⟩
    · refine ⟨kd_lt _ _, Nat.zero_le _, ?_⟩
      show (aq tb k).2.2 + (if kd tb (st tb k) = 4 then 1 else 0) ≤ k + 1
      have := ih.2.2
      split <;> omega
/-- where the scan ends -/
def sK (l : Nat) (tb : Nat → Nat) : Nat := (ff 401 (fun k => decide (l ≤ st tb k) || decide (¬ flt tb k = 0))).getD 0
theorem sK_ok (l : Nat) (tb : Nat → Nat) : sK l tb ≤ 400 ∧ (l ≤ st tb (sK l tb) ∨ ¬ flt tb (sK l tb) = 0) ∧ ∀ j, j < sK l tb → st tb j < l ∧ flt tb j = 0 := by
  unfold sK
  have hx : ∃ k, k < 401 ∧ (decide (l ≤ st tb k) || decide (¬ flt tb k = 0)) = true := by
    refine ⟨400, by omega, ?_⟩
    have : ¬ flt tb 400 = 0 := by
      unfold flt
      split
      · rw [if_pos (by omega)]; omega
      · assumption
    rw [decide_eq_true this, Bool.or_true]
  cases e : ff 401 (fun k => decide (l ≤ st tb k) || decide (¬ flt tb k = 0)) with
  | none =>
    obtain ⟨k, hk, hp⟩ := hx
    have := ff_none.mp e k hk
    rw [hp] at this; cases this
  | some k =>
    obtain ⟨h1, h2, h3⟩ := ff_some.mp e
    refine ⟨by show k ≤ 400; omega, ?_, ?_⟩
    · show l ≤ st tb k ∨ ¬ flt tb k = 0
      rw [Bool.or_eq_true, decide_eq_true_eq, decide_eq_true_eq] at h2
      exact h2
    · intro j hj
      have := h3 j hj
      rw [Bool.or_eq_false_iff, decide_eq_false_iff_not, decide_eq_false_iff_not] at this
      exact ⟨by omega, by omega⟩
def due (tb : Nat → Nat) (k : Nat) : Bool := decide ((aq tb k).2.1 < (shp (aq tb k).1).length)
def sF (l : Nat) (tb : Nat → Nat) : Nat := if st tb (sK l tb) < l then flt tb (sK l tb) else if due tb (sK l tb) = true then 1 else 0
def sP (l : Nat) (tb : Nat → Nat) : Int32 := if st tb (sK l tb) < l then nt (st tb (sK l tb)) else if due tb (sK l tb) = true then nt l else -1
def TK (tb : Nat → Nat) (k : Nat) (I : xI) : Prop := I 26 4 = nt k ∧ ∀ j, j < k → I 27 j = nt (kd tb (st tb j)) ∧ I 28 j = nt (st tb j) ∧ I 29 j = nt (te tb (st tb j) - st tb j)
def sReg (c j : Nat) : Prop := (27 ≤ c ∧ c ≤ 29) ∨ (c = 26 ∧ 4 ≤ j ∧ j ≤ 7)
theorem Tp_fr {l : Nat} {tb : Nat → Nat} {I I' : xI} (h : Tp l tb I) (hf : ∀ c j, (c = 25 ∨ (c = 24 ∧ j = 1)) → I' c j = I c j) : Tp l tb I' := by
  refine ⟨h.1, (hf 24 1 (by omega)).trans h.2.1, ?_⟩
  intro k hk
  rw [hf 25 k (by omega)]; exact h.2.2 k hk
theorem cfail_0 {I : xI} {J : xJ} (x : Int32) : f_X10_fail 0 x I J = some ((), I, J) := by
  simp only [f_X10_fail_3, f_X10_fail_2, f_X10_fail_1, f_X10_fail_0, f_X10_fail, if_true, ite_self]
theorem cfail_k {I : xI} {J : xJ} {a : Int32} (h : ¬ I 26 5 = 0) (x : Int32) : f_X10_fail a x I J = some ((), I, J) := by
  simp only [f_X10_fail_3, f_X10_fail_2, f_X10_fail_1, f_X10_fail_0, f_X10_fail, if_neg h]
theorem cfail_a {I : xI} {J : xJ} {a : Int32} (h : I 26 5 = 0) (ha : ¬ a = 0) (x : Int32) : f_X10_fail a x I J = some ((), xup (xup I 26 5 a) 26 6 x, J) := by
  simp only [f_X10_fail_3, f_X10_fail_2, f_X10_fail_1, f_X10_fail_0, f_X10_fail, if_pos h, if_neg ha]
theorem tkeep_ok {I : xI} {J : xJ} {k : Nat} (h : I 26 4 = nt k) (hk : k < 400) (a b c : Int32) : f_X10_keep a b c I J = some ((), xup (xup (xup (xup I 27 k a) 28 k b) 29 k c) 26 4 (nt (k + 1)), J) := by
  simp (disch := omega) only [f_X10_keep, f_X10_keep_0, f_X10_keep_3, h, nt_clamp, nt_le, nt_lt, nt_eq, lit_le, lit_lt, le_lit, lt_lit, eq_lit, lit_eq, nt_neg, nt_ge, nt_add, nt_mul, nt_addl, lit_add, nt_mull, lit_mul, nt_sub, nt_subl, lit_sub, nt_divl, nt_m1, nt_m2, nt_m1', nt_m2', if_pos, if_neg, false_or, xup_bj]
/-- what one step leaves -/
def Sd (l : Nat) (tb : Nat → Nat) (k a : Nat) (I I' : xI) (J : xJ) (w x : Nat) (o : (Nat × Int32 × Int32 × Int32 × Option Value × Option Value × xI × xJ) ⊕ (Unit × xI × xJ)) : Prop := ∃ z5 z6 I3, o = .inl (w, nt x, nt (st tb (k + 1)), nt (k + 1), z5, z6, I3, J) ∧ I3 26 5 = nt a ∧ (¬ a = 0 → I3 26 6 = nt (st tb k)) ∧ (a = 0 → I3 26 6 = I 26 6 ∧ TK tb (k + 1) I3 ∧ I3 26 7 = I' 26 7) ∧ ∀ c j, ¬ sReg c j → I3 c j = I c j
theorem scan20_ok {l : Nat} {tb : Nat → Nat} {I I2 : xI} {J : xJ} (h : Tp l tb I2) {k a w x : Nat} (hk : k ≤ 400) (hs : st tb k < l) (hT : TK tb k I2) (ha : a ≤ 2) (h5 : I2 26 5 = nt a) (h6 : ¬ a = 0 → I2 26 6 = nt (st tb k)) (h60 : a = 0 → I2 26 6 = I 26 6) (hf : ∀ c j, ¬ sReg c j → I2 c j = I c j) : Ok (f_X10_scan_20 w (nt x) (nt (st tb k)) (nt k) (nt (te tb (st tb k))) (nt (kd tb (st tb k))) I2 J) (Sd l tb k (if a = 0 then (if 400 ≤ k then 2 else 0) else a) I I2 J w x) := by
  have hl := h.1.1
  have t1 := te_gt tb (st tb k)
  have t2 := te_le h.1 hs
  unfold f_X10_scan_20
  by_cases c : k < 400
  · rw [if_neg (show ¬ 400 ≤ k from by omega)]
    rw [nt_sub (Nat.le_of_lt t1), tkeep_ok hT.1 c]
    rw [Option.bind_some]
    have hTp : Tp l tb (xup (xup (xup (xup I2 27 k (nt (kd tb (st tb k)))) 28 k (nt (st tb k))) 29 k (nt (te tb (st tb k) - st tb k))) 26 4 (nt (k + 1))) := by
      refine Tp_fr h (fun c j hc => ?_)
      simp (disch := omega) only [xup_bj]
    simp only [f_X10_scan_21, f_X10_scan_22, skip_ok hTp t2, Option.bind_some, nt_addl]
    refine ok_some ⟨_, _, _, rfl, ?_, ?_, ?_, ?_⟩
    · simp (disch := omega) only [xup_bj, xup_j, h5]
      by_cases ca : a = 0
      · rw [if_pos ca, ca]
      · rw [if_neg ca]
    · intro ca
      have ca' : ¬ a = 0 := fun h => ca (by rw [if_pos h])
      simp (disch := omega) only [xup_bj, xup_j]
      exact h6 ca'
    · intro ca
      have ca' : a = 0 := by
        by_cases h : a = 0
        · exact h
        · rw [if_neg h] at ca; exact ca
      refine ⟨?_, ⟨?_, ?_⟩, ?_⟩
      · simp (disch := omega) only [xup_bj, xup_j]; exact h60 ca'
      · exact xup_at _ _ _ _
      · intro j hj
        by_cases cj : j = k
        · rw [cj]
          simp (disch := omega) only [xup_bj, xup_at]
          exact ⟨trivial, trivial, trivial⟩
        · simp (disch := omega) only [xup_bj, xup_j]
          exact hT.2 j (by omega)
      · simp (disch := omega) only [xup_bj, xup_j]
    · intro c' j hr
      unfold sReg at hr
      rw [← hf c' j (by unfold sReg; exact hr)]
      by_cases c26 : c' = 26
      · rw [c26]
        simp (disch := omega) only [xup_bj, xup_j]
      · simp (disch := omega) only [xup_bj]
  · rw [if_pos (show 400 ≤ k from by omega)]
    have hk4 : I2 26 4 = nt k := hT.1
    have hnl : ¬ I2 26 4 < 400 := by rw [hk4, lt_lit (by omega) (by omega)]; exact c
    simp only [f_X10_keep, f_X10_keep_0, if_neg hnl, f_X10_keep_1]
    by_cases ca : a = 0
    · have h50 : I2 26 5 = 0 := by rw [h5, ca]; rfl
      rw [if_pos ca]
      simp only [cfail_a h50 (show ¬ (2 : Int32) = 0 from by decide), f_X10_keep_2, Option.bind_some]
      have hTp : Tp l tb (xup (xup I2 26 5 2) 26 6 (nt (st tb k))) := by
        refine Tp_fr h (fun c j hc => ?_)
        simp (disch := omega) only [xup_bj]
      simp only [f_X10_scan_21, f_X10_scan_22, skip_ok hTp t2, Option.bind_some, nt_addl]
      refine ok_some ⟨_, _, _, rfl, ?_, ?_, ?_, ?_⟩
      · simp (disch := omega) only [xup_j, xup_at]; rfl
      · intro _
        exact xup_at _ _ _ _
      · intro h; omega
      · intro c' j hr
        unfold sReg at hr
        rw [← hf c' j (by unfold sReg; exact hr)]
        by_cases c26 : c' = 26
        · rw [c26]
          simp (disch := omega) only [xup_j]
        · simp (disch := omega) only [xup_bj]
    · have h50 : ¬ I2 26 5 = 0 := by rw [h5, show (0 : Int32) = nt 0 from rfl, nt_eq (by omega) (by omega)]; exact ca
      rw [if_neg ca]
      simp only [cfail_k h50, f_X10_keep_2, Option.bind_some]
      simp only [f_X10_scan_21, f_X10_scan_22, skip_ok h t2, Option.bind_some, nt_addl]
      exact ok_some ⟨_, _, _, rfl, h5, h6, fun h => absurd h ca, hf⟩
