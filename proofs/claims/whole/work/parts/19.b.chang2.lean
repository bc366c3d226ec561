/-! hangs and cost -/
theorem pcn_8 : ∀ S, S < 8 → pcn S ≤ 3 := by decide
def cosk (n m : Nat) (w : aT) (c : Nat → Nat) : Nat → Option Nat
  | 0 => some 0
  | k + 1 => match cosk n m w c k, hso n m w c k with
    | some s, some S => some (s + pcn S)
    | _, _ => none
theorem cosk_none {n m : Nat} {w : aT} {c : Nat → Nat} {k : Nat} (h : cosk n m w c k = none) (d : Nat) : cosk n m w c (k + d) = none := by
  induction d with
  | zero => exact h
  | succ d ih =>
    show (match cosk n m w c (k + d), hso n m w c (k + d) with
      | some s, some S => some (s + pcn S)
      | _, _ => none) = none
    rw [ih]
theorem cosk_le {n m : Nat} {w : aT} {c : Nat → Nat} : ∀ {k s : Nat}, cosk n m w c k = some s → s ≤ 3 * k := by
  intro k
  induction k with
  | zero => intro s h; cases h; omega
  | succ k ih =>
    intro s h
    unfold cosk at h
    cases e1 : cosk n m w c k with
    | none => rw [e1] at h; cases h
    | some t =>
      cases e2 : hso n m w c k with
      | none => rw [e1, e2] at h; cases h
      | some S =>
        rw [e1, e2] at h
        cases h
        have := ih e1
        have := pcn_8 S (hso_lt e2)
        omega
theorem total_ok {n m : Nat} {w : aT} {c : Nat → Nat} {I : xI} {J : xJ} (hn : n ≤ 6) (V : Vd n m w) (h : I 1 0 = nt n) (hp : cPa m w (I 32 3) (I 33) (I 34)) (hh : cHn n c (I 33) (I 49) (I 50)) : f_X3_total I J = some (o2 (cosk n m w c (nb n)), I, J) := by
  apply Ok.eq
  have hb3 := nb_le n
  unfold f_X3_total f_X3_total_0 f_X3_total_1
  refine ok_loop (fun k s => ∃ z t, s = (nt t, nt k, z, I, J) ∧ cosk n m w c k = some t) (nb n) ?_ ?_ 5000 0 _ (by omega) (by omega) ⟨none, 0, rfl, rfl⟩
  · rintro k hk s ⟨z, t, rfl, g⟩
    have gt := cosk_le g
    have hc1 : cosk n m w c (k + 1) = (match hso n m w c k with
      | some S => some (t + pcn S)
      | none => none) := by
      show (match cosk n m w c k, hso n m w c k with
        | some s, some S => some (s + pcn S)
        | _, _ => none) = _
      rw [g]
      cases hso n m w c k <;> rfl
    simp (disch := omega) only [b_X3_total_1, f_X3_total_2, f_X3_total_3, cbits_ok hn h, leastSet_ok hn V h hp hh hk, nt_clamp, nt_le, nt_lt, nt_eq, lit_le, lit_lt, le_lit, lt_lit, eq_lit, lit_eq, nt_neg, nt_ge, nt_add, nt_mul, nt_addl, lit_add, nt_mull, lit_mul, nt_sub, nt_subl, lit_sub, nt_divl, nt_m1, nt_m2, nt_m1', nt_m2', if_true, if_false, if_pos, if_neg, e01, e10, em12, em21, e0m1, e0m2, e1m1, e1m2, em10, em20, Int32.reduceLT, Int32.reduceLE, eq_self, Option.bind_some, Option.map_some, false_or, or_false, or_self, true_or, or_true, not_true_eq_false, not_false_eq_true, false_and, and_false, true_and, and_true]
    cases e : hso n m w c k with
    | none =>
      rw [e] at hc1
      refine ok_some ?_
      show ((-2 : Int32), I, J) = _
      have := cosk_none hc1 (nb n - (k + 1))
      rw [show k + 1 + (nb n - (k + 1)) = nb n from by omega] at this
      rw [this]; rfl
    | some S =>
      have hS := hso_lt e
      have := pcn_8 S hS
      rw [e] at hc1
      show Ok (f_X3_total_4 (nt t) (nt k) z (nt S) I J) _
      simp (disch := omega) only [f_X3_total_4, f_X3_total_6, bitCount_ok, bcf_64 S (by omega), f_X3_total_7, nt_clamp, nt_le, nt_lt, nt_eq, lit_le, lit_lt, le_lit, lt_lit, eq_lit, lit_eq, nt_neg, nt_ge, nt_add, nt_mul, nt_addl, lit_add, nt_mull, lit_mul, nt_sub, nt_subl, lit_sub, nt_divl, nt_m1, nt_m2, nt_m1', nt_m2', if_true, if_false, if_pos, if_neg, e01, e10, em12, em21, e0m1, e0m2, e1m1, e1m2, em10, em20, Int32.reduceLT, Int32.reduceLE, eq_self, Option.bind_some, Option.map_some, false_or, or_false, or_self, true_or, or_true, not_true_eq_false, not_false_eq_true, false_and, and_false, true_and, and_true]
      exact ok_some ⟨_, _, rfl, hc1⟩
  · rintro s ⟨z, t, rfl, g⟩
    simp (disch := omega) only [b_X3_total_1, f_X3_total_2, f_X3_total_8, cbits_ok hn h, nt_clamp, nt_le, nt_lt, nt_eq, lit_le, lit_lt, le_lit, lt_lit, eq_lit, lit_eq, nt_neg, nt_ge, nt_add, nt_mul, nt_addl, lit_add, nt_mull, lit_mul, nt_sub, nt_subl, lit_sub, nt_divl, nt_m1, nt_m2, nt_m1', nt_m2', if_true, if_false, if_pos, if_neg, e01, e10, em12, em21, e0m1, e0m2, e1m1, e1m2, em10, em20, Int32.reduceLT, Int32.reduceLE, eq_self, Option.bind_some, Option.map_some, false_or, or_false, or_self, true_or, or_true, not_true_eq_false, not_false_eq_true, false_and, and_false, true_and, and_true]
    refine ok_some ?_
    rw [g]; rfl
def hangR (n m : Nat) (w : aT) (x y : Int32) : Int32 := if isS (nb n) x = true ∧ isS 2 y = true then (match hso n m w w.2.2 x.toNatClampNeg with
  | none => -2
  | some S => if y = 1 then nt S else nt (pcn S)) else -1
def costR (n m : Nat) (w : aT) : Int32 := o2 (cosk n m w w.2.2 (nb n))
def hReg (c j : Nat) : Prop := pReg c j ∨ c = 49 ∨ c = 50
theorem hangNow_ok {n m : Nat} {w : aT} {I : xI} {J : xJ} (hn : n ≤ 6) (hm : m ≤ 4) (V : Vd n m w) (h : cMa n m w (I 1 0) (I 1 1) (I 2) (I 3) (I 4)) (hA : caA m w I) : Ok (f_X11_hangingNow I J) (fun o => o.2.2 = J ∧ caA m w o.2.1 ∧ cPa m w (o.2.1 32 3) (o.2.1 33) (o.2.1 34) ∧ cHn n w.2.2 (o.2.1 33) (o.2.1 49) (o.2.1 50) ∧ ∀ c j, ¬ hReg c j → o.2.1 c j = I c j) := by
  unfold f_X11_hangingNow f_X11_hangingNow_0
  apply ok_bind
  refine (refresh_ok hn hm V h hA).imp ?_
  rintro ⟨_, I1, J1⟩ ⟨rfl, a1, a2, a3⟩
  dsimp only at a1 a2 a3 ⊢
  have e10 : I1 1 0 = nt n := (a3 1 0 (by omega) (by omega) (by omega)).trans h.1
  unfold f_X11_hangingNow_1
  apply ok_bind
  refine (load4_ok hn e10 (c := w.2.2) ?_).imp ?_
  · intro s hs
    rw [a3 4 s (by omega) (by omega) (by omega)]
    exact ⟨h.2.2.2.2 s (by omega), V.2.2 s⟩
  rintro ⟨_, I2, J2⟩ ⟨rfl, b1, b2⟩
  dsimp only at b1 b2 ⊢
  have f33 : I2 33 = I1 33 := funext fun j => b2 33 j (by omega) (by omega)
  have f34 : I2 34 = I1 34 := funext fun j => b2 34 j (by omega) (by omega)
  have hp : cPa m w (I2 32 3) (I2 33) (I2 34) := by rw [f33, f34, b2 32 3 (by omega) (by omega)]; exact a1
  refine ok_some ⟨rfl, fun _ => hp, hp, ?_, ?_⟩
  · dsimp only; rw [f33]; exact b1
  · intro c j hr
    unfold hReg pReg at hr
    exact (b2 c j (by omega) (by omega)).trans (a3 c j (by omega) (by omega) (by omega))
theorem isS_2 {y : Int32} : isS 2 y = true ↔ y = 0 ∨ y = 1 := by
  constructor
  · intro h
    obtain ⟨k, hk, rfl⟩ := isS_ex (by omega) h
    rcases (show k = 0 ∨ k = 1 from by omega) with rfl | rfl
    · exact Or.inl rfl
    · exact Or.inr rfl
  · rintro (rfl | rfl) <;> decide
theorem changs_ok {n m : Nat} {w : aT} {I : xI} {J : xJ} (hn : n ≤ 6) (hm : m ≤ 4) (V : Vd n m w) (h : cMa n m w (I 1 0) (I 1 1) (I 2) (I 3) (I 4)) (hA : caA m w I) (x y : Int32) : Ok (f_X11_hangs x y I J) (fun o => o.2.2 = J ∧ o.1 = hangR n m w x y ∧ caA m w o.2.1 ∧ ∀ c j, ¬ hReg c j → o.2.1 c j = I c j) := by
  have hb3 := nb_le n
  simp only [f_X11_hangs, f_X11_hangs_0, hasBit_ok hn h.1, Option.bind_some, f_X11_hangs_1, bi_0]
  unfold hangR
  cases c1 : isS (nb n) x with
  | false =>
    rw [if_pos rfl, if_neg (by simp)]
    exact ok_some ⟨rfl, rfl, hA, fun _ _ _ => rfl⟩
  | true =>
    rw [if_neg (by decide)]
    cases c2 : isS 2 y with
    | false =>
      rw [if_neg (by simp)]
      have : f_X11_hangs_2 x y I J = f_X11_hangs_4 x y I J := by
        unfold f_X11_hangs_2 f_X11_hangs_3
        by_cases c3 : y < 0
        · rw [if_pos c3]
        · rw [if_neg c3]
          by_cases c4 : y ≤ 1
          · exfalso
            rcases nt_all y with hy | ⟨k, hk, rfl⟩
            · exact c3 hy
            · simp (disch := omega) only [nt_clamp, nt_le, nt_lt, nt_eq, lit_le, lit_lt, le_lit, lt_lit, eq_lit, lit_eq, nt_neg, nt_ge, nt_add, nt_mul, nt_addl, lit_add, nt_mull, lit_mul, nt_sub, nt_subl, lit_sub, nt_divl, nt_m1, nt_m2, nt_m1', nt_m2'] at c4
              rw [isS_nt (by omega) hk, decide_eq_true (by omega)] at c2
              cases c2
          · rw [if_neg c4]
      rw [this]
      exact ok_some ⟨rfl, rfl, hA, fun _ _ _ => rfl⟩
    | true =>
      rw [if_pos ⟨rfl, rfl⟩]
      have hy := isS_2.mp c2
      have : f_X11_hangs_2 x y I J = f_X11_hangs_5 x y I J := by
        rcases hy with rfl | rfl <;> rfl
      rw [this]
      obtain ⟨b, hb, rfl⟩ := isS_ex (by omega) c1
      unfold f_X11_hangs_5
      apply ok_bind
      refine (hangNow_ok hn hm V h hA).imp ?_
      rintro ⟨_, I1, J1⟩ ⟨rfl, a1, a2, a3, a4⟩
      dsimp only at a1 a2 a3 a4 ⊢
      have e10 : I1 1 0 = nt n := (a4 1 0 (by unfold hReg pReg; omega)).trans h.1
      simp (disch := omega) only [f_X11_hangs_6, leastSet_ok hn V e10 a2 a3 hb, Option.bind_some, nt_clamp]
      cases e : hso n m w w.2.2 b with
      | none => exact ok_some ⟨rfl, rfl, a1, a4⟩
      | some S =>
        have hS := hso_lt e
        show Ok (f_X11_hangs_7 (nt b) y (nt S) I1 J1) _
        simp (disch := omega) only [f_X11_hangs_7, f_X11_hangs_8, f_X11_hangs_9, f_X11_hangs_10, f_X11_hangs_11, bitCount_ok, bcf_64 S (by omega), nt_clamp, nt_le, nt_lt, nt_eq, lit_le, lit_lt, le_lit, lt_lit, eq_lit, lit_eq, nt_neg, nt_ge, nt_add, nt_mul, nt_addl, lit_add, nt_mull, lit_mul, nt_sub, nt_subl, lit_sub, nt_divl, nt_m1, nt_m2, nt_m1', nt_m2', if_true, if_false, if_pos, if_neg, e01, e10, em12, em21, e0m1, e0m2, e1m1, e1m2, em10, em20, Int32.reduceLT, Int32.reduceLE, eq_self, Option.bind_some, Option.map_some, false_or, or_false, or_self, true_or, or_true, not_true_eq_false, not_false_eq_true, false_and, and_false, true_and, and_true]
        by_cases c3 : y = 1
        · rw [if_pos c3, if_pos c3]; exact ok_some ⟨rfl, rfl, a1, a4⟩
        · rw [if_neg c3, if_neg c3]; exact ok_some ⟨rfl, rfl, a1, a4⟩
theorem ccost_ok {n m : Nat} {w : aT} {I : xI} {J : xJ} (hn : n ≤ 6) (hm : m ≤ 4) (V : Vd n m w) (h : cMa n m w (I 1 0) (I 1 1) (I 2) (I 3) (I 4)) (hA : caA m w I) : Ok (f_X11_cost I J) (fun o => o.2.2 = J ∧ o.1 = costR n m w ∧ caA m w o.2.1 ∧ ∀ c j, ¬ hReg c j → o.2.1 c j = I c j) := by
  unfold f_X11_cost f_X11_cost_0
  apply ok_bind
  refine (hangNow_ok hn hm V h hA).imp ?_
  rintro ⟨_, I1, J1⟩ ⟨rfl, a1, a2, a3, a4⟩
  dsimp only at a1 a2 a3 a4 ⊢
  have e10 : I1 1 0 = nt n := (a4 1 0 (by unfold hReg pReg; omega)).trans h.1
  simp only [f_X11_cost_1, total_ok hn V e10 a2 a3, Option.bind_some, f_X11_cost_2]
  exact ok_some ⟨rfl, rfl, a1, a4⟩
