/-! classes, greatest, fewest, isClass, leads, small, home, met -/
def caB (n m : Nat) (w : aT) (I : xI) : Prop := I 36 8 = I 1 2 → cCo n m w (I 36 4) (I 36 5) (I 36 7) (I 37) (I 38) (I 39) (I 40)
def caC (n m : Nat) (w : aT) (I : xI) : Prop := I 36 13 = I 1 2 → cFw n m w (I 36 12) (I 42)
def caABC (n m : Nat) (w : aT) (I : xI) : Prop := caA m w I ∧ caB n m w I ∧ caC n m w I
def qReg (c j : Nat) : Prop := pReg c j ∨ (36 ≤ c ∧ c ≤ 42)
theorem coverNow_ok {n m : Nat} {w : aT} {I : xI} {J : xJ} (hn : n ≤ 6) (hm : m ≤ 4) (V : Vd n m w) (h : cMa n m w (I 1 0) (I 1 1) (I 2) (I 3) (I 4)) (hA : caABC n m w I) : Ok (f_X11_coverNow I J) (fun o => o.2.2 = J ∧ caABC n m w o.2.1 ∧ cPa m w (o.2.1 32 3) (o.2.1 33) (o.2.1 34) ∧ cCo n m w (o.2.1 36 4) (o.2.1 36 5) (o.2.1 36 7) (o.2.1 37) (o.2.1 38) (o.2.1 39) (o.2.1 40) ∧ ∀ c j, ¬ qReg c j → o.2.1 c j = I c j) := by
  obtain ⟨cA, cB, cC⟩ := hA
  unfold f_X11_coverNow f_X11_coverNow_0
  apply ok_bind
  refine (refresh_ok hn hm V h cA).imp ?_
  rintro ⟨_, I1, J1⟩ ⟨rfl, a1, a2, a3⟩
  dsimp only at a1 a2 a3 ⊢
  have hM1 := cMa_fr h (fun c j h1 h2 => a3 c j (by omega) (by omega) (by omega))
  have e12 : I1 1 2 = I 1 2 := a3 1 2 (by omega) (by omega) (by omega)
  have e36 : I1 36 = I 36 := funext fun j => a3 36 j (by omega) (by omega) (by omega)
  have eq : ∀ c, 37 ≤ c → c ≤ 42 → I1 c = I c := fun c h1 h2 => funext fun j => a3 c j (by omega) (by omega) (by omega)
  unfold f_X11_coverNow_1
  apply ok_bind
  refine (crefr_ok hn hm V hM1 a1 (by rw [e36, e12, eq 37 (by omega) (by omega), eq 38 (by omega) (by omega), eq 39 (by omega) (by omega), eq 40 (by omega) (by omega)]; exact cB)).imp ?_
  rintro ⟨_, I2, J2⟩ ⟨rfl, b1, b2, b3⟩
  dsimp only at b1 b2 b3 ⊢
  have f12 : I2 1 2 = I 1 2 := (b3 1 2 (by omega) (by omega) (by omega) (by omega) (by omega)).trans e12
  have f33 : I2 33 = I1 33 := funext fun j => b3 33 j (by omega) (by omega) (by omega) (by omega) (by omega)
  have f34 : I2 34 = I1 34 := funext fun j => b3 34 j (by omega) (by omega) (by omega) (by omega) (by omega)
  have f42 : I2 42 = I 42 := (funext fun j => b3 42 j (by omega) (by omega) (by omega) (by omega) (by omega)).trans (eq 42 (by omega) (by omega))
  have hp2 : cPa m w (I2 32 3) (I2 33) (I2 34) := by
    rw [f33, f34, b3 32 3 (by omega) (by omega) (by omega) (by omega) (by omega)]; exact a1
  refine ok_some ⟨rfl, ⟨fun _ => hp2, fun _ => b1, ?_⟩, hp2, b1, ?_⟩
  · intro hs
    show cFw n m w (I2 36 12) (I2 42)
    rw [f42, b3 36 12 (by omega) (by omega) (by omega) (by omega) (by omega), e36]
    apply cC
    have hs : I2 36 13 = I2 1 2 := hs
    rw [f12, b3 36 13 (by omega) (by omega) (by omega) (by omega) (by omega), e36] at hs
    exact hs
  · intro c j hr
    unfold qReg pReg at hr
    exact (b3 c j (by omega) (by omega) (by omega) (by omega) (by omega)).trans (a3 c j (by omega) (by omega) (by omega))
theorem fewestNow_ok {n m : Nat} {w : aT} {I : xI} {J : xJ} (hn : n ≤ 6) (hm : m ≤ 4) (V : Vd n m w) (h : cMa n m w (I 1 0) (I 1 1) (I 2) (I 3) (I 4)) (hA : caABC n m w I) : Ok (f_X11_fewestNow I J) (fun o => o.2.2 = J ∧ caABC n m w o.2.1 ∧ cFw n m w (o.2.1 36 12) (o.2.1 42) ∧ ∀ c j, ¬ qReg c j → o.2.1 c j = I c j) := by
  have key : Ok (f_X11_coverNow I J) (fun o => Ok (f_X11_fewestNow_2 o.2.1 o.2.2) (fun o => o.2.2 = J ∧ caABC n m w o.2.1 ∧ cFw n m w (o.2.1 36 12) (o.2.1 42) ∧ ∀ c j, ¬ qReg c j → o.2.1 c j = I c j)) := by
    refine (coverNow_ok hn hm V h hA).imp ?_
    rintro ⟨_, I1, J1⟩ ⟨rfl, ⟨cA, cB, cC⟩, a1, a2, a3⟩
    dsimp only at cA cB cC a1 a2 a3 ⊢
    have hM1 := cMa_fr h (fun c j h1 h2 => a3 c j (by unfold qReg pReg; omega))
    have hR : cRd n m w I1 := by
      obtain ⟨_, h4, h38, h40, hW, _, _⟩ := a2
      exact ⟨hM1.1, hM1.2.1, h4, h38, h40, hW⟩
    unfold f_X11_fewestNow_2
    apply ok_bind
    refine (refrFew_ok hn hm V hR cC).imp ?_
    rintro ⟨_, I2, J2⟩ ⟨rfl, b1, b2, b3⟩
    dsimp only at b1 b2 b3 ⊢
    have eq : ∀ c, ¬ c = 36 → ¬ c = 41 → ¬ c = 42 → I2 c = I1 c := fun c h1 h2 h3 => funext fun j => b3 c j h2 h3 (by omega)
    refine ok_some ⟨rfl, ⟨?_, ?_, fun _ => b1⟩, b1, ?_⟩
    · intro _
      show cPa m w (I2 32 3) (I2 33) (I2 34)
      rw [eq 32 (by omega) (by omega) (by omega), eq 33 (by omega) (by omega) (by omega), eq 34 (by omega) (by omega) (by omega)]
      exact a1
    · intro _
      show cCo n m w (I2 36 4) (I2 36 5) (I2 36 7) (I2 37) (I2 38) (I2 39) (I2 40)
      rw [eq 37 (by omega) (by omega) (by omega), eq 38 (by omega) (by omega) (by omega), eq 39 (by omega) (by omega) (by omega), eq 40 (by omega) (by omega) (by omega), b3 36 4 (by omega) (by omega) (by omega), b3 36 5 (by omega) (by omega) (by omega), b3 36 7 (by omega) (by omega) (by omega)]
      exact a2
    · intro c j hr
      have hr' := hr
      unfold qReg pReg at hr
      exact (b3 c j (by omega) (by omega) (by omega)).trans (a3 c j hr')
  unfold f_X11_coverNow f_X11_coverNow_0 f_X11_coverNow_1 f_X11_coverNow_2 at key
  unfold f_X11_fewestNow f_X11_fewestNow_0 f_X11_fewestNow_1
  obtain ⟨o1, e1, o2, e2, q⟩ := key
  obtain ⟨t1, t2, t3⟩ := Option.bind_eq_some_iff.mp e1
  obtain ⟨t4, t5, t6⟩ := Option.bind_eq_some_iff.mp t3
  cases t6
  refine ⟨o2, ?_, q⟩
  rw [t2, Option.bind_some, t5, Option.bind_some]
  exact e2
def ofR (l : List Nat) (i : Int32) : Int32 := if i = -1 then nt l.length else if isS l.length i = true then nt (l.getD i.toNatClampNeg 0) else -1
theorem cclasses_ok {n m : Nat} {w : aT} {I : xI} {J : xJ} (hn : n ≤ 6) (hm : m ≤ 4) (V : Vd n m w) (h : cMa n m w (I 1 0) (I 1 1) (I 2) (I 3) (I 4)) (hA : caABC n m w I) : Ok (f_X11_classes I J) (fun o => o.2.2 = J ∧ o.1 = nt (cls n m w).length ∧ caABC n m w o.2.1 ∧ ∀ c j, ¬ qReg c j → o.2.1 c j = I c j) := by
  unfold f_X11_classes f_X11_classes_0
  apply ok_bind
  refine (coverNow_ok hn hm V h hA).imp ?_
  rintro ⟨_, I1, J1⟩ ⟨rfl, cA, a1, a2, a3⟩
  exact ok_some ⟨rfl, a2.2.1, cA, a3⟩
theorem rclasses_ok {n m : Nat} {w : aT} {I : xI} {J : xJ} (hn : n ≤ 6) (hm : m ≤ 4) (V : Vd n m w) (h0 : I 61 17 = nt n) (h1 : I 61 18 = nt m) (h : rMa n m w (I 70) 0) (hc : rCa n m w I) : Ok (f_X12_classes I J) (fun o => o.2.2 = J ∧ o.1 = nt (cls n m w).length ∧ rCa n m w o.2.1 ∧ ∀ c j, ¬ kReg c j → o.2.1 c j = I c j) := by
  unfold f_X12_classes f_X12_classes_0
  apply ok_bind
  refine (knows_ok hn hm V h0 h1 h hc).imp ?_
  rintro ⟨_, I1, J1⟩ ⟨rfl, a1, a2, a3⟩
  exact ok_some ⟨rfl, a1.2.1.1, fun _ => ⟨a1, a2⟩, a3⟩
theorem grs_len {n m : Nat} {w : aT} (hn : n ≤ 6) : (grs n m w).length ≤ 63 := by
  have h64 := pow_le hn
  have hp := pow_pos2 n
  have := fl_len (pg_0 n (rd m w)) (k := 2 ^ n - 1)
  rw [show 2 ^ n - 1 + 1 = 2 ^ n from by omega] at this
  unfold grs; omega
theorem cgreatest_ok {n m : Nat} {w : aT} {I : xI} {J : xJ} (hn : n ≤ 6) (hm : m ≤ 4) (V : Vd n m w) (h : cMa n m w (I 1 0) (I 1 1) (I 2) (I 3) (I 4)) (hA : caABC n m w I) (i : Int32) : Ok (f_X11_greatest i I J) (fun o => o.2.2 = J ∧ o.1 = ofR (grs n m w) i ∧ caABC n m w o.2.1 ∧ ∀ c j, ¬ qReg c j → o.2.1 c j = I c j) := by
  have hl := grs_len (m := m) (w := w) hn
  unfold f_X11_greatest f_X11_greatest_0
  apply ok_bind
  refine (coverNow_ok hn hm V h hA).imp ?_
  rintro ⟨_, I1, J1⟩ ⟨rfl, cA, a1, a2, a3⟩
  dsimp only at cA a1 a2 a3 ⊢
  have h7 := a2.2.2.2.2.2.1
  have h39 := a2.2.2.2.2.2.2
  unfold ofR
  simp only [f_X11_greatest_1, h7]
  by_cases hi1 : i = -1
  · rw [if_pos hi1, if_pos hi1]
    exact ok_some ⟨rfl, rfl, cA, a3⟩
  · rw [if_neg hi1, if_neg hi1]
    unfold f_X11_greatest_3
    rcases nt_all i with hz | ⟨k, hk, rfl⟩
    · rw [if_pos hz, isS_neg hz]
      exact ok_some ⟨rfl, rfl, cA, a3⟩
    · rw [isS_nt (by omega) hk, nt_clamp hk]
      simp (disch := omega) only [f_X11_greatest_4, nt_clamp, nt_le, nt_lt, nt_eq, lit_le, lit_lt, le_lit, lt_lit, eq_lit, lit_eq, nt_neg, nt_ge, nt_add, nt_mul, nt_addl, lit_add, nt_mull, lit_mul, nt_sub, nt_subl, lit_sub, nt_divl, nt_m1, nt_m2, nt_m1', nt_m2', if_false]
      by_cases hc : (grs n m w).length ≤ k
      · rw [if_pos hc, decide_eq_false (by omega)]
        exact ok_some ⟨rfl, rfl, cA, a3⟩
      · rw [if_neg hc, decide_eq_true (by omega)]
        simp (disch := omega) only [f_X11_greatest_5, f_X11_greatest_7, nt_clamp, nt_le, nt_lt, nt_eq, lit_le, lit_lt, le_lit, lt_lit, eq_lit, lit_eq, nt_neg, nt_ge, nt_add, nt_mul, nt_addl, lit_add, nt_mull, lit_mul, nt_sub, nt_subl, lit_sub, nt_divl, nt_m1, nt_m2, nt_m1', nt_m2', false_or, if_neg]
        exact ok_some ⟨rfl, getD_Ls h39 (by omega), cA, a3⟩
theorem rgreatest_ok {n m : Nat} {w : aT} {I : xI} {J : xJ} (hn : n ≤ 6) (hm : m ≤ 4) (V : Vd n m w) (h0 : I 61 17 = nt n) (h1 : I 61 18 = nt m) (h : rMa n m w (I 70) 0) (hc : rCa n m w I) (i : Int32) : Ok (f_X12_greatest i I J) (fun o => o.2.2 = J ∧ o.1 = ofR (grs n m w) i ∧ rCa n m w o.2.1 ∧ ∀ c j, ¬ kReg c j → o.2.1 c j = I c j) := by
  have hl := grs_len (m := m) (w := w) hn
  unfold f_X12_greatest f_X12_greatest_0
  apply ok_bind
  refine (knows_ok hn hm V h0 h1 h hc).imp ?_
  rintro ⟨_, I1, J1⟩ ⟨rfl, a1, a2, a3⟩
  dsimp only at a1 a2 a3 ⊢
  have h35 := a1.2.2.1.1
  have h78 := a1.2.2.1.2
  unfold ofR
  simp only [f_X12_greatest_1, h35, f_X12_ofRow_78, f_X12_ofRow_78_0]
  by_cases hi1 : i = -1
  · rw [if_pos hi1, if_pos hi1]
    exact ok_some ⟨rfl, rfl, fun _ => ⟨a1, a2⟩, a3⟩
  · rw [if_neg hi1, if_neg hi1]
    unfold f_X12_ofRow_78_2
    rw [rin_ok (by omega), Option.bind_some]
    unfold f_X12_ofRow_78_3
    dsimp only
    cases hi : isS (grs n m w).length i with
    | false => exact ok_some ⟨rfl, rfl, fun _ => ⟨a1, a2⟩, a3⟩
    | true =>
      obtain ⟨k, hk, rfl⟩ := isS_ex (by omega) hi
      simp (disch := omega) only [bi_0, Bool.true_eq_false, if_false, f_X12_ofRow_78_4, f_X12_ofRow_78_6, nt_clamp, nt_le, nt_lt, nt_eq, lit_le, lit_lt, le_lit, lt_lit, eq_lit, lit_eq, nt_neg, nt_ge, nt_add, nt_mul, nt_addl, lit_add, nt_mull, lit_mul, nt_sub, nt_subl, lit_sub, nt_divl, nt_m1, nt_m2, nt_m1', nt_m2', false_or, if_neg, Option.bind_some, f_X12_greatest_2, if_true]
      exact ok_some ⟨rfl, getD_Ls h78 hk, fun _ => ⟨a1, a2⟩, a3⟩
noncomputable def fewR (n m : Nat) (w : aT) (i : Int32) : Int32 := if i = -1 then nt (fk n m w) else if isS (fk n m w) i = true then fs n m w i.toNatClampNeg else -1
theorem cfewest_ok {n m : Nat} {w : aT} {I : xI} {J : xJ} (hn : n ≤ 6) (hm : m ≤ 4) (V : Vd n m w) (h : cMa n m w (I 1 0) (I 1 1) (I 2) (I 3) (I 4)) (hA : caABC n m w I) (i : Int32) : Ok (f_X11_fewest i I J) (fun o => o.2.2 = J ∧ o.1 = fewR n m w i ∧ caABC n m w o.2.1 ∧ ∀ c j, ¬ qReg c j → o.2.1 c j = I c j) := by
  unfold f_X11_fewest f_X11_fewest_0
  apply ok_bind
  refine (fewestNow_ok hn hm V h hA).imp ?_
  rintro ⟨_, I1, J1⟩ ⟨rfl, cA, ⟨hO, h12, h42⟩, a3⟩
  dsimp only at cA h12 h42 a3 ⊢
  have hk6 := hO.1
  unfold fewR
  simp only [f_X11_fewest_1, h12]
  by_cases hi1 : i = -1
  · rw [if_pos hi1, if_pos hi1]
    exact ok_some ⟨rfl, rfl, cA, a3⟩
  · rw [if_neg hi1, if_neg hi1]
    unfold f_X11_fewest_3
    rcases nt_all i with hz | ⟨k, hk, rfl⟩
    · rw [if_pos hz, isS_neg hz]
      exact ok_some ⟨rfl, rfl, cA, a3⟩
    · rw [isS_nt (by omega) hk, nt_clamp hk]
      simp (disch := omega) only [f_X11_fewest_4, nt_clamp, nt_le, nt_lt, nt_eq, lit_le, lit_lt, le_lit, lt_lit, eq_lit, lit_eq, nt_neg, nt_ge, nt_add, nt_mul, nt_addl, lit_add, nt_mull, lit_mul, nt_sub, nt_subl, lit_sub, nt_divl, nt_m1, nt_m2, nt_m1', nt_m2', if_false]
      by_cases hc : fk n m w ≤ k
      · rw [if_pos hc, decide_eq_false (by omega)]
        exact ok_some ⟨rfl, rfl, cA, a3⟩
      · rw [if_neg hc, decide_eq_true (by omega)]
        simp (disch := omega) only [f_X11_fewest_5, f_X11_fewest_7, nt_clamp, nt_le, nt_lt, nt_eq, lit_le, lit_lt, le_lit, lt_lit, eq_lit, lit_eq, nt_neg, nt_ge, nt_add, nt_mul, nt_addl, lit_add, nt_mull, lit_mul, nt_sub, nt_subl, lit_sub, nt_divl, nt_m1, nt_m2, nt_m1', nt_m2', false_or, if_neg]
        exact ok_some ⟨rfl, h42 k (by omega), cA, a3⟩
theorem rfewest_ok {n m : Nat} {w : aT} {I : xI} {J : xJ} (hn : n ≤ 6) (hm : m ≤ 4) (V : Vd n m w) (h0 : I 61 17 = nt n) (h1 : I 61 18 = nt m) (h : rMa n m w (I 70) 0) (hc : rCa n m w I) (i : Int32) : Ok (f_X12_fewest i I J) (fun o => o.2.2 = J ∧ o.1 = fewR n m w i ∧ rCa n m w o.2.1 ∧ ∀ c j, ¬ kReg c j → o.2.1 c j = I c j) := by
  unfold f_X12_fewest f_X12_fewest_0
  apply ok_bind
  refine (knows_ok hn hm V h0 h1 h hc).imp ?_
  rintro ⟨_, I1, J1⟩ ⟨rfl, a1, a2, a3⟩
  dsimp only at a1 a2 a3 ⊢
  obtain ⟨hO, h37, h79⟩ := a1.2.2.2.1
  have hk6 := hO.1
  unfold fewR
  simp only [f_X12_fewest_1, h37, f_X12_ofRow_79, f_X12_ofRow_79_0]
  by_cases hi1 : i = -1
  · rw [if_pos hi1, if_pos hi1]
    exact ok_some ⟨rfl, rfl, fun _ => ⟨a1, a2⟩, a3⟩
  · rw [if_neg hi1, if_neg hi1]
    unfold f_X12_ofRow_79_2
    rw [rin_ok (by omega), Option.bind_some]
    unfold f_X12_ofRow_79_3
    dsimp only
    cases hi : isS (fk n m w) i with
    | false => exact ok_some ⟨rfl, rfl, fun _ => ⟨a1, a2⟩, a3⟩
    | true =>
      obtain ⟨k, hk, rfl⟩ := isS_ex (by omega) hi
      simp (disch := omega) only [bi_0, Bool.true_eq_false, if_false, f_X12_ofRow_79_4, f_X12_ofRow_79_6, nt_clamp, nt_le, nt_lt, nt_eq, lit_le, lit_lt, le_lit, lt_lit, eq_lit, lit_eq, nt_neg, nt_ge, nt_add, nt_mul, nt_addl, lit_add, nt_mull, lit_mul, nt_sub, nt_subl, lit_sub, nt_divl, nt_m1, nt_m2, nt_m1', nt_m2', false_or, if_neg, Option.bind_some, f_X12_fewest_2, if_true]
      exact ok_some ⟨rfl, h79 k hk, fun _ => ⟨a1, a2⟩, a3⟩
theorem hasSet_ok {n : Nat} {I : xI} {J : xJ} {x : Int32} (hn : n ≤ 6) (h : I 1 0 = nt n) : f_X5_hasSet x I J = some (bi (isS (2 ^ n) x), I, J) := by
  have h64 := pow_le hn
  rcases nt_all x with hx | ⟨k, hk, rfl⟩
  · rw [isS_neg hx]
    simp only [f_X5_hasSet_4, f_X5_hasSet_3, f_X5_hasSet_2, f_X5_hasSet_1, f_X5_hasSet_0, f_X5_hasSet, if_pos hx]
    rfl
  · rw [isS_nt (by omega) hk]
    simp (disch := omega) only [f_X5_hasSet_4, f_X5_hasSet_3, f_X5_hasSet_2, f_X5_hasSet_1, f_X5_hasSet_0, f_X5_hasSet, h, nt_31, shl_nt, nt_clamp, nt_le, nt_lt, nt_eq, lit_le, lit_lt, le_lit, lt_lit, eq_lit, lit_eq, nt_neg, nt_ge, nt_add, nt_mul, nt_addl, lit_add, nt_mull, lit_mul, nt_sub, nt_subl, lit_sub, nt_divl, nt_m1, nt_m2, nt_m1', nt_m2', if_true, if_false, if_pos, if_neg, e01, e10, em12, em21, e0m1, e0m2, e1m1, e1m2, em10, em20, Int32.reduceLT, Int32.reduceLE, eq_self, Option.bind_some, Option.map_some, false_or, or_false, or_self, true_or, or_true, not_true_eq_false, not_false_eq_true, false_and, and_false, true_and, and_true]
    by_cases hc : 2 ^ n ≤ k
    · rw [if_pos hc, decide_eq_false (by omega)]; rfl
    · rw [if_neg hc, decide_eq_true (by omega)]; rfl
theorem isSet0_ok {n : Nat} {I : xI} {J : xJ} {x : Int32} (hn : n ≤ 6) (h : I 61 17 = nt n) : f_X12_isSet x 0 I J = some (bi (isS (2 ^ n) x), I, J) := by
  have h64 := pow_le hn
  simp (disch := omega) only [f_X12_isSet_1, f_X12_isSet_0, f_X12_isSet, h, nt_31, shl_nt, rin_ok, Option.bind_some, bi_ok, if_true]
theorem isSet1_ok {n : Nat} {I : xI} {J : xJ} {x : Int32} (hn : n ≤ 6) (h : I 61 17 = nt n) : f_X12_isSet x 1 I J = some (bi (!decide (x = 0) && isS (2 ^ n) x), I, J) := by
  have h64 := pow_le hn
  have hpp := pow_pos2 n
  have key : f_X12_in x 1 (nt (2 ^ n) - 1) I J = some (bi (!decide (x = 0) && isS (2 ^ n) x), I, J) := by
    rcases nt_all x with hx | ⟨k, hk, rfl⟩
    · rw [isS_neg hx, Bool.and_false]
      have : x < 1 := by
        rw [Int32.lt_iff_toInt_lt] at hx ⊢
        have e1 : (0 : Int32).toInt = 0 := rfl
        have e2 : (1 : Int32).toInt = 1 := rfl
        omega
      simp only [f_X12_in_4, f_X12_in_3, f_X12_in_2, f_X12_in_1, f_X12_in_0, f_X12_in, if_pos this]
      rfl
    · rw [isS_nt (by omega) hk, sub1_nt hn]
      simp (disch := omega) only [f_X12_in_4, f_X12_in_3, f_X12_in_2, f_X12_in_1, f_X12_in_0, f_X12_in, nt_clamp, nt_le, nt_lt, nt_eq, lit_le, lit_lt, le_lit, lt_lit, eq_lit, lit_eq, nt_neg, nt_ge, nt_add, nt_mul, nt_addl, lit_add, nt_mull, lit_mul, nt_sub, nt_subl, lit_sub, nt_divl, nt_m1, nt_m2, nt_m1', nt_m2', if_true, if_false, if_pos, if_neg, e01, e10, em12, em21, e0m1, e0m2, e1m1, e1m2, em10, em20, Int32.reduceLT, Int32.reduceLE, eq_self, Option.bind_some, Option.map_some, false_or, or_false, or_self, true_or, or_true, not_true_eq_false, not_false_eq_true, false_and, and_false, true_and, and_true]
      by_cases h0 : k = 0
      · rw [if_pos (by omega), decide_eq_true h0]; rfl
      · rw [if_neg (by omega), decide_eq_false h0]
        by_cases hc : 2 ^ n - 1 < k
        · rw [if_pos hc, decide_eq_false (by omega)]; rfl
        · rw [if_neg hc, decide_eq_true (by omega)]; rfl
  simp (disch := omega) only [f_X12_isSet_1, f_X12_isSet_0, f_X12_isSet, h, nt_31, shl_nt, key, Option.bind_some, bi_ok, if_true]
def isClassR (n m : Nat) (w : aT) (x : Int32) : Int32 := if (!decide (x = 0) && isS (2 ^ n) x) = true then bi (alk n (rd m w) x) else -1
theorem cisClass_ok {n m : Nat} {w : aT} {I : xI} {J : xJ} (hn : n ≤ 6) (hm : m ≤ 4) (V : Vd n m w) (h : cMa n m w (I 1 0) (I 1 1) (I 2) (I 3) (I 4)) (hA : caABC n m w I) (x : Int32) : Ok (f_X11_isClass x I J) (fun o => o.2.2 = J ∧ o.1 = isClassR n m w x ∧ caABC n m w o.2.1 ∧ ∀ c j, ¬ qReg c j → o.2.1 c j = I c j) := by
  have h64 := pow_le hn
  unfold f_X11_isClass f_X11_isClass_0 isClassR
  by_cases hx0 : x = 0
  · rw [if_pos hx0, decide_eq_true hx0]
    exact ok_some ⟨rfl, rfl, hA, fun _ _ _ => rfl⟩
  · rw [if_neg hx0, decide_eq_false hx0]
    unfold f_X11_isClass_1
    rw [hasSet_ok hn h.1, Option.bind_some]
    unfold f_X11_isClass_2
    dsimp only
    cases hx : isS (2 ^ n) x with
    | false => exact ok_some ⟨rfl, rfl, hA, fun _ _ _ => rfl⟩
    | true =>
      show Ok (f_X11_isClass_4 x I J) _
      unfold f_X11_isClass_4
      apply ok_bind
      refine (coverNow_ok hn hm V h hA).imp ?_
      rintro ⟨_, I1, J1⟩ ⟨rfl, cA, a1, a2, a3⟩
      dsimp only at cA a1 a2 a3 ⊢
      obtain ⟨S, hS, rfl⟩ := isS_ex (by omega) hx
      have hS0 : 0 < S := by
        rcases Nat.eq_zero_or_pos S with c | c
        · rw [c] at hx0; exact absurd rfl hx0
        · exact c
      have e37 := a2.1 S hS0 hS
      simp (disch := omega) only [f_X11_isClass_5, f_X11_isClass_6, f_X11_isClass_7, f_X11_isClass_8, nt_clamp, nt_le, nt_lt, nt_eq, lit_le, lit_lt, le_lit, lt_lit, eq_lit, lit_eq, nt_neg, nt_ge, nt_add, nt_mul, nt_addl, lit_add, nt_mull, lit_mul, nt_sub, nt_subl, lit_sub, nt_divl, nt_m1, nt_m2, nt_m1', nt_m2', false_or, if_neg, e37, bi_0]
      cases alk n (rd m w) (nt S) with
      | false => exact ok_some ⟨rfl, rfl, cA, a3⟩
      | true => exact ok_some ⟨rfl, rfl, cA, a3⟩
theorem risClass_ok {n m : Nat} {w : aT} {I : xI} {J : xJ} (hn : n ≤ 6) (hm : m ≤ 4) (V : Vd n m w) (h0 : I 61 17 = nt n) (h1 : I 61 18 = nt m) (h : rMa n m w (I 70) 0) (hc : rCa n m w I) (x : Int32) : Ok (f_X12_isClass x I J) (fun o => o.2.2 = J ∧ o.1 = isClassR n m w x ∧ rCa n m w o.2.1 ∧ ∀ c j, ¬ kReg c j → o.2.1 c j = I c j) := by
  unfold f_X12_isClass f_X12_isClass_0 isClassR
  rw [isSet1_ok hn h0, Option.bind_some]
  unfold f_X12_isClass_1
  dsimp only
  cases hx : (!decide (x = 0) && isS (2 ^ n) x) with
  | false => exact ok_some ⟨rfl, rfl, hc, fun _ _ _ => rfl⟩
  | true =>
    show Ok (f_X12_isClass_3 x I J) _
    unfold f_X12_isClass_3
    apply ok_bind
    refine (knows_ok hn hm V h0 h1 h hc).imp ?_
    rintro ⟨_, I1, J1⟩ ⟨rfl, a1, a2, a3⟩
    dsimp only at a1 a2 a3 ⊢
    have e17 : I1 61 17 = nt n := (a3 61 17 (by unfold kReg; omega)).trans h0
    simp only [f_X12_isClass_4, isAlike_ok hn V e17 a1.1, Option.bind_some, f_X12_isClass_5, bi_0]
    cases alk n (rd m w) x with
    | false => exact ok_some ⟨rfl, rfl, fun _ => ⟨a1, a2⟩, a3⟩
    | true => exact ok_some ⟨rfl, rfl, fun _ => ⟨a1, a2⟩, a3⟩
def leadsR (n m : Nat) (w : aT) (x y : Int32) : Int32 := if (isS (2 ^ n) x && isS m y) = true then ld n w x y.toNatClampNeg else -1
theorem cleads_ok {n m : Nat} {w : aT} {I : xI} {J : xJ} (hn : n ≤ 6) (hm : m ≤ 4) (V : Vd n m w) (h : cMa n m w (I 1 0) (I 1 1) (I 2) (I 3) (I 4)) (x y : Int32) : f_X11_leads x y I J = some (leadsR n m w x y, I, J) := by
  unfold f_X11_leads f_X11_leads_0 leadsR
  rw [hasSet_ok hn h.1, Option.bind_some]
  unfold f_X11_leads_1
  dsimp only
  cases hx : isS (2 ^ n) x with
  | false => rfl
  | true =>
    show f_X11_leads_2 x y I J = _
    unfold f_X11_leads_2
    rw [hasInput_ok h.2.1 (by omega), Option.bind_some]
    unfold f_X11_leads_3
    dsimp only
    cases hy : isS m y with
    | false => rfl
    | true =>
      obtain ⟨k, hk, rfl⟩ := isS_ex (by omega) hy
      show f_X11_leads_4 x (nt k) I J = _
      simp (disch := omega) only [f_X11_leads_4, f_X11_leads_5, f_X11_leads_7, leadOf_ok hn hm V h, Option.bind_some, nt_clamp, Bool.and_self, if_true]
theorem rleads_ok {n m : Nat} {w : aT} {I : xI} {J : xJ} (hn : n ≤ 6) (hm : m ≤ 4) (V : Vd n m w) (h0 : I 61 17 = nt n) (h1 : I 61 18 = nt m) (h : rMa n m w (I 70) 0) (x y : Int32) : f_X12_leads x y I J = some (leadsR n m w x y, I, J) := by
  unfold f_X12_leads f_X12_leads_0 leadsR
  rw [isSet0_ok hn h0, Option.bind_some]
  unfold f_X12_leads_1
  dsimp only
  cases hx : isS (2 ^ n) x with
  | false => rfl
  | true =>
    show f_X12_leads_2 x y I J = _
    unfold f_X12_leads_2
    rw [isInput_ok h1 (by omega), Option.bind_some]
    unfold f_X12_leads_3
    dsimp only
    cases hy : isS m y with
    | false => rfl
    | true =>
      obtain ⟨k, hk, rfl⟩ := isS_ex (by omega) hy
      show f_X12_leads_4 x (nt k) I J = _
      simp (disch := omega) only [f_X12_leads_4, f_X12_leads_5, f_X12_leads_7, ledTo_ok hn hm V h0 h, Option.bind_some, nt_clamp, Bool.and_self, if_true]
