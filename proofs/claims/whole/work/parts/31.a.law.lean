/-! the law's loop -/
theorem idx1 {L t : Nat} (hL : L ≤ 3072) (ht : t + 6 ≤ L) : ¬ (nt t + 1 < 0 ∨ L ≤ (nt t + 1).toNatClampNeg) := by
  simp (disch := omega) only [nt_clamp, nt_le, nt_lt, nt_eq, lit_le, lit_lt, le_lit, lt_lit, eq_lit, lit_eq, nt_neg, nt_ge, nt_add, nt_mul, nt_addl, lit_add, nt_mull, lit_mul, nt_sub, nt_subl, lit_sub, nt_divl, nt_m1, nt_m2, nt_m1', nt_m2', false_or]; omega
theorem idx2 {L t : Nat} (hL : L ≤ 3072) (ht : t + 6 ≤ L) : ¬ (nt t + 2 < 0 ∨ L ≤ (nt t + 2).toNatClampNeg) := by
  simp (disch := omega) only [nt_clamp, nt_le, nt_lt, nt_eq, lit_le, lit_lt, le_lit, lt_lit, eq_lit, lit_eq, nt_neg, nt_ge, nt_add, nt_mul, nt_addl, lit_add, nt_mull, lit_mul, nt_sub, nt_subl, lit_sub, nt_divl, nt_m1, nt_m2, nt_m1', nt_m2', false_or]; omega
theorem idx3 {L t : Nat} (hL : L ≤ 3072) (ht : t + 6 ≤ L) : ¬ (nt t + 3 < 0 ∨ L ≤ (nt t + 3).toNatClampNeg) := by
  simp (disch := omega) only [nt_clamp, nt_le, nt_lt, nt_eq, lit_le, lit_lt, le_lit, lt_lit, eq_lit, lit_eq, nt_neg, nt_ge, nt_add, nt_mul, nt_addl, lit_add, nt_mull, lit_mul, nt_sub, nt_subl, lit_sub, nt_divl, nt_m1, nt_m2, nt_m1', nt_m2', false_or]; omega
theorem idx4 {L t : Nat} (hL : L ≤ 3072) (ht : t + 6 ≤ L) : ¬ (nt t + 4 < 0 ∨ L ≤ (nt t + 4).toNatClampNeg) := by
  simp (disch := omega) only [nt_clamp, nt_le, nt_lt, nt_eq, lit_le, lit_lt, le_lit, lt_lit, eq_lit, lit_eq, nt_neg, nt_ge, nt_add, nt_mul, nt_addl, lit_add, nt_mull, lit_mul, nt_sub, nt_subl, lit_sub, nt_divl, nt_m1, nt_m2, nt_m1', nt_m2', false_or]; omega
theorem idx5 {L t : Nat} (hL : L ≤ 3072) (ht : t + 6 ≤ L) : ¬ (nt t + 5 < 0 ∨ L ≤ (nt t + 5).toNatClampNeg) := by
  simp (disch := omega) only [nt_clamp, nt_le, nt_lt, nt_eq, lit_le, lit_lt, le_lit, lt_lit, eq_lit, lit_eq, nt_neg, nt_ge, nt_add, nt_mul, nt_addl, lit_add, nt_mull, lit_mul, nt_sub, nt_subl, lit_sub, nt_divl, nt_m1, nt_m2, nt_m1', nt_m2', false_or]; omega
def lQ (A t : Nat) (s : Int32 × xI × xJ) : Prop := ∃ I J, s = (nt (t + 6), I, J) ∧ LI A I J
theorem bo_law {A t : Nat} {f h : xI → xJ → Option (Int32 × xI × xJ)} {G : Int32 → Int32 → xI → xJ → Option ((Int32 × xI × xJ) ⊕ (Int32 × xI × xJ))} {I : xI} {J : xJ} {Q : Int32 × xI × xJ → Prop} (hb : Bo A f h I J) (hG : ∀ s I J, G s s I J = some (.inl (nt t + 6, I, J))) : Ok ((f I J).bind fun o => (h o.2.1 o.2.2).bind fun p => G o.1 p.1 p.2.1 p.2.2) (Sum.elim (lQ A t) Q) := by
  apply ok_bind
  refine hb.imp ?_
  intro o ho
  apply ok_bind
  refine ho.imp ?_
  rintro p ⟨e, hl⟩
  rw [e, hG]
  exact ok_some ⟨p.2.1, p.2.2, by rw [nt_addl], hl⟩
theorem LI_up {A A' : Nat} {I : xI} {J : xJ} (h : LI A I J) (hA : A ≤ A') : LI A' I J := by
  obtain ⟨a, n, m, k, g, sl, l, tb, pl, ha, r⟩ := h
  exact ⟨a, n, m, k, g, sl, l, tb, pl, by omega, r⟩
theorem w_feed {L t A A' : Nat} {xs : Nat → Int32} {I : xI} {J : xJ} {Q : Int32 × xI × xJ → Prop} (hL : L ≤ 3072) (ht : t + 6 ≤ L) (hAA : A + 401 ≤ A') (hA : A' < 1000000000) (h : LI A I J) : Ok (f_L_law_3 L xs (nt t) I J) (Sum.elim (lQ A' t) Q) := by
  obtain ⟨a, n, m, k, g, sl, l, tb, pl, ha, G, hc, hr⟩ := h
  simp only [f_L_law_3, f_L_law_4, if_neg (idx1 hL ht), if_neg (idx2 hL ht), if_neg (idx3 hL ht), if_neg (idx4 hL ht), if_neg (idx5 hL ht)]
  exact bo_law (b_feed (by omega) G hc hr (xs (nt t + 1).toNatClampNeg) (xs (nt t + 2).toNatClampNeg) (xs (nt t + 3).toNatClampNeg) (xs (nt t + 4).toNatClampNeg) (xs (nt t + 5).toNatClampNeg)) (fun s I J => by unfold f_L_law_5; rw [if_pos rfl]; rfl)
theorem w_back {L t A A' : Nat} {xs : Nat → Int32} {I : xI} {J : xJ} {Q : Int32 × xI × xJ → Prop} (hL : L ≤ 3072) (ht : t + 6 ≤ L) (hAA : A + 401 ≤ A') (hA : A' < 1000000000) (h : LI A I J) : Ok (f_L_law_7 L xs (nt t) I J) (Sum.elim (lQ A' t) Q) := by
  obtain ⟨a, n, m, k, g, sl, l, tb, pl, ha, G, hc, hr⟩ := h
  simp only [f_L_law_7, f_L_law_8, if_neg (idx1 hL ht)]
  exact bo_law (b_back (by omega) G hc hr (xs (nt t + 1).toNatClampNeg)) (fun s I J => by unfold f_L_law_9; rw [if_pos rfl]; rfl)
theorem w_read {L t A A' : Nat} {xs : Nat → Int32} {I : xI} {J : xJ} {Q : Int32 × xI × xJ → Prop} (hL : L ≤ 3072) (ht : t + 6 ≤ L) (hAA : A + 401 ≤ A') (hA : A' < 1000000000) (h : LI A I J) : Ok (f_L_law_11 L xs (nt t) I J) (Sum.elim (lQ A' t) Q) := by
  obtain ⟨a, n, m, k, g, sl, l, tb, pl, ha, G, hc, hr⟩ := h
  simp only [f_L_law_11, f_L_law_12]
  exact bo_law (b_read (by omega) hA G hc hr) (fun s I J => by unfold f_L_law_13; rw [if_pos rfl]; rfl)
theorem w_place {L t A A' : Nat} {xs : Nat → Int32} {I : xI} {J : xJ} {Q : Int32 × xI × xJ → Prop} (hL : L ≤ 3072) (ht : t + 6 ≤ L) (hAA : A + 401 ≤ A') (hA : A' < 1000000000) (h : LI A I J) : Ok (f_L_law_15 L xs (nt t) I J) (Sum.elim (lQ A' t) Q) := by
  obtain ⟨a, n, m, k, g, sl, l, tb, pl, ha, G, hc, hr⟩ := h
  simp only [f_L_law_15, f_L_law_16]
  exact bo_law (b_place (by omega) G hc hr) (fun s I J => by unfold f_L_law_17; rw [if_pos rfl]; rfl)
theorem w_set {L t A A' : Nat} {xs : Nat → Int32} {I : xI} {J : xJ} {Q : Int32 × xI × xJ → Prop} (hL : L ≤ 3072) (ht : t + 6 ≤ L) (hAA : A + 401 ≤ A') (hA : A' < 1000000000) (h : LI A I J) : Ok (f_L_law_19 L xs (nt t) I J) (Sum.elim (lQ A' t) Q) := by
  obtain ⟨a, n, m, k, g, sl, l, tb, pl, ha, G, hc, hr⟩ := h
  simp only [f_L_law_19, f_L_law_20, if_neg (idx1 hL ht), if_neg (idx2 hL ht), if_neg (idx3 hL ht), if_neg (idx4 hL ht)]
  exact bo_law (b_set (by omega) hA G hc hr (xs (nt t + 1).toNatClampNeg) (xs (nt t + 2).toNatClampNeg) (xs (nt t + 3).toNatClampNeg) (xs (nt t + 4).toNatClampNeg)) (fun s I J => by unfold f_L_law_21; rw [if_pos rfl]; rfl)
theorem w_code {L t A A' : Nat} {xs : Nat → Int32} {I : xI} {J : xJ} {Q : Int32 × xI × xJ → Prop} (hL : L ≤ 3072) (ht : t + 6 ≤ L) (hAA : A + 401 ≤ A') (hA : A' < 1000000000) (h : LI A I J) : Ok (f_L_law_23 L xs (nt t) I J) (Sum.elim (lQ A' t) Q) := by
  obtain ⟨a, n, m, k, g, sl, l, tb, pl, ha, G, hc, hr⟩ := h
  simp only [f_L_law_23, f_L_law_24, if_neg (idx1 hL ht), if_neg (idx2 hL ht)]
  exact bo_law (b_code (by omega) G hc hr (xs (nt t + 1).toNatClampNeg) (xs (nt t + 2).toNatClampNeg)) (fun s I J => by unfold f_L_law_25; rw [if_pos rfl]; rfl)
theorem w_undo {L t A A' : Nat} {xs : Nat → Int32} {I : xI} {J : xJ} {Q : Int32 × xI × xJ → Prop} (hL : L ≤ 3072) (ht : t + 6 ≤ L) (hAA : A + 401 ≤ A') (hA : A' < 1000000000) (h : LI A I J) : Ok (f_L_law_27 L xs (nt t) I J) (Sum.elim (lQ A' t) Q) := by
  obtain ⟨a, n, m, k, g, sl, l, tb, pl, ha, G, hc, hr⟩ := h
  simp only [f_L_law_27, f_L_law_28]
  exact bo_law (b_undo (by omega) hA G hc hr) (fun s I J => by unfold f_L_law_29; rw [if_pos rfl]; rfl)
theorem w_move {L t A A' : Nat} {xs : Nat → Int32} {I : xI} {J : xJ} {Q : Int32 × xI × xJ → Prop} (hL : L ≤ 3072) (ht : t + 6 ≤ L) (hAA : A + 401 ≤ A') (hA : A' < 1000000000) (h : LI A I J) : Ok (f_L_law_31 L xs (nt t) I J) (Sum.elim (lQ A' t) Q) := by
  obtain ⟨a, n, m, k, g, sl, l, tb, pl, ha, G, hc, hr⟩ := h
  simp only [f_L_law_31, f_L_law_32, if_neg (idx1 hL ht), if_neg (idx2 hL ht), if_neg (idx3 hL ht)]
  exact bo_law (b_move (by omega) G hc hr (xs (nt t + 1).toNatClampNeg) (xs (nt t + 2).toNatClampNeg) (xs (nt t + 3).toNatClampNeg)) (fun s I J => by unfold f_L_law_33; rw [if_pos rfl]; rfl)
theorem w_apart {L t A A' : Nat} {xs : Nat → Int32} {I : xI} {J : xJ} {Q : Int32 × xI × xJ → Prop} (hL : L ≤ 3072) (ht : t + 6 ≤ L) (hAA : A + 401 ≤ A') (hA : A' < 1000000000) (h : LI A I J) : Ok (f_L_law_35 L xs (nt t) I J) (Sum.elim (lQ A' t) Q) := by
  obtain ⟨a, n, m, k, g, sl, l, tb, pl, ha, G, hc, hr⟩ := h
  simp only [f_L_law_35, f_L_law_36, if_neg (idx1 hL ht), if_neg (idx2 hL ht), if_neg (idx3 hL ht)]
  exact bo_law (b_apart (by omega) G hc hr (xs (nt t + 1).toNatClampNeg) (xs (nt t + 2).toNatClampNeg) (xs (nt t + 3).toNatClampNeg)) (fun s I J => by unfold f_L_law_37; rw [if_pos rfl]; rfl)
theorem w_word {L t A A' : Nat} {xs : Nat → Int32} {I : xI} {J : xJ} {Q : Int32 × xI × xJ → Prop} (hL : L ≤ 3072) (ht : t + 6 ≤ L) (hAA : A + 401 ≤ A') (hA : A' < 1000000000) (h : LI A I J) : Ok (f_L_law_39 L xs (nt t) I J) (Sum.elim (lQ A' t) Q) := by
  obtain ⟨a, n, m, k, g, sl, l, tb, pl, ha, G, hc, hr⟩ := h
  simp only [f_L_law_39, f_L_law_40, if_neg (idx1 hL ht), if_neg (idx2 hL ht), if_neg (idx3 hL ht)]
  exact bo_law (b_word (by omega) G hc hr (xs (nt t + 1).toNatClampNeg) (xs (nt t + 2).toNatClampNeg) (xs (nt t + 3).toNatClampNeg)) (fun s I J => by unfold f_L_law_41; rw [if_pos rfl]; rfl)
theorem w_shown {L t A A' : Nat} {xs : Nat → Int32} {I : xI} {J : xJ} {Q : Int32 × xI × xJ → Prop} (hL : L ≤ 3072) (ht : t + 6 ≤ L) (hAA : A + 401 ≤ A') (hA : A' < 1000000000) (h : LI A I J) : Ok (f_L_law_43 L xs (nt t) I J) (Sum.elim (lQ A' t) Q) := by
  obtain ⟨a, n, m, k, g, sl, l, tb, pl, ha, G, hc, hr⟩ := h
  simp only [f_L_law_43, f_L_law_44, if_neg (idx1 hL ht)]
  exact bo_law (b_shown (by omega) G hc hr (xs (nt t + 1).toNatClampNeg)) (fun s I J => by unfold f_L_law_45; rw [if_pos rfl]; rfl)
theorem w_classes {L t A A' : Nat} {xs : Nat → Int32} {I : xI} {J : xJ} {Q : Int32 × xI × xJ → Prop} (hL : L ≤ 3072) (ht : t + 6 ≤ L) (hAA : A + 401 ≤ A') (hA : A' < 1000000000) (h : LI A I J) : Ok (f_L_law_47 L xs (nt t) I J) (Sum.elim (lQ A' t) Q) := by
  obtain ⟨a, n, m, k, g, sl, l, tb, pl, ha, G, hc, hr⟩ := h
  simp only [f_L_law_47, f_L_law_48]
  exact bo_law (b_classes (by omega) G hc hr) (fun s I J => by unfold f_L_law_49; rw [if_pos rfl]; rfl)
theorem w_greatest {L t A A' : Nat} {xs : Nat → Int32} {I : xI} {J : xJ} {Q : Int32 × xI × xJ → Prop} (hL : L ≤ 3072) (ht : t + 6 ≤ L) (hAA : A + 401 ≤ A') (hA : A' < 1000000000) (h : LI A I J) : Ok (f_L_law_51 L xs (nt t) I J) (Sum.elim (lQ A' t) Q) := by
  obtain ⟨a, n, m, k, g, sl, l, tb, pl, ha, G, hc, hr⟩ := h
  simp only [f_L_law_51, f_L_law_52, if_neg (idx1 hL ht)]
  exact bo_law (b_greatest (by omega) G hc hr (xs (nt t + 1).toNatClampNeg)) (fun s I J => by unfold f_L_law_53; rw [if_pos rfl]; rfl)
theorem w_fewest {L t A A' : Nat} {xs : Nat → Int32} {I : xI} {J : xJ} {Q : Int32 × xI × xJ → Prop} (hL : L ≤ 3072) (ht : t + 6 ≤ L) (hAA : A + 401 ≤ A') (hA : A' < 1000000000) (h : LI A I J) : Ok (f_L_law_55 L xs (nt t) I J) (Sum.elim (lQ A' t) Q) := by
  obtain ⟨a, n, m, k, g, sl, l, tb, pl, ha, G, hc, hr⟩ := h
  simp only [f_L_law_55, f_L_law_56, if_neg (idx1 hL ht)]
  exact bo_law (b_fewest (by omega) G hc hr (xs (nt t + 1).toNatClampNeg)) (fun s I J => by unfold f_L_law_57; rw [if_pos rfl]; rfl)
theorem w_isClass {L t A A' : Nat} {xs : Nat → Int32} {I : xI} {J : xJ} {Q : Int32 × xI × xJ → Prop} (hL : L ≤ 3072) (ht : t + 6 ≤ L) (hAA : A + 401 ≤ A') (hA : A' < 1000000000) (h : LI A I J) : Ok (f_L_law_59 L xs (nt t) I J) (Sum.elim (lQ A' t) Q) := by
  obtain ⟨a, n, m, k, g, sl, l, tb, pl, ha, G, hc, hr⟩ := h
  simp only [f_L_law_59, f_L_law_60, if_neg (idx1 hL ht)]
  exact bo_law (b_isClass (by omega) G hc hr (xs (nt t + 1).toNatClampNeg)) (fun s I J => by unfold f_L_law_61; rw [if_pos rfl]; rfl)
theorem w_leads {L t A A' : Nat} {xs : Nat → Int32} {I : xI} {J : xJ} {Q : Int32 × xI × xJ → Prop} (hL : L ≤ 3072) (ht : t + 6 ≤ L) (hAA : A + 401 ≤ A') (hA : A' < 1000000000) (h : LI A I J) : Ok (f_L_law_63 L xs (nt t) I J) (Sum.elim (lQ A' t) Q) := by
  obtain ⟨a, n, m, k, g, sl, l, tb, pl, ha, G, hc, hr⟩ := h
  simp only [f_L_law_63, f_L_law_64, if_neg (idx1 hL ht), if_neg (idx2 hL ht)]
  exact bo_law (b_leads (by omega) G hc hr (xs (nt t + 1).toNatClampNeg) (xs (nt t + 2).toNatClampNeg)) (fun s I J => by unfold f_L_law_65; rw [if_pos rfl]; rfl)
theorem w_small {L t A A' : Nat} {xs : Nat → Int32} {I : xI} {J : xJ} {Q : Int32 × xI × xJ → Prop} (hL : L ≤ 3072) (ht : t + 6 ≤ L) (hAA : A + 401 ≤ A') (hA : A' < 1000000000) (h : LI A I J) : Ok (f_L_law_67 L xs (nt t) I J) (Sum.elim (lQ A' t) Q) := by
  obtain ⟨a, n, m, k, g, sl, l, tb, pl, ha, G, hc, hr⟩ := h
  simp only [f_L_law_67, f_L_law_68, if_neg (idx1 hL ht), if_neg (idx2 hL ht), if_neg (idx3 hL ht)]
  exact bo_law (b_small (by omega) G hc hr (xs (nt t + 1).toNatClampNeg) (xs (nt t + 2).toNatClampNeg) (xs (nt t + 3).toNatClampNeg)) (fun s I J => by unfold f_L_law_69; rw [if_pos rfl]; rfl)
theorem w_home {L t A A' : Nat} {xs : Nat → Int32} {I : xI} {J : xJ} {Q : Int32 × xI × xJ → Prop} (hL : L ≤ 3072) (ht : t + 6 ≤ L) (hAA : A + 401 ≤ A') (hA : A' < 1000000000) (h : LI A I J) : Ok (f_L_law_71 L xs (nt t) I J) (Sum.elim (lQ A' t) Q) := by
  obtain ⟨a, n, m, k, g, sl, l, tb, pl, ha, G, hc, hr⟩ := h
  simp only [f_L_law_71, f_L_law_72, if_neg (idx1 hL ht)]
  exact bo_law (b_home (by omega) G hc hr (xs (nt t + 1).toNatClampNeg)) (fun s I J => by unfold f_L_law_73; rw [if_pos rfl]; rfl)
theorem w_met {L t A A' : Nat} {xs : Nat → Int32} {I : xI} {J : xJ} {Q : Int32 × xI × xJ → Prop} (hL : L ≤ 3072) (ht : t + 6 ≤ L) (hAA : A + 401 ≤ A') (hA : A' < 1000000000) (h : LI A I J) : Ok (f_L_law_75 L xs (nt t) I J) (Sum.elim (lQ A' t) Q) := by
  obtain ⟨a, n, m, k, g, sl, l, tb, pl, ha, G, hc, hr⟩ := h
  simp only [f_L_law_75, f_L_law_76, if_neg (idx1 hL ht)]
  exact bo_law (b_met (by omega) G hc hr (xs (nt t + 1).toNatClampNeg)) (fun s I J => by unfold f_L_law_77; rw [if_pos rfl]; rfl)
theorem w_run {L t A A' : Nat} {xs : Nat → Int32} {I : xI} {J : xJ} {Q : Int32 × xI × xJ → Prop} (hL : L ≤ 3072) (ht : t + 6 ≤ L) (hAA : A + 401 ≤ A') (hA : A' < 1000000000) (h : LI A I J) : Ok (f_L_law_79 L xs (nt t) I J) (Sum.elim (lQ A' t) Q) := by
  obtain ⟨a, n, m, k, g, sl, l, tb, pl, ha, G, hc, hr⟩ := h
  simp only [f_L_law_79, f_L_law_80, if_neg (idx1 hL ht), if_neg (idx2 hL ht), if_neg (idx3 hL ht), if_neg (idx4 hL ht)]
  exact bo_law (b_run (by omega) G hc hr (xs (nt t + 1).toNatClampNeg) (xs (nt t + 2).toNatClampNeg) (xs (nt t + 3).toNatClampNeg) (xs (nt t + 4).toNatClampNeg)) (fun s I J => by unfold f_L_law_81; rw [if_pos rfl]; rfl)
theorem w_goesOn {L t A A' : Nat} {xs : Nat → Int32} {I : xI} {J : xJ} {Q : Int32 × xI × xJ → Prop} (hL : L ≤ 3072) (ht : t + 6 ≤ L) (hAA : A + 401 ≤ A') (hA : A' < 1000000000) (h : LI A I J) : Ok (f_L_law_83 L xs (nt t) I J) (Sum.elim (lQ A' t) Q) := by
  obtain ⟨a, n, m, k, g, sl, l, tb, pl, ha, G, hc, hr⟩ := h
  simp only [f_L_law_83, f_L_law_84, if_neg (idx1 hL ht)]
  exact bo_law (b_goesOn (by omega) G hc hr (xs (nt t + 1).toNatClampNeg)) (fun s I J => by unfold f_L_law_85; rw [if_pos rfl]; rfl)
theorem w_together {L t A A' : Nat} {xs : Nat → Int32} {I : xI} {J : xJ} {Q : Int32 × xI × xJ → Prop} (hL : L ≤ 3072) (ht : t + 6 ≤ L) (hAA : A + 401 ≤ A') (hA : A' < 1000000000) (h : LI A I J) : Ok (f_L_law_87 L xs (nt t) I J) (Sum.elim (lQ A' t) Q) := by
  obtain ⟨a, n, m, k, g, sl, l, tb, pl, ha, G, hc, hr⟩ := h
  simp only [f_L_law_87, f_L_law_88, if_neg (idx1 hL ht), if_neg (idx2 hL ht)]
  exact bo_law (b_together (by omega) G hc hr (xs (nt t + 1).toNatClampNeg) (xs (nt t + 2).toNatClampNeg)) (fun s I J => by unfold f_L_law_89; rw [if_pos rfl]; rfl)
theorem w_partition {L t A A' : Nat} {xs : Nat → Int32} {I : xI} {J : xJ} {Q : Int32 × xI × xJ → Prop} (hL : L ≤ 3072) (ht : t + 6 ≤ L) (hAA : A + 401 ≤ A') (hA : A' < 1000000000) (h : LI A I J) : Ok (f_L_law_91 L xs (nt t) I J) (Sum.elim (lQ A' t) Q) := by
  obtain ⟨a, n, m, k, g, sl, l, tb, pl, ha, G, hc, hr⟩ := h
  simp only [f_L_law_91, f_L_law_92, if_neg (idx1 hL ht)]
  exact bo_law (b_partition (by omega) G hc hr (xs (nt t + 1).toNatClampNeg)) (fun s I J => by unfold f_L_law_93; rw [if_pos rfl]; rfl)
theorem w_into {L t A A' : Nat} {xs : Nat → Int32} {I : xI} {J : xJ} {Q : Int32 × xI × xJ → Prop} (hL : L ≤ 3072) (ht : t + 6 ≤ L) (hAA : A + 401 ≤ A') (hA : A' < 1000000000) (h : LI A I J) : Ok (f_L_law_95 L xs (nt t) I J) (Sum.elim (lQ A' t) Q) := by
  obtain ⟨a, n, m, k, g, sl, l, tb, pl, ha, G, hc, hr⟩ := h
  simp only [f_L_law_95, f_L_law_96, if_neg (idx1 hL ht)]
  exact bo_law (b_into (by omega) G hc hr (xs (nt t + 1).toNatClampNeg)) (fun s I J => by unfold f_L_law_97; rw [if_pos rfl]; rfl)
theorem w_split {L t A A' : Nat} {xs : Nat → Int32} {I : xI} {J : xJ} {Q : Int32 × xI × xJ → Prop} (hL : L ≤ 3072) (ht : t + 6 ≤ L) (hAA : A + 401 ≤ A') (hA : A' < 1000000000) (h : LI A I J) : Ok (f_L_law_99 L xs (nt t) I J) (Sum.elim (lQ A' t) Q) := by
  obtain ⟨a, n, m, k, g, sl, l, tb, pl, ha, G, hc, hr⟩ := h
  simp only [f_L_law_99, f_L_law_100, if_neg (idx1 hL ht)]
  exact bo_law (b_split (by omega) G hc hr (xs (nt t + 1).toNatClampNeg)) (fun s I J => by unfold f_L_law_101; rw [if_pos rfl]; rfl)
theorem w_tail {L t A A' : Nat} {xs : Nat → Int32} {I : xI} {J : xJ} {Q : Int32 × xI × xJ → Prop} (hL : L ≤ 3072) (ht : t + 6 ≤ L) (hAA : A + 401 ≤ A') (hA : A' < 1000000000) (h : LI A I J) : Ok (f_L_law_103 L xs (nt t) I J) (Sum.elim (lQ A' t) Q) := by
  obtain ⟨a, n, m, k, g, sl, l, tb, pl, ha, G, hc, hr⟩ := h
  simp only [f_L_law_103, f_L_law_104, if_neg (idx1 hL ht)]
  exact bo_law (b_tail (by omega) G hc hr (xs (nt t + 1).toNatClampNeg)) (fun s I J => by unfold f_L_law_105; rw [if_pos rfl]; rfl)
theorem w_part {L t A A' : Nat} {xs : Nat → Int32} {I : xI} {J : xJ} {Q : Int32 × xI × xJ → Prop} (hL : L ≤ 3072) (ht : t + 6 ≤ L) (hAA : A + 401 ≤ A') (hA : A' < 1000000000) (h : LI A I J) : Ok (f_L_law_107 L xs (nt t) I J) (Sum.elim (lQ A' t) Q) := by
  obtain ⟨a, n, m, k, g, sl, l, tb, pl, ha, G, hc, hr⟩ := h
  simp only [f_L_law_107, f_L_law_108, if_neg (idx1 hL ht), if_neg (idx2 hL ht), if_neg (idx3 hL ht)]
  exact bo_law (b_part (by omega) G hc hr (xs (nt t + 1).toNatClampNeg) (xs (nt t + 2).toNatClampNeg) (xs (nt t + 3).toNatClampNeg)) (fun s I J => by unfold f_L_law_109; rw [if_pos rfl]; rfl)
theorem w_series {L t A A' : Nat} {xs : Nat → Int32} {I : xI} {J : xJ} {Q : Int32 × xI × xJ → Prop} (hL : L ≤ 3072) (ht : t + 6 ≤ L) (hAA : A + 401 ≤ A') (hA : A' < 1000000000) (h : LI A I J) : Ok (f_L_law_111 L xs (nt t) I J) (Sum.elim (lQ A' t) Q) := by
  obtain ⟨a, n, m, k, g, sl, l, tb, pl, ha, G, hc, hr⟩ := h
  simp only [f_L_law_111, f_L_law_112, if_neg (idx1 hL ht), if_neg (idx2 hL ht), if_neg (idx3 hL ht), if_neg (idx4 hL ht), if_neg (idx5 hL ht)]
  exact bo_law (b_series (by omega) G hc hr (xs (nt t + 1).toNatClampNeg) (xs (nt t + 2).toNatClampNeg) (xs (nt t + 3).toNatClampNeg) (xs (nt t + 4).toNatClampNeg) (xs (nt t + 5).toNatClampNeg)) (fun s I J => by unfold f_L_law_113; rw [if_pos rfl]; rfl)
theorem w_beside {L t A A' : Nat} {xs : Nat → Int32} {I : xI} {J : xJ} {Q : Int32 × xI × xJ → Prop} (hL : L ≤ 3072) (ht : t + 6 ≤ L) (hAA : A + 401 ≤ A') (hA : A' < 1000000000) (h : LI A I J) : Ok (f_L_law_115 L xs (nt t) I J) (Sum.elim (lQ A' t) Q) := by
  obtain ⟨a, n, m, k, g, sl, l, tb, pl, ha, G, hc, hr⟩ := h
  simp only [f_L_law_115, f_L_law_116, if_neg (idx1 hL ht), if_neg (idx2 hL ht), if_neg (idx3 hL ht), if_neg (idx4 hL ht), if_neg (idx5 hL ht)]
  exact bo_law (b_beside (by omega) G hc hr (xs (nt t + 1).toNatClampNeg) (xs (nt t + 2).toNatClampNeg) (xs (nt t + 3).toNatClampNeg) (xs (nt t + 4).toNatClampNeg) (xs (nt t + 5).toNatClampNeg)) (fun s I J => by unfold f_L_law_117; rw [if_pos rfl]; rfl)
theorem w_hangs {L t A A' : Nat} {xs : Nat → Int32} {I : xI} {J : xJ} {Q : Int32 × xI × xJ → Prop} (hL : L ≤ 3072) (ht : t + 6 ≤ L) (hAA : A + 401 ≤ A') (hA : A' < 1000000000) (h : LI A I J) : Ok (f_L_law_119 L xs (nt t) I J) (Sum.elim (lQ A' t) Q) := by
  obtain ⟨a, n, m, k, g, sl, l, tb, pl, ha, G, hc, hr⟩ := h
  simp only [f_L_law_119, f_L_law_120, if_neg (idx1 hL ht), if_neg (idx2 hL ht)]
  exact bo_law (b_hangs (by omega) G hc hr (xs (nt t + 1).toNatClampNeg) (xs (nt t + 2).toNatClampNeg)) (fun s I J => by unfold f_L_law_121; rw [if_pos rfl]; rfl)
theorem w_cost {L t A A' : Nat} {xs : Nat → Int32} {I : xI} {J : xJ} {Q : Int32 × xI × xJ → Prop} (hL : L ≤ 3072) (ht : t + 6 ≤ L) (hAA : A + 401 ≤ A') (hA : A' < 1000000000) (h : LI A I J) : Ok (f_L_law_123 L xs (nt t) I J) (Sum.elim (lQ A' t) Q) := by
  obtain ⟨a, n, m, k, g, sl, l, tb, pl, ha, G, hc, hr⟩ := h
  simp only [f_L_law_123, f_L_law_124]
  exact bo_law (b_cost (by omega) G hc hr) (fun s I J => by unfold f_L_law_125; rw [if_pos rfl]; rfl)
theorem w_cube {L t A A' : Nat} {xs : Nat → Int32} {I : xI} {J : xJ} {Q : Int32 × xI × xJ → Prop} (hL : L ≤ 3072) (ht : t + 6 ≤ L) (hAA : A + 401 ≤ A') (hA : A' < 1000000000) (h : LI A I J) : Ok (f_L_law_127 L xs (nt t) I J) (Sum.elim (lQ A' t) Q) := by
  obtain ⟨a, n, m, k, g, sl, l, tb, pl, ha, G, hc, hr⟩ := h
  simp only [f_L_law_127, f_L_law_128, if_neg (idx1 hL ht), if_neg (idx2 hL ht), if_neg (idx3 hL ht)]
  exact bo_law (b_cube (by omega) G hc hr (xs (nt t + 1).toNatClampNeg) (xs (nt t + 2).toNatClampNeg) (xs (nt t + 3).toNatClampNeg)) (fun s I J => by unfold f_L_law_129; rw [if_pos rfl]; rfl)
theorem w_sum {L t A A' : Nat} {xs : Nat → Int32} {I : xI} {J : xJ} {Q : Int32 × xI × xJ → Prop} (hL : L ≤ 3072) (ht : t + 6 ≤ L) (hAA : A + 401 ≤ A') (hA : A' < 1000000000) (h : LI A I J) : Ok (f_L_law_131 L xs (nt t) I J) (Sum.elim (lQ A' t) Q) := by
  obtain ⟨a, n, m, k, g, sl, l, tb, pl, ha, G, hc, hr⟩ := h
  simp only [f_L_law_131, f_L_law_132]
  exact bo_law (b_sum (by omega) G hc hr) (fun s I J => by unfold f_L_law_133; rw [if_pos rfl]; rfl)
theorem w_coded {L t A A' : Nat} {xs : Nat → Int32} {I : xI} {J : xJ} {Q : Int32 × xI × xJ → Prop} (hL : L ≤ 3072) (ht : t + 6 ≤ L) (hAA : A + 401 ≤ A') (hA : A' < 1000000000) (h : LI A I J) : Ok (f_L_law_135 L xs (nt t) I J) (Sum.elim (lQ A' t) Q) := by
  obtain ⟨a, n, m, k, g, sl, l, tb, pl, ha, G, hc, hr⟩ := h
  simp only [f_L_law_135, f_L_law_136, if_neg (idx1 hL ht), if_neg (idx2 hL ht)]
  exact bo_law (b_coded (by omega) G hc hr (xs (nt t + 1).toNatClampNeg) (xs (nt t + 2).toNatClampNeg)) (fun s I J => by unfold f_L_law_137; rw [if_pos rfl]; rfl)
theorem w_best {L t A A' : Nat} {xs : Nat → Int32} {I : xI} {J : xJ} {Q : Int32 × xI × xJ → Prop} (hL : L ≤ 3072) (ht : t + 6 ≤ L) (hAA : A + 401 ≤ A') (hA : A' < 1000000000) (h : LI A I J) : Ok (f_L_law_139 L xs (nt t) I J) (Sum.elim (lQ A' t) Q) := by
  obtain ⟨a, n, m, k, g, sl, l, tb, pl, ha, G, hc, hr⟩ := h
  simp only [f_L_law_139, f_L_law_140, if_neg (idx1 hL ht), if_neg (idx2 hL ht)]
  exact bo_law (b_best (by omega) G hc hr (xs (nt t + 1).toNatClampNeg) (xs (nt t + 2).toNatClampNeg)) (fun s I J => by unfold f_L_law_141; rw [if_pos rfl]; rfl)
theorem w_hold {L t A A' : Nat} {xs : Nat → Int32} {I : xI} {J : xJ} {Q : Int32 × xI × xJ → Prop} (hL : L ≤ 3072) (ht : t + 6 ≤ L) (hAA : A + 401 ≤ A') (hA : A' < 1000000000) (h : LI A I J) : Ok (f_L_law_143 L xs (nt t) I J) (Sum.elim (lQ A' t) Q) := by
  obtain ⟨a, n, m, k, g, sl, l, tb, pl, ha, G, hc, hr⟩ := h
  simp only [f_L_law_143, f_L_law_144, if_neg (idx1 hL ht)]
  exact bo_law (b_hold (by omega) G hc hr (xs (nt t + 1).toNatClampNeg)) (fun s I J => by unfold f_L_law_145; rw [if_pos rfl]; rfl)
theorem w_restore {L t A A' : Nat} {xs : Nat → Int32} {I : xI} {J : xJ} {Q : Int32 × xI × xJ → Prop} (hL : L ≤ 3072) (ht : t + 6 ≤ L) (hAA : A + 401 ≤ A') (hA : A' < 1000000000) (h : LI A I J) : Ok (f_L_law_147 L xs (nt t) I J) (Sum.elim (lQ A' t) Q) := by
  obtain ⟨a, n, m, k, g, sl, l, tb, pl, ha, G, hc, hr⟩ := h
  simp only [f_L_law_147, f_L_law_148, if_neg (idx1 hL ht)]
  exact bo_law (b_restore (by omega) hA G hc hr (xs (nt t + 1).toNatClampNeg)) (fun s I J => by unfold f_L_law_149; rw [if_pos rfl]; rfl)
theorem w_count {L t A A' : Nat} {xs : Nat → Int32} {I : xI} {J : xJ} {Q : Int32 × xI × xJ → Prop} (hL : L ≤ 3072) (ht : t + 6 ≤ L) (hAA : A + 401 ≤ A') (hA : A' < 1000000000) (h : LI A I J) : Ok (f_L_law_151 L xs (nt t) I J) (Sum.elim (lQ A' t) Q) := by
  obtain ⟨a, n, m, k, g, sl, l, tb, pl, ha, G, hc, hr⟩ := h
  simp only [f_L_law_151, f_L_law_152, if_neg (idx1 hL ht)]
  exact bo_law (b_count (by omega) G hc hr (xs (nt t + 1).toNatClampNeg)) (fun s I J => by unfold f_L_law_153; rw [if_pos rfl]; rfl)
theorem w_all {L t A A' : Nat} {xs : Nat → Int32} {I : xI} {J : xJ} {Q : Int32 × xI × xJ → Prop} (hL : L ≤ 3072) (ht : t + 6 ≤ L) (hAA : A + 401 ≤ A') (hA : A' < 1000000000) (h : LI A I J) (s0 : Int32) : Ok (f_L_law_2 L xs (nt t) s0 I J) (Sum.elim (lQ A' t) Q) := by
  unfold f_L_law_2
  exact (ok_if (fun _ => w_feed hL ht hAA hA h) (fun _ =>
    (ok_if (fun _ => w_back hL ht hAA hA h) (fun _ =>
    (ok_if (fun _ => w_read hL ht hAA hA h) (fun _ =>
    (ok_if (fun _ => w_place hL ht hAA hA h) (fun _ =>
    (ok_if (fun _ => w_set hL ht hAA hA h) (fun _ =>
    (ok_if (fun _ => w_code hL ht hAA hA h) (fun _ =>
    (ok_if (fun _ => w_undo hL ht hAA hA h) (fun _ =>
    (ok_if (fun _ => w_move hL ht hAA hA h) (fun _ =>
    (ok_if (fun _ => w_apart hL ht hAA hA h) (fun _ =>
    (ok_if (fun _ => w_word hL ht hAA hA h) (fun _ =>
    (ok_if (fun _ => w_shown hL ht hAA hA h) (fun _ =>
    (ok_if (fun _ => w_classes hL ht hAA hA h) (fun _ =>
    (ok_if (fun _ => w_greatest hL ht hAA hA h) (fun _ =>
    (ok_if (fun _ => w_fewest hL ht hAA hA h) (fun _ =>
    (ok_if (fun _ => w_isClass hL ht hAA hA h) (fun _ =>
    (ok_if (fun _ => w_leads hL ht hAA hA h) (fun _ =>
    (ok_if (fun _ => w_small hL ht hAA hA h) (fun _ =>
    (ok_if (fun _ => w_home hL ht hAA hA h) (fun _ =>
    (ok_if (fun _ => w_met hL ht hAA hA h) (fun _ =>
    (ok_if (fun _ => w_run hL ht hAA hA h) (fun _ =>
    (ok_if (fun _ => w_goesOn hL ht hAA hA h) (fun _ =>
    (ok_if (fun _ => w_together hL ht hAA hA h) (fun _ =>
    (ok_if (fun _ => w_partition hL ht hAA hA h) (fun _ =>
    (ok_if (fun _ => w_into hL ht hAA hA h) (fun _ =>
    (ok_if (fun _ => w_split hL ht hAA hA h) (fun _ =>
    (ok_if (fun _ => w_tail hL ht hAA hA h) (fun _ =>
    (ok_if (fun _ => w_part hL ht hAA hA h) (fun _ =>
    (ok_if (fun _ => w_series hL ht hAA hA h) (fun _ =>
    (ok_if (fun _ => w_beside hL ht hAA hA h) (fun _ =>
    (ok_if (fun _ => w_hangs hL ht hAA hA h) (fun _ =>
    (ok_if (fun _ => w_cost hL ht hAA hA h) (fun _ =>
    (ok_if (fun _ => w_cube hL ht hAA hA h) (fun _ =>
    (ok_if (fun _ => w_sum hL ht hAA hA h) (fun _ =>
    (ok_if (fun _ => w_coded hL ht hAA hA h) (fun _ =>
    (ok_if (fun _ => w_best hL ht hAA hA h) (fun _ =>
    (ok_if (fun _ => w_hold hL ht hAA hA h) (fun _ =>
    (ok_if (fun _ => w_restore hL ht hAA hA h) (fun _ =>
    (ok_if (fun _ => w_count hL ht hAA hA h) (fun _ =>
    ok_some ⟨I, J, by rw [nt_addl], LI_up h (by omega)⟩))))))))))))))))))))))))))))))))))))))))))))))))))))))))))))))))))))))))))))
theorem law_ok {L : Nat} {xs : Nat → Int32} {I : xI} {J : xJ} (hL : L ≤ 3072) (h : LI 10 I J) : Ok (f_L_law L xs 0 I J) (fun o => o.1 = 1) := by
  unfold f_L_law f_L_law_0
  refine ok_loop (fun q s => ∃ I' J', s = (nt (6 * q), I', J') ∧ LI (10 + 1000 * q) I' J') (L / 6) ?_ ?_ 5000 0 _ (by omega) (by omega) ⟨I, J, rfl, h⟩
  · rintro q hq s ⟨I1, J1, rfl, h1⟩
    have hLe : ¬ (Int32.ofNat L - 6 < nt (6 * q)) := by
      show ¬ (nt L - 6 < nt (6 * q))
      rw [nt_subl (by omega), nt_lt (by omega) (by omega)]; omega
    have hi : ¬ (nt (6 * q) < 0 ∨ L ≤ (nt (6 * q)).toNatClampNeg) := by
      simp (disch := omega) only [nt_clamp, nt_le, nt_lt, nt_eq, lit_le, lit_lt, le_lit, lt_lit, eq_lit, lit_eq, nt_neg, nt_ge, nt_add, nt_mul, nt_addl, lit_add, nt_mull, lit_mul, nt_sub, nt_subl, lit_sub, nt_divl, nt_m1, nt_m2, nt_m1', nt_m2', false_or]; omega
    simp only [b_L_law_0, if_neg hLe, f_L_law_1, if_neg hi]
    refine (w_all (A := 10 + 1000 * q) (A' := 10 + 1000 * (q + 1)) (Q := fun o => o.1 = 1) hL (by omega) (by omega) (by omega) h1 _).imp ?_
    intro o ho
    cases o with
    | inl s' =>
      obtain ⟨I2, J2, e, h2⟩ := ho
      exact ⟨I2, J2, by rw [e, show 6 * q + 6 = 6 * (q + 1) from by omega], h2⟩
    | inr r => exact ho
  · rintro s ⟨I1, J1, rfl, h1⟩
    have hLe : Int32.ofNat L - 6 < nt (6 * (L / 6)) := by
      by_cases c : L < 6
      · have e : ∀ k, k < 6 → Int32.ofNat k - 6 < nt (6 * (k / 6)) := by decide
        exact e L c
      · show nt L - 6 < nt (6 * (L / 6))
        rw [nt_subl (by omega), nt_lt (by omega) (by omega)]; omega
    simp only [b_L_law_0, if_pos hLe, f_L_law_156]
    apply ok_map
    exact ok_some rfl
