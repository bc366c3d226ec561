/-! read of the reference -/
theorem byt_byt (x : Int32) : byt (byt x) = byt x := by
  unfold byt
  rw [Int8.toInt8_toInt32]
theorem fMa_r {n m : Nat} {w : aT} {c : Nat → Int32} (hn : n ≤ 6) (hm : m ≤ 4) (h : fMa w c) : rMa n m w c 0 := by
  obtain ⟨h1, h2, h3⟩ := h
  refine ⟨fun s x hs hx => ?_, fun s x hs hx => ?_, fun s hs => ?_⟩
  · rw [Nat.zero_add]; exact h1 s x (by omega) (by omega)
  · rw [Nat.zero_add, Nat.add_assoc]; exact h2 s x (by omega) (by omega)
  · rw [Nat.zero_add]; exact h3 s (by omega)
theorem TRe_N {l k N : Nat} {tb : Nat → Nat} {I : xI} {J : xJ} (h : TRe l tb k I J) (hW : Wf l tb N) : I 61 10 = nt (N + 1) := by
  obtain ⟨h1, h2⟩ := h
  have hN := hW.2.1
  have hl := hW.2.2.2.2
  rcases h2 with ⟨rfl, _⟩ | ⟨hk, hlk, h10, _⟩
  · have := h1 N (by omega); omega
  · have : k = N := by
      rcases Nat.lt_trichotomy k N with c | c | c
      · have := (hW.2.2.2.1 k c).1; omega
      · exact c
      · have := h1 N c; omega
    rw [← this]; exact h10
theorem fno_r (l : Nat) (tb : Nat → Nat) {w : Nat × Nat} {I : xI} (hR : RW w I) : w.1 ≤ 5 := hR.2.1
/-- what read may change in the reference -/
def rdReg (c j : Nat) : Prop := (63 ≤ c ∧ c ≤ 66) ∨ c = 71 ∨ (c = 61 ∧ (j = 2 ∨ j = 4 ∨ (10 ≤ j ∧ j ≤ 16) ∨ j = 19 ∨ j = 20))
def rdReg2 (c j : Nat) : Prop := c = 70 ∨ c = 74 ∨ (c = 75 ∧ j < 2) ∨ (c = 61 ∧ (j = 17 ∨ j = 18 ∨ j = 26 ∨ j = 29))
theorem rread21_ok {n m : Nat} {w : aT} {I : xI} {J : xJ} (hn : n ≤ 6) (hm : m ≤ 4) (h : fMa w (I 71)) (h19 : I 61 19 = nt n) (h20 : I 61 20 = nt m) (x1 : Int32) : Ok (f_X12_read_21 x1 I J) (fun o => o.2.2 = J ∧ o.1 = 0 ∧ o.2.1 61 17 = nt n ∧ o.2.1 61 18 = nt m ∧ rMa n m w (o.2.1 70) 0 ∧ o.2.1 61 26 = 0 ∧ (∀ j, j < 3 → o.2.1 74 j = 0) ∧ o.2.1 61 29 = 0 ∧ o.2.1 75 0 = 0 ∧ o.2.1 75 1 = 0 ∧ ∀ c j, ¬ rdReg2 c j → o.2.1 c j = I c j) := by
  have e17 : xup (xup I 61 17 (I 61 19)) 61 18 (xup I 61 17 (I 61 19) 61 20) 61 17 = nt n := by
    rw [xup_j _ _ _ _ (by omega), xup_at, h19]
  have e18 : xup (xup I 61 17 (I 61 19)) 61 18 (xup I 61 17 (I 61 19) 61 20) 61 18 = nt m := by
    rw [xup_at, xup_j _ _ _ _ (by omega), h20]
  have f1 : ∀ c j, ¬ (c = 61 ∧ (j = 17 ∨ j = 18)) → xup (xup I 61 17 (I 61 19)) 61 18 (xup I 61 17 (I 61 19) 61 20) c j = I c j := by
    intro c j hc
    rw [xup_no _ _ _ _ (by omega), xup_no _ _ _ _ (by omega)]
  unfold f_X12_read_21 f_X12_read_22
  generalize xup (xup I 61 17 (I 61 19)) 61 18 (xup I 61 17 (I 61 19) 61 20) = I1 at e17 e18 f1 ⊢
  refine ok_loop (fun k s => ∃ I2, s = (nt k, I2, J) ∧ (∀ j, j < k → I2 70 j = I1 71 j) ∧ ∀ c j, ¬ c = 70 → I2 c j = I1 c j) 54 ?_ ?_ 5000 0 _ (by omega) (by omega) ⟨I1, rfl, fun j hj => absurd hj (by omega), fun _ _ _ => rfl⟩
  · rintro k hk s ⟨I2, rfl, h1, h2⟩
    simp (disch := omega) only [b_X12_read_22, f_X12_read_23, nt_clamp, nt_le, nt_lt, nt_eq, lit_le, lit_lt, le_lit, lt_lit, eq_lit, lit_eq, nt_neg, nt_ge, nt_add, nt_mul, nt_addl, lit_add, nt_mull, lit_mul, nt_sub, nt_subl, lit_sub, nt_divl, nt_m1, nt_m2, nt_m1', nt_m2', if_neg, false_or]
    refine ok_some ⟨_, rfl, ?_, ?_⟩
    · intro j hj
      rw [xup_if]
      by_cases c : j = k
      · rw [if_pos c, c]; exact h2 71 k (by omega)
      · rw [if_neg c]; exact h1 j (by omega)
    · intro c j hc
      rw [xup_bj _ _ _ _ _ hc]; exact h2 c j hc
  rintro s ⟨I2, rfl, a1, a2⟩
  simp (disch := omega) only [b_X12_read_22, nt_clamp, nt_le, nt_lt, nt_eq, lit_le, lit_lt, le_lit, lt_lit, eq_lit, lit_eq, nt_neg, nt_ge, nt_add, nt_mul, nt_addl, lit_add, nt_mull, lit_mul, nt_sub, nt_subl, lit_sub, nt_divl, nt_m1, nt_m2, nt_m1', nt_m2', if_pos]
  apply ok_map
  unfold f_X12_read_24 f_X12_read_25
  refine ok_loop (fun k s => ∃ I3, s = (nt k, I3, J) ∧ (∀ j, j < k → I3 74 j = 0) ∧ ∀ c j, ¬ c = 74 → I3 c j = xup I2 61 26 0 c j) 3 ?_ ?_ 5000 0 _ (by omega) (by omega) ⟨xup I2 61 26 0, rfl, fun j hj => absurd hj (by omega), fun _ _ _ => rfl⟩
  · rintro k hk s ⟨I3, rfl, h1, h2⟩
    simp (disch := omega) only [b_X12_read_25, f_X12_read_26, nt_clamp, nt_le, nt_lt, nt_eq, lit_le, lit_lt, le_lit, lt_lit, eq_lit, lit_eq, nt_neg, nt_ge, nt_add, nt_mul, nt_addl, lit_add, nt_mull, lit_mul, nt_sub, nt_subl, lit_sub, nt_divl, nt_m1, nt_m2, nt_m1', nt_m2', if_neg, false_or]
    refine ok_some ⟨_, rfl, ?_, ?_⟩
    · intro j hj
      rw [xup_if]
      by_cases c : j = k
      · rw [if_pos c]
      · rw [if_neg c]; exact h1 j (by omega)
    · intro c j hc
      rw [xup_bj _ _ _ _ _ hc]; exact h2 c j hc
  rintro s ⟨I3, rfl, b1, b2⟩
  simp (disch := omega) only [b_X12_read_25, nt_clamp, nt_le, nt_lt, nt_eq, lit_le, lit_lt, le_lit, lt_lit, eq_lit, lit_eq, nt_neg, nt_ge, nt_add, nt_mul, nt_addl, lit_add, nt_mull, lit_mul, nt_sub, nt_subl, lit_sub, nt_divl, nt_m1, nt_m2, nt_m1', nt_m2', if_pos, f_X12_read_27, f_X12_changes, f_X12_changes_0, Option.bind_some, f_X12_read_28]
  apply ok_map
  have g : ∀ c j, ¬ (c = 75 ∧ j < 2) → ¬ (c = 61 ∧ j = 29) → xup (xup (xup I3 61 29 0) 75 0 0) 75 1 0 c j = I3 c j := by
    intro c j h1 h2
    rw [xup_no _ _ _ _ (by omega), xup_no _ _ _ _ (by omega), xup_no _ _ _ _ (by omega)]
  have q : ∀ c j, ¬ c = 74 → ¬ (c = 61 ∧ j = 26) → I3 c j = I2 c j := by
    intro c j h1 h2
    rw [b2 c j h1, xup_no _ _ _ _ h2]
  refine ok_some ⟨rfl, rfl, ?_, ?_, ?_, ?_, ?_, ?_, ?_, ?_, ?_⟩
  · show xup (xup (xup I3 61 29 0) 75 0 0) 75 1 0 61 17 = nt n
    rw [g _ _ (by omega) (by omega), q _ _ (by omega) (by omega), a2 _ _ (by omega), e17]
  · show xup (xup (xup I3 61 29 0) 75 0 0) 75 1 0 61 18 = nt m
    rw [g _ _ (by omega) (by omega), q _ _ (by omega) (by omega), a2 _ _ (by omega), e18]
  · show rMa n m w (xup (xup (xup I3 61 29 0) 75 0 0) 75 1 0 70) 0
    refine rMa_copy hn hm (fMa_r hn hm h) ?_
    intro j hj
    rw [Nat.zero_add, g _ _ (by omega) (by omega), q _ _ (by omega) (by omega), a1 j hj, f1 _ _ (by omega)]
  · show xup (xup (xup I3 61 29 0) 75 0 0) 75 1 0 61 26 = 0
    rw [g _ _ (by omega) (by omega), b2 _ _ (by omega), xup_at]
  · intro j hj
    show xup (xup (xup I3 61 29 0) 75 0 0) 75 1 0 74 j = 0
    rw [g _ _ (by omega) (by omega), b1 j hj]
  · show xup (xup (xup I3 61 29 0) 75 0 0) 75 1 0 61 29 = 0
    rw [xup_bj _ _ _ _ _ (by omega), xup_bj _ _ _ _ _ (by omega), xup_at]
  · show xup (xup (xup I3 61 29 0) 75 0 0) 75 1 0 75 0 = 0
    rw [xup_j _ _ _ _ (by omega), xup_at]
  · show xup (xup (xup I3 61 29 0) 75 0 0) 75 1 0 75 1 = 0
    rw [xup_at]
  · intro c j hc
    unfold rdReg2 at hc
    show xup (xup (xup I3 61 29 0) 75 0 0) 75 1 0 c j = I c j
    rw [g _ _ (by omega) (by omega), q _ _ (by omega) (by omega), a2 _ _ (by omega), f1 _ _ (by omega)]
theorem le0n {k : Nat} (hk : k < 2147483648) (h0 : ¬ k = 0) : ¬ nt k ≤ 0 := by
  rw [show (0 : Int32) = nt 0 from rfl, nt_le hk (by omega)]; omega
theorem rread_ok {l : Nat} {tb : Nat → Nat} {I : xI} {J : xJ} (T : Tb l tb) (h2 : I 61 2 = nt l) (h62 : ∀ k, k < l → I 62 k = byt (nt (tb k))) (hK : hKy J) : Ok (f_X12_read I J) (fun o => o.1 = nt (fno l tb) ∧ o.2.1 61 16 = plc l tb ∧ o.2.1 61 2 = 0 ∧ (fno l tb = 0 → o.2.1 61 17 = nt (nS tb (sK l tb)) ∧ o.2.1 61 18 = nt (inp tb (sK l tb)) ∧ rMa (nS tb (sK l tb)) (inp tb (sK l tb)) (At tb (sK l tb) (sK l tb)) (o.2.1 70) 0 ∧ o.2.1 61 26 = 0 ∧ (∀ j, j < 3 → o.2.1 74 j = 0) ∧ o.2.1 61 29 = 0 ∧ o.2.1 75 0 = 0 ∧ o.2.1 75 1 = 0) ∧ (¬ fno l tb = 0 → ∀ c j, rdReg2 c j → o.2.1 c j = I c j) ∧ (∀ c j, ¬ rdReg c j → ¬ rdReg2 c j → o.2.1 c j = I c j) ∧ hKy o.2.2) := by
  have hl := T.1
  unfold f_X12_read f_X12_read_0 f_X12_read_1
  have g0 : ∀ c j, ¬ (c = 61 ∧ j = 4) → xup I 61 4 (I 61 2) c j = I c j := fun c j hc => xup_no _ _ _ _ hc
  have g4 : xup I 61 4 (I 61 2) 61 4 = nt l := by rw [xup_at, h2]
  generalize xup I 61 4 (I 61 2) = I0 at g0 g4 ⊢
  refine ok_loop (fun k s => ∃ I1, s = (nt k, I1, J) ∧ (∀ j, j < k → I1 63 j = byt (nt (tb j))) ∧ ∀ c j, ¬ c = 63 → I1 c j = I0 c j) l ?_ ?_ 5000 0 _ (by omega) (by omega) ⟨I0, rfl, fun j hj => absurd hj (by omega), fun _ _ _ => rfl⟩
  · rintro k hk s ⟨I1, rfl, h1, h2⟩
    have e4 : I1 61 4 = nt l := (h2 61 4 (by omega)).trans g4
    simp (disch := omega) only [b_X12_read_1, e4, f_X12_read_2, nt_clamp, nt_le, nt_lt, nt_eq, lit_le, lit_lt, le_lit, lt_lit, eq_lit, lit_eq, nt_neg, nt_ge, nt_add, nt_mul, nt_addl, lit_add, nt_mull, lit_mul, nt_sub, nt_subl, lit_sub, nt_divl, nt_m1, nt_m2, nt_m1', nt_m2', if_neg, false_or]
    refine ok_some ⟨_, rfl, ?_, ?_⟩
    · intro j hj
      rw [xup_if]
      by_cases c : j = k
      · rw [if_pos c, c, h2 62 k (by omega), g0 62 k (by omega), h62 k hk]; exact byt_byt _
      · rw [if_neg c]; exact h1 j (by omega)
    · intro c j hc
      rw [xup_bj _ _ _ _ _ hc]; exact h2 c j hc
  rintro s ⟨I1, rfl, a1, a2⟩
  have e4 : I1 61 4 = nt l := (a2 61 4 (by omega)).trans g4
  simp (disch := omega) only [b_X12_read_1, e4, nt_clamp, nt_le, nt_lt, nt_eq, lit_le, lit_lt, le_lit, lt_lit, eq_lit, lit_eq, nt_neg, nt_ge, nt_add, nt_mul, nt_addl, lit_add, nt_mull, lit_mul, nt_sub, nt_subl, lit_sub, nt_divl, nt_m1, nt_m2, nt_m1', nt_m2', if_pos]
  apply ok_map
  unfold f_X12_read_3
  apply ok_bind
  have b0 : ∀ c j, ¬ (c = 61 ∧ j = 2) → xup I1 61 2 0 c j = I1 c j := fun c j hc => xup_no _ _ _ _ hc
  have b2 : xup I1 61 2 0 61 2 = 0 := xup_at _ _ _ _
  generalize xup I1 61 2 0 = I2 at b0 b2 ⊢
  have hTr : Tr l tb I2 := ⟨T, (b0 61 4 (by omega)).trans e4, fun k hk => (b0 63 k (by omega)).trans (a1 k hk)⟩
  refine (parts_ok hTr hK).imp ?_
  rintro ⟨_, I3, J3⟩ ⟨⟨k, hT⟩, c1, c2⟩
  dsimp only at hT c1 c2 ⊢
  have hK3 : hKy J3 := fun q hq => (c2 68 q (by omega)).trans (hK q hq)
  have f3 : ∀ c j, ¬ rdReg c j → I3 c j = I c j := by
    intro c j hc
    unfold rdReg at hc
    rw [c1 c j (by unfold tkReg; omega), b0 c j (by omega), a2 c j (by omega), g0 c j (by omega)]
  have hTA := TA_of hT
  unfold f_X12_read_4
  have d0 : ∀ c j, ¬ (c = 61 ∧ (j = 11 ∨ j = 12 ∨ j = 14 ∨ j = 19 ∨ j = 20)) → xup (xup (xup (xup (xup I3 61 11 0) 61 12 0) 61 14 0) 61 19 0) 61 20 2 c j = I3 c j := by
    intro c j hc
    rw [xup_no _ _ _ _ (by omega), xup_no _ _ _ _ (by omega), xup_no _ _ _ _ (by omega), xup_no _ _ _ _ (by omega), xup_no _ _ _ _ (by omega)]
  have d11 : xup (xup (xup (xup (xup I3 61 11 0) 61 12 0) 61 14 0) 61 19 0) 61 20 2 61 11 = 0 := by
    rw [xup_j _ _ _ _ (by omega), xup_j _ _ _ _ (by omega), xup_j _ _ _ _ (by omega), xup_j _ _ _ _ (by omega), xup_at]
  have d12 : xup (xup (xup (xup (xup I3 61 11 0) 61 12 0) 61 14 0) 61 19 0) 61 20 2 61 12 = 0 := by
    rw [xup_j _ _ _ _ (by omega), xup_j _ _ _ _ (by omega), xup_j _ _ _ _ (by omega), xup_at]
  have d14 : xup (xup (xup (xup (xup I3 61 11 0) 61 12 0) 61 14 0) 61 19 0) 61 20 2 61 14 = 0 := by
    rw [xup_j _ _ _ _ (by omega), xup_j _ _ _ _ (by omega), xup_at]
  have d19 : xup (xup (xup (xup (xup I3 61 11 0) 61 12 0) 61 14 0) 61 19 0) 61 20 2 61 19 = 0 := by
    rw [xup_j _ _ _ _ (by omega), xup_at]
  have d20 : xup (xup (xup (xup (xup I3 61 11 0) 61 12 0) 61 14 0) 61 19 0) 61 20 2 61 20 = 2 := xup_at _ _ _ _
  generalize xup (xup (xup (xup (xup I3 61 11 0) 61 12 0) 61 14 0) 61 19 0) 61 20 2 = I4 at d0 d11 d12 d14 d19 d20 ⊢
  have hL : Lg l tb 0 I4 J3 := by
    refine ⟨⟨by omega, d11, d12, fun j hj => absurd hj (by omega), TA_fr hTA (fun c j hc => d0 c j (by omega)) (fun _ => rfl)⟩, rfl, rfl, d19, fun j i hj => ?_, d20⟩
    cases hj
  refine rlines_ok T _ hL ?_
  intro I5 J5 hx f5 j5
  have hK5 : hKy J5 := fun q hq => (j5 68 q (by omega)).trans (hK3 q hq)
  have F5 : ∀ c j, ¬ rdReg c j → I5 c j = I c j := by
    intro c j hc
    have hc' := hc
    unfold rdReg at hc'
    rw [f5 c j (by unfold lnReg; omega), d0 c j (by omega)]; exact f3 c j hc
  have e52 : I5 61 2 = 0 := by
    rw [f5 61 2 (by unfold lnReg; omega), d0 _ _ (by omega), c1 _ _ (by unfold tkReg; omega)]; exact b2
  have e514 : I5 61 14 = 0 := (f5 61 14 (by unfold lnReg; omega)).trans d14
  unfold f_X12_read_10
  rcases hx with ⟨hLg, hF0, hend⟩ | hBad
  · have hW := Wf_of T hF0
    have hn6 := Wf_nS hW (Nat.le_refl _)
    have hir := inp_r tb (sK l tb)
    have hRm : Rm l tb (sK l tb) I5 J5 := ⟨hW, hLg.1.2.2.2.2, hLg.1.2.2.1, hLg.2.2.2.1, hLg.2.2.2.2.1, hLg.2.2.2.2.2⟩
    have e510 : I5 61 10 = nt (sK l tb + 1) := by
      rw [f5 61 10 (by unfold lnReg; omega), d0 _ _ (by omega)]; exact TRe_N hT hW
    rw [if_pos hLg.1.2.2.1]
    unfold f_X12_read_11
    apply ok_bind
    refine (means_ok hRm e514 e510).imp ?_
    rintro ⟨_, I6, J6⟩ ⟨rfl, r6, m6, f6⟩
    dsimp only at r6 m6 f6 ⊢
    have e612 : I6 61 12 = 0 := (f6 61 12 (by omega) (by unfold woReg; omega)).trans hLg.1.2.2.1
    have e62 : I6 61 2 = 0 := (f6 61 2 (by omega) (by unfold woReg; omega)).trans e52
    have F6 : ∀ c j, ¬ rdReg c j → I6 c j = I c j := by
      intro c j hc
      have hc' := hc
      unfold rdReg at hc'
      rw [f6 c j (by omega) (by unfold woReg; omega)]; exact F5 c j hc
    have hfn : fno l tb = (Wt tb (sK l tb) (sK l tb)).1 := by unfold fno; rw [if_pos hF0]
    have hpl : plc l tb = if (Wt tb (sK l tb) (sK l tb)).1 = 0 then -1 else nt (Wt tb (sK l tb) (sK l tb)).2 := by unfold plc; rw [if_pos hF0]
    rw [hfn, hpl]
    unfold f_X12_read_12
    rw [if_pos (show I6 61 12 ≤ 0 from by rw [e612]; decide)]
    unfold f_X12_read_14
    obtain ⟨r1, r2, r3⟩ := r6
    by_cases c0 : (Wt tb (sK l tb) (sK l tb)).1 = 0
    · rw [if_pos (show I6 61 14 ≤ 0 from by rw [r1, c0]; decide), if_pos c0]
      unfold f_X12_read_16 f_X12_read_17
      have k0 : ∀ c j, ¬ (c = 61 ∧ j = 16) → xup I6 61 16 (-1) c j = I6 c j := fun c j hc => xup_no _ _ _ _ hc
      have k16 : xup I6 61 16 (-1) 61 16 = -1 := xup_at _ _ _ _
      generalize xup I6 61 16 (-1) = I7 at k0 k16 ⊢
      rw [if_pos (show I7 61 12 ≤ 0 from by rw [k0 _ _ (by omega), e612]; decide)]
      unfold f_X12_read_19
      rw [if_pos (show I7 61 14 ≤ 0 from by rw [k0 _ _ (by omega), r1, c0]; decide)]
      have m7 : fMa (At tb (sK l tb) (sK l tb)) (I7 71) := by
        have : I7 71 = I6 71 := funext fun j => k0 71 j (by omega)
        rw [this]; exact m6 c0
      refine (rread21_ok (J := J6) hn6 hir.2 m7 ?_ ?_ _).imp ?_
      · rw [k0 _ _ (by omega), f6 _ _ (by omega) (by unfold woReg; omega)]; exact hRm.2.2.2.1
      · rw [k0 _ _ (by omega), f6 _ _ (by omega) (by unfold woReg; omega)]; exact hRm.2.2.2.2.2
      rintro ⟨v, I8, J8⟩ ⟨rfl, q1, q2, q3, q4, q5, q6, q7, q8, q9, q10⟩
      dsimp only at q1 q2 q3 q4 q5 q6 q7 q8 q9 q10 ⊢
      refine ⟨by rw [q1, c0]; rfl, ?_, ?_, fun _ => ⟨q2, q3, q4, q5, q6, q7, q8, q9⟩, fun h => absurd c0 h, ?_, hK5⟩
      · show I8 61 16 = -1
        rw [q10 _ _ (by unfold rdReg2; omega)]; exact k16
      · show I8 61 2 = 0
        rw [q10 _ _ (by unfold rdReg2; omega), k0 _ _ (by omega)]; exact e62
      · intro c j h1 h2
        have h1' := h1
        unfold rdReg at h1'
        show I8 c j = I c j
        rw [q10 c j h2, k0 c j (by omega)]; exact F6 c j h1
    · obtain ⟨r4, r5⟩ := r3 c0
      rw [if_neg (show ¬ I6 61 14 ≤ 0 from by rw [r1]; exact le0n (by omega) c0), if_neg c0]
      unfold f_X12_read_15 f_X12_read_17
      rw [r4]
      have k0 : ∀ c j, ¬ (c = 61 ∧ j = 16) → xup I6 61 16 (nt (Wt tb (sK l tb) (sK l tb)).2) c j = I6 c j := fun c j hc => xup_no _ _ _ _ hc
      have k16 : xup I6 61 16 (nt (Wt tb (sK l tb) (sK l tb)).2) 61 16 = nt (Wt tb (sK l tb) (sK l tb)).2 := xup_at _ _ _ _
      generalize xup I6 61 16 (nt (Wt tb (sK l tb) (sK l tb)).2) = I7 at k0 k16 ⊢
      rw [if_pos (show I7 61 12 ≤ 0 from by rw [k0 _ _ (by omega), e612]; decide)]
      unfold f_X12_read_19
      rw [if_neg (show ¬ I7 61 14 ≤ 0 from by rw [k0 _ _ (by omega), r1]; exact le0n (by omega) c0)]
      unfold f_X12_read_20
      refine ok_some ⟨?_, k16, ?_, fun h => absurd h c0, ?_, ?_, hK5⟩
      · show I7 61 14 = _
        rw [k0 _ _ (by omega)]; exact r1
      · show I7 61 2 = 0
        rw [k0 _ _ (by omega)]; exact e62
      · intro _ c j hc
        unfold rdReg2 at hc
        show I7 c j = I c j
        rw [k0 c j (by omega)]; exact F6 c j (by unfold rdReg; omega)
      · intro c j h1 h2
        have h1' := h1
        unfold rdReg at h1'
        show I7 c j = I c j
        rw [k0 c j (by omega)]; exact F6 c j h1
  · obtain ⟨z1, z2⟩ := Bad_n hBad
    have hle := sF_le l tb
    have hfn : fno l tb = sF l tb := by unfold fno; rw [if_neg hBad.2.1]
    have hpl : plc l tb = sP l tb := by unfold plc; rw [if_neg hBad.2.1]
    rw [if_neg z1, hfn, hpl]
    unfold f_X12_read_12
    rw [if_neg z2]
    unfold f_X12_read_13 f_X12_read_17
    rw [hBad.2.2]
    have k0 : ∀ c j, ¬ (c = 61 ∧ j = 16) → xup I5 61 16 (sP l tb) c j = I5 c j := fun c j hc => xup_no _ _ _ _ hc
    have k16 : xup I5 61 16 (sP l tb) 61 16 = sP l tb := xup_at _ _ _ _
    generalize xup I5 61 16 (sP l tb) = I7 at k0 k16 ⊢
    rw [if_neg (show ¬ I7 61 12 ≤ 0 from by rw [k0 _ _ (by omega)]; exact z2)]
    unfold f_X12_read_18
    refine ok_some ⟨?_, k16, ?_, fun h => absurd h hBad.2.1, ?_, ?_, hK5⟩
    · show I7 61 12 = _
      rw [k0 _ _ (by omega)]; exact hBad.1
    · show I7 61 2 = 0
      rw [k0 _ _ (by omega)]; exact e52
    · intro _ c j hc
      unfold rdReg2 at hc
      show I7 c j = I c j
      rw [k0 c j (by omega)]; exact F5 c j (by unfold rdReg; omega)
    · intro c j h1 h2
      have h1' := h1
      unfold rdReg at h1'
      show I7 c j = I c j
      rw [k0 c j (by omega)]; exact F5 c j h1
