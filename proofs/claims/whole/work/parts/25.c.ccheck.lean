/-! the class checks its lines -/
theorem o1_s (s : Nat) : o1 (some s) = nt s := rfl
theorem o1_n : o1 none = -1 := rfl
theorem m1_lt : ((-1 : Int32) < 0) = True := by decide
theorem m1_le : ((0 : Int32) ≤ -1) = False := by decide
theorem fnd_lt {tb : Nat → Nat} {N k s : Nat} (h : fnd tb N k = some s) : s < nS tb N := (ff_some.mp h).1
theorem checkLine_ok {l N t : Nat} {tb : Nat → Nat} {w : Nat × Nat} {I : xI} {J : xJ} (h : Cc l tb N I) (hN : Nm tb N I) (hin : I 30 4 = nt (inp tb N)) (ht : t < N) (hd : due tb t = false) (hF : CF w I) : Ok (f_X8_checkLine (nt t) I J) (fun o => o.2.2 = J ∧ CF ((chk tb N t).foldl (wup tb) w) o.2.1 ∧ ∀ c j, ¬ (c = 30 ∧ (j = 5 ∨ j = 6)) → o.2.1 c j = I c j) := by
  have hW := h.2.2
  have h4 := hW.2.1
  have hn6 := Wf_nS hW (Nat.le_refl N)
  have hir := inp_r tb N
  obtain ⟨hk, hle, hd2, _⟩ := Wf_line hW ht hd
  obtain ⟨k4, k5, k6, k7⟩ := Wf_k2 hW ht hd
  have e27 : I 27 t = nt (kk tb t) := (h.2.1.2 t ht).1
  have hkd : kk tb t < 9 := kd_lt _ _
  have hC : ∀ I', (∀ c j, ¬ (c = 30 ∧ (j = 5 ∨ j = 6)) → I' c j = I c j) → Cc l tb N I' ∧ Nm tb N I' ∧ I' 30 4 = nt (inp tb N) := by
    intro I' hf
    refine ⟨Cc_fr h (fun c j hc => hf c j (by omega)), ⟨(hf 30 3 (by omega)).trans hN.1, fun s i hs => (hf 31 s (by omega)).trans (hN.2 s i hs)⟩, (hf 30 4 (by omega)).trans hin⟩
  unfold f_X8_checkLine f_X8_checkLine_0
  simp (disch := omega) only [nt_clamp, nt_le, nt_lt, nt_eq, lit_le, lit_lt, le_lit, lt_lit, eq_lit, lit_eq, nt_neg, nt_ge, nt_add, nt_mul, nt_addl, lit_add, nt_mull, lit_mul, nt_sub, nt_subl, lit_sub, nt_divl, nt_m1, nt_m2, nt_m1', nt_m2', false_or, if_neg, e27, f_X8_checkLine_1]
  have fr0 : ∀ c j, ¬ (c = 30 ∧ (j = 5 ∨ j = 6)) → I c j = I c j := fun _ _ _ => rfl
  by_cases c4 : kk tb t = 4
  · obtain ⟨p1, p2⟩ := k4 c4
    obtain ⟨s, i, e1, e2, e3, e4⟩ := fnd_own hW ht c4
    have ech : chk tb N t = [(if ex (nS tb t) (fun s => decide (nmv tb N s = nm tb (st tb (t + 1)))) = true then 3 else 0, t + 1)] := if_pos c4
    have e31 := hN.2 s i e2
    have him := (SL_mem e2).1
    rw [if_pos c4, ech, e4]
    simp (disch := omega) only [f_X8_checkLine_2, nt_addl, stateIn_ok h hN p1 p2, e1, o1_s, Option.bind_some, f_X8_checkLine_3, nt_clamp, nt_le, nt_lt, nt_eq, lit_le, lit_lt, le_lit, lt_lit, eq_lit, lit_eq, nt_neg, nt_ge, nt_add, nt_mul, nt_addl, lit_add, nt_mull, lit_mul, nt_sub, nt_subl, lit_sub, nt_divl, nt_m1, nt_m2, nt_m1', nt_m2', if_false, f_X8_checkLine_4, f_X8_checkLine_5, false_or, if_neg, e31]
    by_cases ci : i = t
    · rw [if_pos (by omega)]
      simp only [f_X8_checkLine_7, f_X8_checkLine_8, nt_addl]
      apply ok_bind
      refine (failIf_c h p1 hF fr0 false (a := 3) (by omega) (by omega) rfl).imp ?_
      rintro ⟨_, I1, J1⟩ ⟨rfl, a1, a2⟩
      refine ok_some ⟨rfl, ?_, a2⟩
      rw [decide_eq_false (show ¬ ¬ i = t from fun h => h ci)]
      exact a1
    · rw [if_neg (by omega)]
      simp only [f_X8_checkLine_6, f_X8_checkLine_8, nt_addl]
      apply ok_bind
      refine (failIf_c h p1 hF fr0 true (a := 3) (by omega) (by omega) rfl).imp ?_
      rintro ⟨_, I1, J1⟩ ⟨rfl, a1, a2⟩
      refine ok_some ⟨rfl, ?_, a2⟩
      rw [decide_eq_true ci]
      exact a1
  rw [if_neg c4]
  by_cases c5 : kk tb t = 5
  · obtain ⟨p1, p2⟩ := k5 c5
    have hv : vv tb (t + 1) < 10000 := tvl_lt hW.1 p2
    have ech : chk tb N t = [(if 1 ≤ vv tb (t + 1) ∧ vv tb (t + 1) ≤ 4 then 0 else 5, t + 1)] := by unfold chk; rw [if_neg c4, if_pos c5]
    rw [if_pos c5, ech]
    simp (disch := omega) only [f_X8_checkLine_10, nt_addl, valueOf_ok h p1 p2, Option.bind_some, f_X8_checkLine_11, isInputs_ok (show vv tb (t + 1) < 100000 from by omega), f_X8_checkLine_12, bi_0]
    by_cases cv : 1 ≤ vv tb (t + 1) ∧ vv tb (t + 1) ≤ 4
    · rw [decide_eq_true cv, if_neg (by decide), if_pos cv]
      simp only [f_X8_checkLine_14, f_X8_checkLine_15, nt_addl]
      apply ok_bind
      refine (failIf_c h p1 hF fr0 false (a := 5) (by omega) (by omega) rfl).imp ?_
      rintro ⟨_, I1, J1⟩ ⟨rfl, a1, a2⟩
      exact ok_some ⟨rfl, a1, a2⟩
    · rw [decide_eq_false cv, if_pos rfl, if_neg cv]
      simp only [f_X8_checkLine_13, f_X8_checkLine_15, nt_addl]
      apply ok_bind
      refine (failIf_c h p1 hF fr0 true (a := 5) (by omega) (by omega) rfl).imp ?_
      rintro ⟨_, I1, J1⟩ ⟨rfl, a1, a2⟩
      exact ok_some ⟨rfl, a1, a2⟩
  rw [if_neg c5]
  by_cases c6 : kk tb t = 6
  · obtain ⟨p4, q1, q2, q3, q4⟩ := k6 c6
    have hv2 : vv tb (t + 2) < 10000 := tvl_lt hW.1 q2
    have ech : chk tb N t = [(if (fnd tb N (t + 1)).isSome = true then 0 else 4, t + 1), (if vv tb (t + 2) < inp tb N then 0 else 5, t + 2), (if kk tb (t + 3) = 1 ∧ (fnd tb N (t + 3)).isSome = false then 4 else 0, t + 3), (if kk tb (t + 4) = 2 ∧ 3 < vv tb (t + 4) then 5 else 0, t + 4)] := by unfold chk; rw [if_neg c4, if_neg c5, if_pos c6]
    rw [if_pos c6, ech]
    simp (disch := omega) only [f_X8_checkLine_17, nt_addl, stateIn_ok h hN (show t + 1 < N from by omega) q1, Option.bind_some, f_X8_checkLine_18]
    -- first: the state
    have s1 : ∀ (F : xI → xJ → Option (Unit × xI × xJ)) (Q : Unit × xI × xJ → Prop), (∀ I1, CF (wup tb w (if (fnd tb N (t + 1)).isSome = true then 0 else 4, t + 1)) I1 → (∀ c j, ¬ (c = 30 ∧ (j = 5 ∨ j = 6)) → I1 c j = I c j) → Ok (F I1 J) Q) → Ok (if 0 ≤ o1 (fnd tb N (t + 1)) then (f_X8_failIf 0 4 (nt (t + 1)) I J).bind fun o => F o.2.1 o.2.2 else (f_X8_failIf 1 4 (nt (t + 1)) I J).bind fun o => F o.2.1 o.2.2) Q := by
      intro F Q hF2
      cases e : fnd tb N (t + 1) with
      | some s =>
        have := fnd_lt e
        rw [o1_s, if_pos (by rw [nt_ge (by omega)]; trivial)]
        apply ok_bind
        refine (failIf_c h (show t + 1 < N from by omega) hF fr0 false (a := 4) (c := if (fnd tb N (t + 1)).isSome = true then 0 else 4) (by omega) (by omega) (by rw [e]; rfl)).imp ?_
        rintro ⟨_, I1, J1⟩ ⟨rfl, a1, a2⟩
        exact hF2 I1 a1 a2
      | none =>
        rw [o1_n, if_neg (by decide)]
        apply ok_bind
        refine (failIf_c h (show t + 1 < N from by omega) hF fr0 true (a := 4) (c := if (fnd tb N (t + 1)).isSome = true then 0 else 4) (by omega) (by omega) (by rw [e]; rfl)).imp ?_
        rintro ⟨_, I1, J1⟩ ⟨rfl, a1, a2⟩
        exact hF2 I1 a1 a2
    simp only [f_X8_checkLine_19, f_X8_checkLine_20, f_X8_checkLine_21, nt_addl]
    refine s1 (f_X8_checkLine_22 (nt t)) _ ?_
    intro I1 w1 f1
    obtain ⟨C1, N1, in1⟩ := hC I1 f1
    simp (disch := omega) only [f_X8_checkLine_22, nt_addl, valueOf_ok C1 (show t + 2 < N from by omega) q2, Option.bind_some, f_X8_checkLine_23, in1, nt_clamp, nt_le, nt_lt, nt_eq, lit_le, lit_lt, le_lit, lt_lit, eq_lit, lit_eq, nt_neg, nt_ge, nt_add, nt_mul, nt_addl, lit_add, nt_mull, lit_mul, nt_sub, nt_subl, lit_sub, nt_divl, nt_m1, nt_m2, nt_m1', nt_m2', f_X8_checkLine_24, f_X8_checkLine_25, f_X8_checkLine_26]
    have s2 : ∀ (F : xI → xJ → Option (Unit × xI × xJ)) (Q : Unit × xI × xJ → Prop), (∀ I2, CF (wup tb (wup tb w (if (fnd tb N (t + 1)).isSome = true then 0 else 4, t + 1)) (if vv tb (t + 2) < inp tb N then 0 else 5, t + 2)) I2 → (∀ c j, ¬ (c = 30 ∧ (j = 5 ∨ j = 6)) → I2 c j = I c j) → Ok (F I2 J) Q) → Ok (if vv tb (t + 2) < inp tb N then (f_X8_failIf 0 5 (nt (t + 2)) I1 J).bind fun o => F o.2.1 o.2.2 else (f_X8_failIf 1 5 (nt (t + 2)) I1 J).bind fun o => F o.2.1 o.2.2) Q := by
      intro F Q hF2
      by_cases cv : vv tb (t + 2) < inp tb N
      · rw [if_pos cv]
        apply ok_bind
        refine (failIf_c C1 (show t + 2 < N from by omega) w1 f1 false (a := 5) (c := if vv tb (t + 2) < inp tb N then 0 else 5) (by omega) (by omega) (by rw [if_pos cv]; rfl)).imp ?_
        rintro ⟨_, I2, J1⟩ ⟨rfl, a1, a2⟩
        exact hF2 I2 a1 a2
      · rw [if_neg cv]
        apply ok_bind
        refine (failIf_c C1 (show t + 2 < N from by omega) w1 f1 true (a := 5) (c := if vv tb (t + 2) < inp tb N then 0 else 5) (by omega) (by omega) (by rw [if_neg cv]; rfl)).imp ?_
        rintro ⟨_, I2, J1⟩ ⟨rfl, a1, a2⟩
        exact hF2 I2 a1 a2
    refine s2 (f_X8_checkLine_27 (nt t)) _ ?_
    intro I2 w2 f2
    obtain ⟨C2, N2, in2⟩ := hC I2 f2
    simp (disch := omega) only [f_X8_checkLine_27, nt_addl, isOpen_ok C2 (show t + 3 < N from by omega), Option.bind_some, f_X8_checkLine_28, bi_0]
    have s3 : ∀ b c, (c = if b = true then 4 else 0) → c = (if kk tb (t + 3) = 1 ∧ (fnd tb N (t + 3)).isSome = false then 4 else 0) → Ok (f_X8_checkLine_33 (nt t) (bi b) I2 J) (fun o => o.2.2 = J ∧ CF (wup tb (wup tb (wup tb (wup tb w (if (fnd tb N (t + 1)).isSome = true then 0 else 4, t + 1)) (if vv tb (t + 2) < inp tb N then 0 else 5, t + 2)) (if kk tb (t + 3) = 1 ∧ (fnd tb N (t + 3)).isSome = false then 4 else 0, t + 3)) (if kk tb (t + 4) = 2 ∧ 3 < vv tb (t + 4) then 5 else 0, t + 4)) o.2.1 ∧ ∀ c j, ¬ (c = 30 ∧ (j = 5 ∨ j = 6)) → o.2.1 c j = I c j) := by
      intro b c hb hc
      simp only [f_X8_checkLine_33, nt_addl]
      apply ok_bind
      refine (failIf_c C2 (show t + 3 < N from by omega) w2 f2 b (a := 4) (c := if kk tb (t + 3) = 1 ∧ (fnd tb N (t + 3)).isSome = false then 4 else 0) (by omega) (by omega) (by rw [← hc]; exact hb)).imp ?_
      rintro ⟨_, I3, J1⟩ ⟨rfl, w3, f3⟩
      dsimp only at w3 f3 ⊢
      obtain ⟨C3, N3, in3⟩ := hC I3 f3
      simp (disch := omega) only [f_X8_checkLine_34, nt_addl, isOpen_ok C3 (show t + 4 < N from by omega), Option.bind_some, f_X8_checkLine_35, bi_0]
      have s4 : ∀ b c, (c = if b = true then 5 else 0) → c = (if kk tb (t + 4) = 2 ∧ 3 < vv tb (t + 4) then 5 else 0) → Ok (f_X8_checkLine_40 (nt t) (bi b) I3 J1) (fun o => o.2.2 = J1 ∧ CF (wup tb (wup tb (wup tb (wup tb w (if (fnd tb N (t + 1)).isSome = true then 0 else 4, t + 1)) (if vv tb (t + 2) < inp tb N then 0 else 5, t + 2)) (if kk tb (t + 3) = 1 ∧ (fnd tb N (t + 3)).isSome = false then 4 else 0, t + 3)) (if kk tb (t + 4) = 2 ∧ 3 < vv tb (t + 4) then 5 else 0, t + 4)) o.2.1 ∧ ∀ c j, ¬ (c = 30 ∧ (j = 5 ∨ j = 6)) → o.2.1 c j = I c j) := by
        intro b c hb hc
        simp only [f_X8_checkLine_40, nt_addl]
        apply ok_bind
        refine (failIf_c C3 p4 w3 f3 b (a := 5) (c := if kk tb (t + 4) = 2 ∧ 3 < vv tb (t + 4) then 5 else 0) (by omega) (by omega) (by rw [← hc]; exact hb)).imp ?_
        rintro ⟨_, I4, J2⟩ ⟨rfl, w4, f4⟩
        exact ok_some ⟨rfl, w4, f4⟩
      rcases q4 with q4 | q4
      · have hv4 : vv tb (t + 4) < 10000 := tvl_lt hW.1 q4
        rw [decide_eq_false (show ¬ kk tb (t + 4) = 8 from by omega), if_pos rfl]
        simp (disch := omega) only [f_X8_checkLine_36, nt_addl, valueOf_ok C3 p4 q4, Option.bind_some, f_X8_checkLine_37, nt_clamp, nt_le, nt_lt, nt_eq, lit_le, lit_lt, le_lit, lt_lit, eq_lit, lit_eq, nt_neg, nt_ge, nt_add, nt_mul, nt_addl, lit_add, nt_mull, lit_mul, nt_sub, nt_subl, lit_sub, nt_divl, nt_m1, nt_m2, nt_m1', nt_m2']
        by_cases cv : vv tb (t + 4) ≤ 3
        · rw [if_pos cv]
          exact s4 false 0 rfl (by rw [if_neg (fun h => by omega)])
        · rw [if_neg cv]
          exact s4 true 5 rfl (by rw [if_pos ⟨q4, by omega⟩])
      · rw [decide_eq_true q4, if_neg (by decide)]
        exact s4 false 0 rfl (by rw [if_neg (fun h => by omega)])
    rcases q3 with q3 | q3
    · rw [decide_eq_false (show ¬ kk tb (t + 3) = 8 from by omega), if_pos rfl]
      simp (disch := omega) only [f_X8_checkLine_29, nt_addl, stateIn_ok C2 N2 (show t + 3 < N from by omega) q3, Option.bind_some, f_X8_checkLine_30]
      cases e : fnd tb N (t + 3) with
      | some s =>
        have := fnd_lt e
        rw [o1_s, if_pos (by rw [nt_ge (by omega)]; trivial), ← e]
        exact s3 false 0 rfl (by rw [if_neg (fun h => by rw [e] at h; cases h.2)])
      | none =>
        rw [o1_n, if_neg (by decide), ← e]
        exact s3 true 4 rfl (by rw [if_pos ⟨q3, by rw [e]; rfl⟩])
    · rw [decide_eq_true q3, if_neg (by decide)]
      exact s3 false 0 rfl (by rw [if_neg (fun h => by omega)])
  rw [if_neg c6]
  have c7 : kk tb t = 7 := by omega
  obtain ⟨p2, q1, q2⟩ := k7 c7
  have hv2 : vv tb (t + 2) < 10000 := tvl_lt hW.1 q2
  have ech : chk tb N t = [(if (fnd tb N (t + 1)).isSome = true then 0 else 4, t + 1), (if vv tb (t + 2) < 8 then 0 else 5, t + 2)] := by unfold chk; rw [if_neg c4, if_neg c5, if_neg c6, if_pos c7]
  rw [ech]
  simp (disch := omega) only [f_X8_checkLine_42, nt_addl, stateIn_ok h hN (show t + 1 < N from by omega) q1, Option.bind_some, f_X8_checkLine_43]
  have s1 : ∀ b c, (c = if b = true then 4 else 0) → c = (if (fnd tb N (t + 1)).isSome = true then 0 else 4) → Ok (f_X8_checkLine_46 (nt t) (bi b) I J) (fun o => o.2.2 = J ∧ CF (wup tb (wup tb w (if (fnd tb N (t + 1)).isSome = true then 0 else 4, t + 1)) (if vv tb (t + 2) < 8 then 0 else 5, t + 2)) o.2.1 ∧ ∀ c j, ¬ (c = 30 ∧ (j = 5 ∨ j = 6)) → o.2.1 c j = I c j) := by
    intro b c hb hc
    simp only [f_X8_checkLine_46, nt_addl]
    apply ok_bind
    refine (failIf_c h (show t + 1 < N from by omega) hF fr0 b (a := 4) (c := if (fnd tb N (t + 1)).isSome = true then 0 else 4) (by omega) (by omega) (by rw [← hc]; exact hb)).imp ?_
    rintro ⟨_, I3, J1⟩ ⟨rfl, w3, f3⟩
    dsimp only at w3 f3 ⊢
    obtain ⟨C3, N3, in3⟩ := hC I3 f3
    simp (disch := omega) only [f_X8_checkLine_47, nt_addl, valueOf_ok C3 p2 q2, Option.bind_some, f_X8_checkLine_48, nt_clamp, nt_le, nt_lt, nt_eq, lit_le, lit_lt, le_lit, lt_lit, eq_lit, lit_eq, nt_neg, nt_ge, nt_add, nt_mul, nt_addl, lit_add, nt_mull, lit_mul, nt_sub, nt_subl, lit_sub, nt_divl, nt_m1, nt_m2, nt_m1', nt_m2']
    by_cases cv : vv tb (t + 2) < 8
    · rw [if_pos cv]
      simp only [f_X8_checkLine_50, f_X8_checkLine_51, nt_addl]
      apply ok_bind
      refine (failIf_c C3 p2 w3 f3 false (a := 5) (c := if vv tb (t + 2) < 8 then 0 else 5) (by omega) (by omega) (by rw [if_pos cv]; rfl)).imp ?_
      rintro ⟨_, I4, J2⟩ ⟨rfl, w4, f4⟩
      refine ok_some ⟨rfl, ?_, f4⟩
      exact w4
    · rw [if_neg cv]
      simp only [f_X8_checkLine_49, f_X8_checkLine_51, nt_addl]
      apply ok_bind
      refine (failIf_c C3 p2 w3 f3 true (a := 5) (c := if vv tb (t + 2) < 8 then 0 else 5) (by omega) (by omega) (by rw [if_neg cv]; rfl)).imp ?_
      rintro ⟨_, I4, J2⟩ ⟨rfl, w4, f4⟩
      refine ok_some ⟨rfl, ?_, f4⟩
      exact w4
  cases e : fnd tb N (t + 1) with
  | some s =>
    have := fnd_lt e
    rw [o1_s, if_pos (by rw [nt_ge (by omega)]; trivial), ← e]
    exact s1 false 0 rfl (by rw [e]; rfl)
  | none =>
    rw [o1_n, if_neg (by decide), ← e]
    exact s1 true 4 rfl (by rw [e]; rfl)
