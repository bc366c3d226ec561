/-! the class's reader: what lines mean -/
theorem isInputs_ok {v : Nat} {I : xI} {J : xJ} (hv : v < 100000) : f_X8_isInputs (nt v) I J = some (bi (decide (1 ≤ v ∧ v ≤ 4)), I, J) := by
  simp (disch := omega) only [f_X8_isInputs, f_X8_isInputs_0, f_X8_isInputs_1, f_X8_isInputs_2, f_X8_isInputs_3, f_X8_isInputs_4, nt_clamp, nt_le, nt_lt, nt_eq, lit_le, lit_lt, le_lit, lt_lit, eq_lit, lit_eq, nt_neg, nt_ge, nt_add, nt_mul, nt_addl, lit_add, nt_mull, lit_mul, nt_sub, nt_subl, lit_sub, nt_divl, nt_m1, nt_m2, nt_m1', nt_m2']
  by_cases c1 : v < 1
  · rw [if_pos c1, decide_eq_false (by omega)]; rfl
  · rw [if_neg c1]
    by_cases c2 : 4 < v
    · rw [if_pos c2, decide_eq_false (by omega)]; rfl
    · rw [if_neg c2, decide_eq_true (by omega)]; rfl
theorem lengthOf_ok {l N k : Nat} {tb : Nat → Nat} {I : xI} {J : xJ} (h : Cc l tb N I) (hk : k < N) : f_X8_lengthOf (nt k) I J = some (nt (1 + (shp (kk tb k)).length), I, J) := by
  have h4 := h.2.2.2.1
  have hT := h.2.1.2 k hk
  have hkd := kd_lt tb (st tb k)
  obtain ⟨wz, wl, w6, wc⟩ := wsh_ok _ hkd
  have hz2 : (¬ zok (wsh (kd tb (st tb k)))) = False := eq_false (fun h => h wz)
  simp (disch := omega) only [f_X8_lengthOf, f_X8_lengthOf_0, f_X8_lengthOf_1, f_X8_lengthOf_2, nt_clamp, nt_le, nt_lt, nt_eq, lit_le, lit_lt, le_lit, lt_lit, eq_lit, lit_eq, nt_neg, nt_ge, nt_add, nt_mul, nt_addl, lit_add, nt_mull, lit_mul, nt_sub, nt_subl, lit_sub, nt_divl, nt_m1, nt_m2, nt_m1', nt_m2', false_or, if_neg, hT.1, shapeOf_ok _ hkd, Option.bind_some, hz2, if_false, wl]
  show some (1 + nt (shp (kd tb (st tb k))).length, I, J) = _
  rw [show (1 : Int32) = nt 1 from rfl, nt_add]; rfl
/-- the tokens of a line -/
theorem Wf_k2 {l N t : Nat} {tb : Nat → Nat} (h : Wf l tb N) (ht : t < N) (hd : due tb t = false) : (kk tb t = 4 → t + 1 < N ∧ kk tb (t + 1) = 1) ∧ (kk tb t = 5 → t + 1 < N ∧ kk tb (t + 1) = 2) ∧ (kk tb t = 6 → t + 4 < N ∧ kk tb (t + 1) = 1 ∧ kk tb (t + 2) = 2 ∧ (kk tb (t + 3) = 1 ∨ kk tb (t + 3) = 8) ∧ (kk tb (t + 4) = 2 ∨ kk tb (t + 4) = 8)) ∧ (kk tb t = 7 → t + 2 < N ∧ kk tb (t + 1) = 1 ∧ kk tb (t + 2) = 2) := by
  obtain ⟨_, h1, _, h2⟩ := Wf_line h ht hd
  have k9 : ∀ i, kk tb i < 9 := fun i => kd_lt _ _
  refine ⟨?_, ?_, ?_, ?_⟩
  · intro hk
    rw [hk] at h1 h2
    have h5 : (shp 4).length = 2 := rfl
    have e0 : ∀ k, k < 9 → fitb ((shp 4).getD 0 0) k = true → k = 1 := by decide
    exact ⟨by omega, e0 _ (k9 _) (h2 0 (by decide))⟩
  · intro hk
    rw [hk] at h1 h2
    have h5 : (shp 5).length = 2 := rfl
    have e0 : ∀ k, k < 9 → fitb ((shp 5).getD 0 0) k = true → k = 2 := by decide
    exact ⟨by omega, e0 _ (k9 _) (h2 0 (by decide))⟩
  · intro hk
    rw [hk] at h1 h2
    have h5 : (shp 6).length = 5 := rfl
    have e0 : ∀ k, k < 9 → fitb ((shp 6).getD 0 0) k = true → k = 1 := by decide
    have e1 : ∀ k, k < 9 → fitb ((shp 6).getD 1 0) k = true → k = 2 := by decide
    have e2 : ∀ k, k < 9 → fitb ((shp 6).getD 2 0) k = true → k = 1 ∨ k = 8 := by decide
    have e3 : ∀ k, k < 9 → fitb ((shp 6).getD 3 0) k = true → k = 2 ∨ k = 8 := by decide
    exact ⟨by omega, e0 _ (k9 _) (h2 0 (by decide)), e1 _ (k9 _) (h2 1 (by decide)), e2 _ (k9 _) (h2 2 (by decide)), e3 _ (k9 _) (h2 3 (by decide))⟩
  · intro hk
    rw [hk] at h1 h2
    have h5 : (shp 7).length = 3 := rfl
    have e0 : ∀ k, k < 9 → fitb ((shp 7).getD 0 0) k = true → k = 1 := by decide
    have e1 : ∀ k, k < 9 → fitb ((shp 7).getD 1 0) k = true → k = 2 := by decide
    exact ⟨by omega, e0 _ (k9 _) (h2 0 (by decide)), e1 _ (k9 _) (h2 1 (by decide))⟩
theorem Wf_same {l N t : Nat} {tb : Nat → Nat} (h : Wf l tb N) (ht : t < N) (hd : due tb t = false) : SLs tb (t + 1 + (shp (kk tb t)).length) = SLs tb (t + 1) ∧ inp tb (t + 1 + (shp (kk tb t)).length) = inp tb (t + 1) := by
  obtain ⟨_, h1, _, _⟩ := Wf_line h ht hd
  exact line_same (aq_beg hd) (kd_lt _ _) _ (Nat.le_refl _) (fun i hi => (h.2.2.2.1 _ (by have : (shp (kk tb t)).length = (shp (kd tb (st tb t))).length := rfl; omega)).2)
theorem cgath_ok {l N : Nat} {tb : Nat → Nat} {I : xI} {J : xJ} (h : Cc l tb N I) : Ok (f_X8_gather I J) (fun o => o.2.2 = J ∧ Nm tb N o.2.1 ∧ o.2.1 30 4 = nt (inp tb N) ∧ ∀ c j, ¬ c = 31 → ¬ (c = 30 ∧ (j = 3 ∨ j = 4)) → o.2.1 c j = I c j) := by
  have h4 := h.2.2.2.1
  have hW := h.2.2
  unfold f_X8_gather f_X8_gather_0 f_X8_gather_1
  refine ok_while (fun s => ∃ t z I', s = (nt t, z, I', J) ∧ t ≤ N ∧ due tb t = false ∧ Nm tb t I' ∧ I' 30 4 = nt (inp tb t) ∧ ∀ c j, ¬ c = 31 → ¬ (c = 30 ∧ (j = 3 ∨ j = 4)) → I' c j = I c j) (fun s => 1000 - s.1.toNatClampNeg) ?_ 5000 _ (by show 1000 - (0 : Int32).toNatClampNeg < 5000; omega) ⟨0, none, _, rfl, Nat.zero_le _, rfl, ⟨?_, fun s i hs => by cases hs⟩, xup_at _ _ _ _, ?_⟩
  · rintro s ⟨t, z, I1, rfl, ht, hd, hN, hin, hf⟩
    dsimp only
    rw [nt_clamp (show t < 2147483648 from by omega)]
    have hC : Cc l tb N I1 := Cc_fr h (fun c j hc => hf c j (by omega) (by omega))
    by_cases c : t < N
    · obtain ⟨hk, hle, hd2, _⟩ := Wf_line hW c hd
      obtain ⟨k4, k5, k6, k7⟩ := Wf_k2 hW c hd
      obtain ⟨es1, es2⟩ := Wf_same hW c hd
      have hkd := kd_lt tb (st tb t)
      have hkk : kk tb t = kd tb (st tb t) := rfl
      have eSL := SL_s tb t
      have ein := inp_s tb t
      have e27 := (hC.2.1.2 t c).1
      have hn6 := Wf_nS hW (show t ≤ N from ht)
      have fin : ∀ I2 (x2 : Int32), Nm tb (t + 1) I2 → I2 30 4 = nt (inp tb (t + 1)) → (∀ c j, ¬ c = 31 → ¬ (c = 30 ∧ (j = 3 ∨ j = 4)) → I2 c j = I c j) → Ok (f_X8_gather_11 (nt t) x2 I2 J) (Sum.elim (fun s' => (∃ t z I', s' = (nt t, z, I', J) ∧ t ≤ N ∧ due tb t = false ∧ Nm tb t I' ∧ I' 30 4 = nt (inp tb t) ∧ ∀ c j, ¬ c = 31 → ¬ (c = 30 ∧ (j = 3 ∨ j = 4)) → I' c j = I c j) ∧ 1000 - s'.1.toNatClampNeg < 1000 - t) (fun o => o.2.2 = J ∧ Nm tb N o.2.1 ∧ o.2.1 30 4 = nt (inp tb N) ∧ ∀ c j, ¬ c = 31 → ¬ (c = 30 ∧ (j = 3 ∨ j = 4)) → o.2.1 c j = I c j)) := by
        intro I2 x2 n2 i2 f2
        have hC2 : Cc l tb N I2 := Cc_fr h (fun c j hc => f2 c j (by omega) (by omega))
        simp only [f_X8_gather_11, lengthOf_ok hC2 c, Option.bind_some, f_X8_gather_12, nt_add]
        refine ok_some ⟨⟨t + 1 + (shp (kk tb t)).length, _, I2, by rw [← Nat.add_assoc], hle, hd2, ?_, by rw [es2]; exact i2, f2⟩, ?_⟩
        · unfold Nm nS; rw [es1]; exact n2
        · show 1000 - (nt (t + (1 + (shp (kk tb t)).length))).toNatClampNeg < 1000 - t
          rw [nt_clamp (by omega)]; omega
      simp (disch := omega) only [b_X8_gather_1, hC.2.1.1, nt_clamp, nt_le, nt_lt, nt_eq, lit_le, lit_lt, le_lit, lt_lit, eq_lit, lit_eq, nt_neg, nt_ge, nt_add, nt_mul, nt_addl, lit_add, nt_mull, lit_mul, nt_sub, nt_subl, lit_sub, nt_divl, nt_m1, nt_m2, nt_m1', nt_m2', if_neg, f_X8_gather_2, false_or, e27]
      by_cases c4 : kd tb (st tb t) = 4
      · rw [if_pos c4]
        have hlt : nS tb t < 6 := by
          have := Wf_nS hW (show t + 1 ≤ N from c)
          unfold nS at this ⊢
          rw [eSL, if_pos c4, List.length_append] at this
          have e1 : [t].length = 1 := rfl
          omega
        simp (disch := omega) only [f_X8_gather_3, hN.1, nt_clamp, nt_le, nt_lt, nt_eq, lit_le, lit_lt, le_lit, lt_lit, eq_lit, lit_eq, nt_neg, nt_ge, nt_add, nt_mul, nt_addl, lit_add, nt_mull, lit_mul, nt_sub, nt_subl, lit_sub, nt_divl, nt_m1, nt_m2, nt_m1', nt_m2', if_neg, f_X8_gather_4, false_or, xup_bj]
        refine fin _ _ ⟨?_, ?_⟩ ?_ ?_
        · show xup (xup I1 31 (nS tb t) (nt (t + 1))) 30 3 (nt (nS tb t + 1)) 30 3 = nt (nS tb (t + 1))
          rw [xup_at]; unfold nS; rw [eSL, if_pos c4, List.length_append]; rfl
        · intro s i hsi
          show xup (xup I1 31 (nS tb t) (nt (t + 1))) 30 3 (nt (nS tb t + 1)) 31 s = nt (i + 1)
          rw [xup_bj _ _ _ _ _ (by omega)]
          rw [eSL, if_pos c4, List.getElem?_append] at hsi
          by_cases cj : s < (SLs tb t).length
          · rw [if_pos cj] at hsi
            rw [xup_j _ _ _ _ (show ¬ s = nS tb t from by unfold nS; omega)]; exact hN.2 s i hsi
          · rw [if_neg cj] at hsi
            have hj0 : s - (SLs tb t).length = 0 := by
              rcases Nat.eq_zero_or_pos (s - (SLs tb t).length) with h | h
              · exact h
              · rw [List.getElem?_eq_none (by show 1 ≤ _; omega)] at hsi; cases hsi
            rw [hj0] at hsi
            have hit : i = t := by
              have : some t = some i := hsi
              cases this; rfl
            rw [hit, show s = nS tb t from by unfold nS; omega, xup_at]
        · show xup (xup I1 31 (nS tb t) (nt (t + 1))) 30 3 (nt (nS tb t + 1)) 30 4 = nt (inp tb (t + 1))
          rw [xup_j _ _ _ _ (by omega), xup_bj _ _ _ _ _ (by omega), ein, if_neg (fun h => by omega)]; exact hin
        · intro c' j h1 h2
          show xup (xup I1 31 (nS tb t) (nt (t + 1))) 30 3 (nt (nS tb t + 1)) c' j = I c' j
          rw [← hf c' j h1 h2]
          by_cases c30 : c' = 30
          · rw [c30, xup_j _ _ _ _ (by omega), xup_bj _ _ _ _ _ (by omega)]
          · rw [xup_bj _ _ _ _ _ c30, xup_bj _ _ _ _ _ h1]
      · rw [if_neg c4]
        have hN1 : Nm tb (t + 1) I1 := by unfold Nm nS; rw [eSL, if_neg c4]; exact hN
        simp (disch := omega) only [f_X8_gather_5, nt_clamp, nt_le, nt_lt, nt_eq, lit_le, lit_lt, le_lit, lt_lit, eq_lit, lit_eq, nt_neg, nt_ge, nt_add, nt_mul, nt_addl, lit_add, nt_mull, lit_mul, nt_sub, nt_subl, lit_sub, nt_divl, nt_m1, nt_m2, nt_m1', nt_m2']
        by_cases c5 : kd tb (st tb t) = 5
        · rw [if_pos c5]
          obtain ⟨hk1, hk2⟩ := k5 c5
          have hv : vv tb (t + 1) < 10000 := tvl_lt hW.1 hk2
          simp (disch := omega) only [f_X8_gather_6, nt_addl, valueOf_ok hC hk1 hk2, Option.bind_some, f_X8_gather_7, isInputs_ok (show vv tb (t + 1) < 100000 from by omega), f_X8_gather_8, bi_0]
          by_cases cv : 1 ≤ vv tb (t + 1) ∧ vv tb (t + 1) ≤ 4
          · rw [decide_eq_true cv, if_neg (by decide)]
            simp only [f_X8_gather_9, nt_addl, valueOf_ok hC hk1 hk2, Option.bind_some, f_X8_gather_10]
            refine fin _ _ ⟨?_, ?_⟩ ?_ ?_
            · rw [xup_j _ _ _ _ (by omega)]; exact hN1.1
            · intro s i hsi
              rw [xup_bj _ _ _ _ _ (by omega)]; exact hN1.2 s i hsi
            · rw [xup_at, ein, if_pos ⟨c5, cv⟩]; rfl
            · intro c' j h1 h2
              rw [← hf c' j h1 h2]
              by_cases c30 : c' = 30
              · rw [c30, xup_j _ _ _ _ (by omega)]
              · rw [xup_bj _ _ _ _ _ c30]
          · rw [decide_eq_false cv, if_pos rfl]
            exact fin _ _ hN1 (by rw [ein, if_neg (fun h => cv h.2)]; exact hin) hf
        · rw [if_neg c5]
          exact fin _ _ hN1 (by rw [ein, if_neg (fun h => c5 h.1)]; exact hin) hf
    · have e : t = N := by omega
      subst e
      simp (disch := omega) only [b_X8_gather_1, hC.2.1.1, nt_clamp, nt_le, nt_lt, nt_eq, lit_le, lit_lt, le_lit, lt_lit, eq_lit, lit_eq, nt_neg, nt_ge, nt_add, nt_mul, nt_addl, lit_add, nt_mull, lit_mul, nt_sub, nt_subl, lit_sub, nt_divl, nt_m1, nt_m2, nt_m1', nt_m2', if_pos, f_X8_gather_13, Option.map_some]
      exact ok_some ⟨rfl, hN, hin, hf⟩
  · show xup (xup I 30 3 0) 30 4 2 30 3 = nt 0
    rw [xup_j _ _ _ _ (by omega), xup_at]; rfl
  · intro c j h1 h2
    by_cases c30 : c = 30
    · rw [c30, xup_j _ _ _ _ (by omega), xup_j _ _ _ _ (by omega)]
    · rw [xup_bj _ _ _ _ _ c30, xup_bj _ _ _ _ _ c30]
/-- number and place of the first fault -/
def CF (w : Nat × Nat) (I : xI) : Prop := I 30 5 = nt w.1 ∧ w.1 ≤ 5 ∧ (w.1 = 0 → I 30 6 = -1) ∧ (¬ w.1 = 0 → I 30 6 = nt w.2)
theorem failIf_ok {l N k a : Nat} {tb : Nat → Nat} {w : Nat × Nat} {I : xI} {J : xJ} (h : Cc l tb N I) (hk : k < N) (hF : CF w I) (b : Bool) (ha : a ≤ 5) (ha0 : ¬ a = 0) : Ok (f_X8_failIf (bi b) (nt a) (nt k) I J) (fun o => o.2.2 = J ∧ CF (wup tb w (if b = true then a else 0, k)) o.2.1 ∧ ∀ c j, ¬ (c = 30 ∧ (j = 5 ∨ j = 6)) → o.2.1 c j = I c j) := by
  have h4 := h.2.2.2.1
  have hT := h.2.1.2 k hk
  have n10 : ¬ (1 : Int32) = 0 := by decide
  simp only [f_X8_failIf, f_X8_failIf_0, bi_0]
  cases b with
  | false =>
    rw [if_pos rfl]
    have e : wup tb w (if false = true then a else 0, k) = w := if_neg (fun h => h.2 rfl)
    rw [e]
    exact ok_some ⟨rfl, hF, fun _ _ _ => rfl⟩
  | true =>
    rw [if_neg (by decide), if_pos rfl]
    unfold f_X8_failIf_1
    by_cases c : w.1 = 0
    · have e5 : I 30 5 = 0 := by rw [hF.1, c]; rfl
      have e : wup tb w (a, k) = (a, st tb k) := if_pos ⟨c, ha0⟩
      rw [if_pos e5, e]
      simp (disch := omega) only [f_X8_failIf_2, isTok_ok h hk, Option.bind_some, f_X8_failIf_3, if_neg n10, f_X8_failIf_4, nt_clamp, nt_le, nt_lt, nt_eq, lit_le, lit_lt, le_lit, lt_lit, eq_lit, lit_eq, nt_neg, nt_ge, nt_add, nt_mul, nt_addl, lit_add, nt_mull, lit_mul, nt_sub, nt_subl, lit_sub, nt_divl, nt_m1, nt_m2, nt_m1', nt_m2', false_or, if_neg, f_X8_failIf_5, xup_bj, hT.2.1]
      refine ok_some ?_
      refine ⟨rfl, ⟨?_, ha, fun h => absurd h ha0, fun _ => (show xup (xup I 30 5 (nt a)) 30 6 (nt (st tb k)) 30 6 = nt (st tb k) from xup_at _ _ _ _)⟩, ?_⟩
      · show xup (xup I 30 5 (nt a)) 30 6 (nt (st tb k)) 30 5 = nt a
        rw [xup_j _ _ _ _ (by omega), xup_at]
      · intro c' j hc
        show xup (xup I 30 5 (nt a)) 30 6 (nt (st tb k)) c' j = _
        by_cases c30 : c' = 30
        · rw [c30, xup_j _ _ _ _ (by omega), xup_j _ _ _ _ (by omega)]
        · rw [xup_bj _ _ _ _ _ c30, xup_bj _ _ _ _ _ c30]
    · have e5 : ¬ I 30 5 = 0 := by
        have := hF.2.1
        rw [hF.1, show (0 : Int32) = nt 0 from rfl, nt_eq (by omega) (by omega)]; exact c
      have e : wup tb w (a, k) = w := if_neg (fun h => c h.1)
      rw [if_neg e5, e]
      exact ok_some ⟨rfl, hF, fun _ _ _ => rfl⟩
theorem failIf_c {l N k a c : Nat} {tb : Nat → Nat} {w : Nat × Nat} {I I0 : xI} {J : xJ} (h : Cc l tb N I) (hk : k < N) (hF : CF w I) (hf : ∀ c j, ¬ (c = 30 ∧ (j = 5 ∨ j = 6)) → I c j = I0 c j) (b : Bool) (ha : a ≤ 5) (ha0 : ¬ a = 0) (hc : c = if b = true then a else 0) : Ok (f_X8_failIf (bi b) (nt a) (nt k) I J) (fun o => o.2.2 = J ∧ CF (wup tb w (c, k)) o.2.1 ∧ ∀ c j, ¬ (c = 30 ∧ (j = 5 ∨ j = 6)) → o.2.1 c j = I0 c j) := by
  subst hc
  refine (failIf_ok h hk hF b ha ha0).imp ?_
  rintro o ⟨a1, a2, a3⟩
  exact ⟨a1, a2, fun c j hc => (a3 c j hc).trans (hf c j hc)⟩
theorem SL_pre {tb : Nat → Nat} {t : Nat} : ∀ N, t ≤ N → ∃ r, SLs tb N = SLs tb t ++ r := by
  intro N
  induction N with
  | zero => intro h; have : t = 0 := by omega
            subst this; exact ⟨[], (List.append_nil _).symm⟩
  | succ N ih =>
    intro h
    by_cases c : t = N + 1
    · rw [c]; exact ⟨[], (List.append_nil _).symm⟩
    · obtain ⟨r, hr⟩ := ih (by omega)
      rw [SL_s, hr]
      split
      · exact ⟨r ++ [N], by rw [List.append_assoc]⟩
      · exact ⟨r, rfl⟩
theorem SL_ord {tb : Nat → Nat} {t N : Nat} (ht : t < N) (hk : kk tb t = 4) : (SLs tb N)[nS tb t]? = some t ∧ nS tb t < nS tb N := by
  obtain ⟨r, hr⟩ := SL_pre (tb := tb) (t := t + 1) N (by omega)
  have e : SLs tb (t + 1) = SLs tb t ++ [t] := by rw [SL_s, if_pos (show kd tb (st tb t) = 4 from hk)]
  rw [e, List.append_assoc] at hr
  have h1 : (SLs tb N)[nS tb t]? = some t := by
    rw [hr]
    unfold nS
    rw [List.getElem?_append, if_neg (Nat.lt_irrefl _), Nat.sub_self]; rfl
  refine ⟨h1, ?_⟩
  unfold nS at h1 ⊢
  rcases Nat.lt_or_ge (SLs tb t).length (SLs tb N).length with c | c
  · exact c
  · rw [List.getElem?_eq_none c] at h1; cases h1
theorem SL_lt {tb : Nat → Nat} {t N s i : Nat} (ht : t ≤ N) (hs : s < nS tb t) (h : (SLs tb N)[s]? = some i) : i < t := by
  obtain ⟨r, hr⟩ := SL_pre (tb := tb) (t := t) N ht
  rw [hr, List.getElem?_append, if_pos (show s < (SLs tb t).length from hs)] at h
  exact (SL_mem h).1
/-- the first of that name, and whether it is the line's own -/
theorem fnd_own {l N t : Nat} {tb : Nat → Nat} (h : Wf l tb N) (ht : t < N) (hk : kk tb t = 4) : ∃ s i, fnd tb N (t + 1) = some s ∧ (SLs tb N)[s]? = some i ∧ s < nS tb N ∧ ex (nS tb t) (fun s => decide (nmv tb N s = nm tb (st tb (t + 1)))) = decide (¬ i = t) := by
  obtain ⟨h1, h2⟩ := SL_ord ht hk
  have own : nmv tb N (nS tb t) = nm tb (st tb (t + 1)) := by
    unfold nmv
    rw [List.getD_eq_getElem?_getD, h1]; rfl
  cases e : fnd tb N (t + 1) with
  | none =>
    have := ff_none.mp e _ h2
    rw [decide_eq_true own] at this; cases this
  | some s =>
    obtain ⟨g1, g2, g3⟩ := ff_some.mp e
    obtain ⟨i, ei, _⟩ := SL_at g1
    refine ⟨s, i, rfl, ei, g1, ?_⟩
    rcases Nat.lt_trichotomy s (nS tb t) with c | c | c
    · have hi := SL_lt (by omega) c ei
      rw [decide_eq_true (show ¬ i = t from by omega)]
      exact ex_iff.mpr ⟨s, c, g2⟩
    · subst c
      rw [h1] at ei
      cases ei
      rw [decide_eq_false (by omega)]
      exact ex_false.mpr g3
    · have := g3 _ c
      rw [decide_eq_true own] at this; cases this
