/-! the class checks all lines -/
theorem wup_stay (tb : Nat → Nat) (w : Nat × Nat) (hw : ¬ w.1 = 0) : ∀ cs : List (Nat × Nat), cs.foldl (wup tb) w = w := by
  intro cs
  induction cs with
  | nil => rfl
  | cons c cs ih =>
    have e : wup tb w c = w := if_neg (fun h => hw h.1)
    rw [List.foldl_cons, e]; exact ih
theorem Wt_stay {tb : Nat → Nat} {N t : Nat} (h : ¬ (Wt tb N t).1 = 0) : ∀ k, Wt tb N (t + k) = Wt tb N t := by
  intro k
  induction k with
  | zero => rfl
  | succ k ih =>
    rw [← Nat.add_assoc, Wt_s, ih]
    exact wup_stay tb _ h _
theorem wup_zero (tb : Nat → Nat) : ∀ (cs : List (Nat × Nat)) (w : Nat × Nat), (cs.foldl (wup tb) w).1 = 0 → w.1 = 0 ∧ ∀ c, c ∈ cs → c.1 = 0 := by
  intro cs
  induction cs with
  | nil => intro w h; exact ⟨h, fun c hc => absurd hc (List.not_mem_nil)⟩
  | cons c cs ih =>
    intro w h
    rw [List.foldl_cons] at h
    obtain ⟨h1, h2⟩ := ih _ h
    by_cases cw : w.1 = 0
    · by_cases cc : c.1 = 0
      · refine ⟨cw, fun d hd => ?_⟩
        rcases List.mem_cons.mp hd with rfl | hd
        · exact cc
        · exact h2 d hd
      · have e : wup tb w c = (c.1, st tb c.2) := if_pos ⟨cw, cc⟩
        rw [e] at h1
        exact absurd h1 cc
    · have e : wup tb w c = w := if_neg (fun h => cw h.1)
      rw [e] at h1
      exact absurd h1 cw
theorem Wt_zero {tb : Nat → Nat} {N : Nat} : ∀ M, (Wt tb N M).1 = 0 → ∀ t, t ≤ M → (Wt tb N t).1 = 0 ∧ (t < M → ∀ c, c ∈ chk tb N t → c.1 = 0) := by
  intro M
  induction M with
  | zero => intro h t ht; have : t = 0 := by omega
            subst this; exact ⟨h, fun h => absurd h (by omega)⟩
  | succ M ih =>
    intro h t ht
    rw [Wt_s] at h
    obtain ⟨h1, h2⟩ := wup_zero tb _ _ h
    by_cases c : t = M + 1
    · subst c; exact ⟨by rw [Wt_s]; exact h, fun h => absurd h (by omega)⟩
    · obtain ⟨g1, g2⟩ := ih h1 t (by omega)
      refine ⟨g1, fun _ => ?_⟩
      by_cases ct : t = M
      · subst ct; exact h2
      · exact g2 (by omega)
theorem chk_nil {tb : Nat → Nat} {N t : Nat} (h : ¬ kk tb t = 4 ∧ ¬ kk tb t = 5 ∧ ¬ kk tb t = 6 ∧ ¬ kk tb t = 7) : chk tb N t = [] := by
  unfold chk; rw [if_neg h.1, if_neg h.2.1, if_neg h.2.2.1, if_neg h.2.2.2]
theorem Wf_inner {l N t : Nat} {tb : Nat → Nat} (h : Wf l tb N) (ht : t < N) (hd : due tb t = false) : ∀ j, j < (shp (kk tb t)).length → ¬ kk tb (t + 1 + j) = 4 ∧ ¬ kk tb (t + 1 + j) = 5 ∧ ¬ kk tb (t + 1 + j) = 6 ∧ ¬ kk tb (t + 1 + j) = 7 := by
  intro j hj
  obtain ⟨_, _, _, h2⟩ := Wf_line h ht hd
  have hk9 : kk tb t < 9 := kd_lt _ _
  have h6 := (wsh_ok _ hk9).2.2.1
  have := fit_kd _ (shp_lt _ hk9 j (by omega)) _ (kd_lt _ _) (h2 j hj)
  have e : kd tb (st tb (t + 1 + j)) = kk tb (t + 1 + j) := rfl
  rw [e] at this
  omega
theorem Wt_in {l N t : Nat} {tb : Nat → Nat} (h : Wf l tb N) (ht : t < N) (hd : due tb t = false) : ∀ j, j ≤ (shp (kk tb t)).length → Wt tb N (t + 1 + j) = Wt tb N (t + 1) ∧ At tb N (t + 1 + j) = At tb N (t + 1) := by
  intro j
  induction j with
  | zero => intro _; exact ⟨rfl, rfl⟩
  | succ j ih =>
    intro hj
    obtain ⟨i1, i2⟩ := ih (by omega)
    have hi := Wf_inner h ht hd j (by omega)
    rw [← Nat.add_assoc, Wt_s, At_s, chk_nil hi, if_neg hi.2.2.1, if_neg hi.2.2.2]
    exact ⟨i1, i2⟩
def fno (l : Nat) (tb : Nat → Nat) : Nat := if sF l tb = 0 then (Wt tb (sK l tb) (sK l tb)).1 else sF l tb
def plc (l : Nat) (tb : Nat → Nat) : Int32 := if sF l tb = 0 then (if (Wt tb (sK l tb) (sK l tb)).1 = 0 then -1 else nt (Wt tb (sK l tb) (sK l tb)).2) else sP l tb
theorem checks_ok {l N : Nat} {tb : Nat → Nat} {I : xI} {J : xJ} (h : Cc l tb N I) (hN : Nm tb N I) (hin : I 30 4 = nt (inp tb N)) (hF : CF (0, 0) I) : Ok (f_X8_check_3 I J) (fun o => o.2.2 = J ∧ o.1 = nt (Wt tb N N).1 ∧ CF (Wt tb N N) o.2.1 ∧ ∀ c j, ¬ (c = 30 ∧ (j = 5 ∨ j = 6)) → o.2.1 c j = I c j) := by
  have hW := h.2.2
  have h4 := hW.2.1
  unfold f_X8_check_3 f_X8_check_4
  refine ok_while (fun s => ∃ t I', s = (nt t, I', J) ∧ t ≤ N ∧ due tb t = false ∧ CF (Wt tb N t) I' ∧ ∀ c j, ¬ (c = 30 ∧ (j = 5 ∨ j = 6)) → I' c j = I c j) (fun s => 1000 - s.1.toNatClampNeg) ?_ 5000 _ (by show 1000 - (0 : Int32).toNatClampNeg < 5000; omega) ⟨0, I, rfl, Nat.zero_le _, rfl, hF, fun _ _ _ => rfl⟩
  rintro s ⟨t, I1, rfl, ht, hd, hF1, hf⟩
  dsimp only
  rw [nt_clamp (show t < 2147483648 from by omega)]
  have hC : Cc l tb N I1 := Cc_fr h (fun c j hc => hf c j (by omega))
  have hN1 : Nm tb N I1 := ⟨(hf 30 3 (by omega)).trans hN.1, fun s i hs => (hf 31 s (by omega)).trans (hN.2 s i hs)⟩
  have hin1 : I1 30 4 = nt (inp tb N) := (hf 30 4 (by omega)).trans hin
  have h5 := hF1.2.1
  by_cases c : t < N
  · simp (disch := omega) only [b_X8_check_4, hC.2.1.1, nt_clamp, nt_le, nt_lt, nt_eq, lit_le, lit_lt, le_lit, lt_lit, eq_lit, lit_eq, nt_neg, nt_ge, nt_add, nt_mul, nt_addl, lit_add, nt_mull, lit_mul, nt_sub, nt_subl, lit_sub, nt_divl, nt_m1, nt_m2, nt_m1', nt_m2', if_neg, f_X8_check_5, hF1.1]
    by_cases c0 : (Wt tb N t).1 = 0
    · rw [if_pos c0]
      unfold f_X8_check_6
      apply ok_bind
      refine (checkLine_ok hC hN1 hin1 c hd hF1).imp ?_
      rintro ⟨_, I2, J2⟩ ⟨rfl, a1, a2⟩
      dsimp only at a1 a2 ⊢
      have f2 : ∀ c j, ¬ (c = 30 ∧ (j = 5 ∨ j = 6)) → I2 c j = I c j := fun c j hc => (a2 c j hc).trans (hf c j hc)
      have hC2 : Cc l tb N I2 := Cc_fr h (fun c j hc => f2 c j (by omega))
      obtain ⟨_, hle, hd2, _⟩ := Wf_line hW c hd
      simp only [f_X8_check_7, lengthOf_ok hC2 c, Option.bind_some, f_X8_check_8, nt_add]
      refine ok_some ⟨⟨t + 1 + (shp (kk tb t)).length, I2, by rw [← Nat.add_assoc], hle, hd2, ?_, f2⟩, ?_⟩
      · rw [(Wt_in hW c hd _ (Nat.le_refl _)).1]; exact a1
      · show 1000 - (nt (t + (1 + (shp (kk tb t)).length))).toNatClampNeg < 1000 - t
        rw [nt_clamp (by omega)]; omega
    · rw [if_neg c0]
      have e : Wt tb N N = Wt tb N t := by
        have := Wt_stay c0 (N - t)
        rwa [show t + (N - t) = N from by omega] at this
      unfold f_X8_check_9
      apply ok_map
      refine ok_some ⟨rfl, ?_, ?_, hf⟩
      · show I1 30 5 = _
        rw [e]; exact hF1.1
      · rw [e]; exact hF1
  · have e : t = N := by omega
    subst e
    simp (disch := omega) only [b_X8_check_4, hC.2.1.1, nt_clamp, nt_le, nt_lt, nt_eq, lit_le, lit_lt, le_lit, lt_lit, eq_lit, lit_eq, nt_neg, nt_ge, nt_add, nt_mul, nt_addl, lit_add, nt_mull, lit_mul, nt_sub, nt_subl, lit_sub, nt_divl, nt_m1, nt_m2, nt_m1', nt_m2', if_pos, f_X8_check_9]
    apply ok_map
    exact ok_some ⟨rfl, hF1.1, hF1, hf⟩
theorem check_ok {l : Nat} {tb : Nat → Nat} {I : xI} {J : xJ} (h : Tp l tb I) : Ok (f_X8_check I J) (fun o => o.2.2 = J ∧ o.1 = nt (fno l tb) ∧ o.2.1 30 6 = plc l tb ∧ (fno l tb = 0 → Cc l tb (sK l tb) o.2.1 ∧ Nm tb (sK l tb) o.2.1 ∧ o.2.1 30 4 = nt (inp tb (sK l tb))) ∧ ∀ c j, ¬ (26 ≤ c ∧ c ≤ 31) → o.2.1 c j = I c j) := by
  unfold f_X8_check f_X8_check_0
  apply ok_bind
  refine (scan_ok h).imp ?_
  rintro ⟨_, I1, J1⟩ ⟨rfl, a5, a6, aT, af⟩
  dsimp only at a5 a6 aT af ⊢
  have hle := sF_le l tb
  have f1 : ∀ c j, ¬ (26 ≤ c ∧ c ≤ 31) → I1 c j = I c j := fun c j hc => af c j (by unfold sReg; omega)
  have e5 : xup (xup I1 30 5 (I1 26 5)) 30 6 (xup I1 30 5 (I1 26 5) 26 6) 30 5 = nt (sF l tb) := by
    rw [xup_j _ _ _ _ (by omega), xup_at, a5]
  have e6 : xup (xup I1 30 5 (I1 26 5)) 30 6 (xup I1 30 5 (I1 26 5) 26 6) 30 6 = sP l tb := by
    rw [xup_at, xup_bj _ _ _ _ _ (by omega), a6]
  have f2 : ∀ c j, ¬ (c = 30 ∧ (j = 5 ∨ j = 6)) → xup (xup I1 30 5 (I1 26 5)) 30 6 (xup I1 30 5 (I1 26 5) 26 6) c j = I1 c j := by
    intro c j hc
    by_cases c30 : c = 30
    · rw [c30, xup_j _ _ _ _ (by omega), xup_j _ _ _ _ (by omega)]
    · rw [xup_bj _ _ _ _ _ c30, xup_bj _ _ _ _ _ c30]
  unfold f_X8_check_1
  generalize xup (xup I1 30 5 (I1 26 5)) 30 6 (xup I1 30 5 (I1 26 5) 26 6) = I2 at e5 e6 f2 ⊢
  rw [e5]
  by_cases c0 : sF l tb = 0
  · have hW := Wf_of h.1 c0
    have eP : sP l tb = -1 := by
      unfold sP
      rw [if_neg (by have := hW.2.2.2.2; omega), if_neg (by rw [hW.2.2.1]; decide)]
    rw [if_pos (by rw [c0]; rfl)]
    have hC : Cc l tb (sK l tb) I2 := ⟨Tp_fr h (fun c j hc => (f2 c j (by omega)).trans (f1 c j (by omega))), TK_fr (aT c0) (fun c j hc => f2 c j (by omega)), hW⟩
    unfold f_X8_check_2
    apply ok_bind
    refine (cgath_ok hC).imp ?_
    rintro ⟨_, I3, J3⟩ ⟨rfl, b1, b2, b3⟩
    dsimp only at b1 b2 b3 ⊢
    have hC3 : Cc l tb (sK l tb) I3 := Cc_fr hC (fun c j hc => b3 c j (by omega) (by omega))
    have hF3 : CF (0, 0) I3 := ⟨(b3 30 5 (by omega) (by omega)).trans (e5.trans (by rw [c0])), by decide, fun _ => (b3 30 6 (by omega) (by omega)).trans (e6.trans eP), fun h => absurd rfl h⟩
    refine (checks_ok hC3 b1 b2 hF3).imp ?_
    rintro ⟨v, I4, J4⟩ ⟨rfl, d1, d2, d3⟩
    dsimp only at d1 d2 d3 ⊢
    refine ⟨rfl, ?_, ?_, ?_, ?_⟩
    · unfold fno; rw [if_pos c0]; exact d1
    · unfold plc
      rw [if_pos c0]
      by_cases cw : (Wt tb (sK l tb) (sK l tb)).1 = 0
      · rw [if_pos cw]; exact d2.2.2.1 cw
      · rw [if_neg cw]; exact d2.2.2.2 cw
    · intro _
      exact ⟨Cc_fr hC3 (fun c j hc => d3 c j (by omega)), ⟨(d3 30 3 (by omega)).trans b1.1, fun s i hs => (d3 31 s (by omega)).trans (b1.2 s i hs)⟩, (d3 30 4 (by omega)).trans b2⟩
    · intro c j hc
      exact (d3 c j (by omega)).trans ((b3 c j (by omega) (by omega)).trans ((f2 c j (by omega)).trans (f1 c j hc)))
  · rw [if_neg (by rw [show (0 : Int32) = nt 0 from rfl, nt_eq (by omega) (by omega)]; exact c0)]
    refine ok_some ⟨rfl, ?_, ?_, ?_, ?_⟩
    · show I2 30 5 = _
      rw [e5]; unfold fno; rw [if_neg c0]
    · show I2 30 6 = _
      rw [e6]; unfold plc; rw [if_neg c0]
    · unfold fno; rw [if_neg c0]; exact fun h => absurd h c0
    · intro c j hc
      exact (f2 c j (by omega)).trans (f1 c j hc)
