/-! the lines of the reference, all -/
theorem line24_gb {l t K ns : Nat} {tb : Nat → Nat} {I I1 : xI} {J : xJ} (hK : K = 6 ∨ K = 7) (hk : kd tb (st tb t) = K) (ha : aq tb (t + 1) = (K, 0, ns)) (h : GB l tb (t + 1) I1 J) (hf : ∀ c j, ¬ ltReg c j → I1 c j = I c j) : Ok (f_X12_line_24 (nt (rk K)) I1 J) (fun o => o.2.2 = J ∧ GB l tb (t + 1 + (shp K).length) o.2.1 J ∧ ∀ c j, ¬ ltReg c j → o.2.1 c j = I c j) := by
  have a0 := aq_line ha 0 (Nat.zero_le _)
  unfold f_X12_line_24
  apply ok_bind
  have hm1 : Ok (f_X12_must 1 I1 J) (fun o => o.2.2 = J ∧ GB l tb (t + 1 + 1) o.2.1 J ∧ ∀ c j, ¬ ltReg c j → o.2.1 c j = I1 c j) := by
    refine must_gb (x := 1) h a0 ?_ (by omega) (by omega) ?_
    · rcases hK with rfl | rfl <;> decide
    · rcases hK with rfl | rfl <;> decide
  refine hm1.imp ?_
  rintro ⟨_, I2, J2⟩ ⟨rfl, g2, f2⟩
  dsimp only at g2 f2 ⊢
  have a1 := aq_line ha 1 (by rcases hK with rfl | rfl <;> decide)
  unfold f_X12_line_25
  apply ok_bind
  have hm2 : Ok (f_X12_must 2 I2 J2) (fun o => o.2.2 = J2 ∧ GB l tb (t + 1 + 1 + 1) o.2.1 J2 ∧ ∀ c j, ¬ ltReg c j → o.2.1 c j = I2 c j) := by
    refine must_gb (x := 2) g2 a1 ?_ (by omega) (by omega) ?_
    · rcases hK with rfl | rfl <;> decide
    · rcases hK with rfl | rfl <;> decide
  refine hm2.imp ?_
  rintro ⟨_, I3, J3⟩ ⟨rfl, g3, f3⟩
  dsimp only at g3 f3 ⊢
  have a2 := aq_line ha 2 (by rcases hK with rfl | rfl <;> decide)
  rcases hK with rfl | rfl
  · have e22 : nt (rk 6) = 22 := rfl
    simp only [f_X12_line_26, e22, if_true, f_X12_line_27]
    apply ok_bind
    have hm3 : Ok (f_X12_either 1 23 I3 J3) (fun o => o.2.2 = J3 ∧ GB l tb (t + 1 + 2 + 1) o.2.1 J3 ∧ ∀ c j, ¬ ltReg c j → o.2.1 c j = I3 c j) := either_gb (x := 1) (y := 23) g3 a2 (by decide) (by omega) (by omega) (by omega) (by omega) (by decide)
    refine hm3.imp ?_
    rintro ⟨_, I4, J4⟩ ⟨rfl, g4, f4⟩
    dsimp only at g4 f4 ⊢
    have a3 := aq_line ha 3 (by decide)
    simp only [f_X12_line_28, if_true, f_X12_line_29]
    apply ok_bind
    have hm4 : Ok (f_X12_either 2 23 I4 J4) (fun o => o.2.2 = J4 ∧ GB l tb (t + 1 + 3 + 1) o.2.1 J4 ∧ ∀ c j, ¬ ltReg c j → o.2.1 c j = I4 c j) := either_gb (x := 2) (y := 23) g4 a3 (by decide) (by omega) (by omega) (by omega) (by omega) (by decide)
    refine hm4.imp ?_
    rintro ⟨_, I5, J5⟩ ⟨rfl, g5, f5⟩
    dsimp only at g5 f5 ⊢
    have a4 := aq_line ha 4 (by decide)
    refine (line30_gb g5 (by omega) (by decide) a4 22).imp ?_
    rintro ⟨_, I6, J6⟩ ⟨rfl, g6, f6⟩
    exact ⟨rfl, g6, fun c j hc => (f6 c j hc).trans ((f5 c j hc).trans ((f4 c j hc).trans ((f3 c j hc).trans ((f2 c j hc).trans (hf c j hc)))))⟩
  · have e24 : nt (rk 7) = 24 := rfl
    have n24 : ¬ (24 : Int32) = 22 := by decide
    simp only [f_X12_line_26, e24, if_neg n24, f_X12_line_28]
    refine (line30_gb g3 (by omega) (by decide) a2 24).imp ?_
    rintro ⟨_, I6, J6⟩ ⟨rfl, g6, f6⟩
    exact ⟨rfl, g6, fun c j hc => (f6 c j hc).trans ((f3 c j hc).trans ((f2 c j hc).trans (hf c j hc)))⟩
theorem must14_gb {l t K ns x : Nat} {tb : Nat → Nat} {I : xI} {J : xJ} (hK : K = 4 ∨ K = 5) (ha : aq tb (t + 1) = (K, 0, ns)) (h : GB l tb (t + 1) I J) (hx : (K = 4 ∧ x = 1) ∨ (K = 5 ∧ x = 2)) (x1 : Int32) : Ok ((f_X12_must (nt x) I J).bind fun o => f_X12_line_30 x1 o.2.1 o.2.2) (fun o => o.2.2 = J ∧ GB l tb (t + 1 + (shp K).length) o.2.1 J ∧ ∀ c j, ¬ ltReg c j → o.2.1 c j = I c j) := by
  have a0 := aq_line ha 0 (Nat.zero_le _)
  apply ok_bind
  have hm1 : Ok (f_X12_must (nt x) I J) (fun o => o.2.2 = J ∧ GB l tb (t + 1 + 1) o.2.1 J ∧ ∀ c j, ¬ ltReg c j → o.2.1 c j = I c j) := by
    refine must_gb (x := x) h a0 ?_ (by omega) (by omega) ?_
    · rcases hK with rfl | rfl <;> decide
    · rcases hx with ⟨rfl, rfl⟩ | ⟨rfl, rfl⟩ <;> decide
  refine hm1.imp ?_
  rintro ⟨_, I2, J2⟩ ⟨rfl, g2, f2⟩
  dsimp only at g2 f2 ⊢
  have a1 := aq_line ha 1 (by rcases hK with rfl | rfl <;> decide)
  have a1' : aq tb (t + 1 + 1) = (K, (shp K).length - 1, ns) := by
    rw [a1]
    rcases hK with rfl | rfl <;> rfl
  refine (line30_gb g2 (by omega) (by rcases hK with rfl | rfl <;> decide) a1' x1).imp ?_
  rintro ⟨_, I3, J3⟩ ⟨rfl, g3, f3⟩
  refine ⟨rfl, ?_, fun c j hc => (f3 c j hc).trans (f2 c j hc)⟩
  rcases hK with rfl | rfl <;> exact g3
theorem must_bad {l : Nat} {tb : Nat → Nat} {I : xI} {J : xJ} (h : Bad l tb I) (x : Int32) : f_X12_must x I J = some ((), I, J) := by
  simp only [f_X12_must, f_X12_must_0, is_bad h, Option.bind_some, f_X12_must_1, if_true, f_X12_must_4, rfail_bad h, f_X12_must_5]
theorem either_bad {l : Nat} {tb : Nat → Nat} {I : xI} {J : xJ} (h : Bad l tb I) (x y : Int32) : f_X12_either x y I J = some ((), I, J) := by
  simp only [f_X12_either, f_X12_either_0, is_bad h, Option.bind_some, f_X12_either_1, f_X12_either_2, f_X12_either_3, if_true, f_X12_either_6, rfail_bad h, f_X12_either_7]
theorem line10_bad {l : Nat} {tb : Nat → Nat} {I : xI} {J : xJ} (h : Bad l tb I) (x : Int32) : f_X12_line_10 x I J = some ((), I, J) := by
  have e30 : f_X12_line_30 x I J = some ((), I, J) := by
    simp only [f_X12_line_30, must_bad h, Option.bind_some, f_X12_line_31]
  have e24 : f_X12_line_24 x I J = some ((), I, J) := by
    simp only [f_X12_line_24, f_X12_line_25, f_X12_line_26, f_X12_line_27, f_X12_line_28, f_X12_line_29, must_bad h, either_bad h, Option.bind_some, e30, ite_self]
  simp only [f_X12_line_10, f_X12_line_11, f_X12_line_12, f_X12_line_14, f_X12_line_15, f_X12_line_16, f_X12_line_17, f_X12_line_18, f_X12_line_22, f_X12_line_23, is_bad h, must_bad h, Option.bind_some, if_true, e30, e24, ite_self]
theorem fin_ln {l t K ns : Nat} {tb : Nat → Nat} {I I1 : xI} {J J1 : xJ} (hK : K < 9) (hk : kd tb (st tb t) = K) (ha : aq tb (t + 1) = (K, 0, ns)) (hns : ns = (SLs tb (t + 1)).length) {I2 : xI} {J2 : xJ} (h : Good l tb (t + 1 + (shp K).length) I2 J1 → I1 61 19 = nt (SLs tb (t + 1)).length ∧ (∀ j i, (SLs tb (t + 1))[j]? = some i → J1 69 j = jl (nm tb (st tb (i + 1)))) ∧ I1 61 20 = nt (inp tb (t + 1))) (hf : ∀ c j, ¬ lnReg c j → I1 c j = I c j) (hj : ∀ c j, ¬ c = 69 → J1 c j = J c j) (ej : J2 = J1) (g : GB l tb (t + 1 + (shp K).length) I2 J1) (f : ∀ c j, ¬ ltReg c j → I2 c j = I1 c j) : Ln l tb t I J ((), I2, J2) := by
  subst ej
  refine Ln_of hK hk ha hns g (fun hG => ?_) (fun c j hc => (f c j (lt_ln hc)).trans (hf c j hc)) hj
  rw [f 61 19 (by unfold ltReg; omega), f 61 20 (by unfold ltReg; omega)]
  exact h hG
theorem rk_e : ∀ k, k < 9 → (nt (rk k) = 20 ↔ k = 4) ∧ (nt (rk k) < 20 ↔ ¬ k = 4 ∧ ¬ k = 5 ∧ ¬ k = 6 ∧ ¬ k = 7 ∧ ¬ k = 8) ∧ ¬ 24 < nt (rk k) ∧ (nt (rk k) = 23 ↔ k = 8) ∧ (nt (rk k) = 21 ↔ k = 5) ∧ (nt (rk k) = 1 ↔ k = 1) ∧ (nt (rk k) = 2 ↔ k = 2) := by decide
theorem line_ok {l t : Nat} {tb : Nat → Nat} {I : xI} {J : xJ} (T : Tb l tb) (h : Lg l tb t I J) (hs : st tb t < l) : Ok (f_X12_line I J) (Ln l tb t I J) := by
  obtain ⟨hG, hd, hns, h19, h69, h20⟩ := h
  obtain ⟨h4, h11, h12, hst, hA⟩ := hG
  have hG : Good l tb t I J := ⟨h4, h11, h12, hst, hA⟩
  have hAt := hA t h4 (fun j hj => (hst j hj).1)
  have e64 := (hAt.1 hs).1
  have hkd := kd_lt tb (st tb t)
  have hns6 := ns6 t (fun j hj => (hst j hj).2)
  obtain ⟨r20, rlt, rgt, r23, r21, _, _⟩ := rk_e _ hkd
  have ndue : ¬ (aq tb t).2.1 < (shp (aq tb t).1).length := of_decide_eq_false hd
  have enf : nf (aq tb t) (kd tb (st tb t)) = if (shp (kd tb (st tb t))).length = 0 then 1 else if kd tb (st tb t) = 4 ∧ 6 ≤ (aq tb t).2.2 then 2 else 0 := if_neg ndue
  have ha := aq_beg hd
  have bad : ∀ a, st tb t < l ∧ flt tb t = a ∧ ¬ a = 0 → ∀ x1, (a = 1 → Ok (f_X12_line_7 x1 I J) (Ln l tb t I J)) ∧ (a = 2 → Ok (f_X12_line_2 x1 I J) (Ln l tb t I J)) := by
    intro a hx x1
    obtain ⟨I', e, hb, hf⟩ := fail_bad hG (Or.inl hx)
    have hL : Ln l tb t I J ((), I', J) := ⟨Or.inr hb, fun c j hc => hf c j (lt_ln hc), fun _ _ _ => rfl⟩
    refine ⟨fun h1 => ?_, fun h2 => ?_⟩
    · have e' : f_X12_fail 1 I J = some ((), I', J) := by rw [h1] at e; exact e
      simp only [f_X12_line_7, e', Option.bind_some, f_X12_line_8]
      exact ok_some hL
    · have e' : f_X12_fail 2 I J = some ((), I', J) := by rw [h2] at e; exact e
      simp only [f_X12_line_2, e', Option.bind_some, f_X12_line_3]
      exact ok_some hL
  have flt_of : ∀ a, ¬ a = 0 → nf (aq tb t) (kd tb (st tb t)) = a → flt tb t = a := by
    intro a ha h1
    unfold flt; rw [h1, if_neg ha]
  have main : nf (aq tb t) (kd tb (st tb t)) = 0 → ¬ (shp (kd tb (st tb t))).length = 0 → Ok (f_X12_line_9 (nt (rk (kd tb (st tb t)))) I J) (Ln l tb t I J) := by
    intro hn0 hsh
    unfold f_X12_line_9
    apply ok_bind
    refine (pass_ok hG hs hn0).imp ?_
    rintro ⟨_, I1, J1⟩ ⟨rfl, g1, f1⟩
    dsimp only at g1 f1 ⊢
    have hsk : kd tb (st tb t) = 4 ∨ kd tb (st tb t) = 5 ∨ kd tb (st tb t) = 6 ∨ kd tb (st tb t) = 7 := by
      have h2 : ∀ k, k < 9 → ¬ (shp k).length = 0 → k = 4 ∨ k = 5 ∨ k = 6 ∨ k = 7 := by decide
      exact h2 _ hkd hsh
    have eSL := SL_s tb t
    have eln : (aq tb t).2.2 + (if kd tb (st tb t) = 4 then 1 else 0) = (SLs tb (t + 1)).length := by
      rw [eSL, hns]
      by_cases c : kd tb (st tb t) = 4
      · rw [if_pos c, if_pos c, List.length_append]; rfl
      · rw [if_neg c, if_neg c]; rfl
    rw [eln] at ha
    rcases g1 with hG1 | hB1
    · have g1 : GB l tb (t + 1) I1 J1 := Or.inl hG1
      have h14 := hG1.1
      have h19' : I1 61 19 = nt (SLs tb t).length := (f1 61 19 (by unfold ltReg; omega)).trans h19
      have h20' : I1 61 20 = nt (inp tb t) := (f1 61 20 (by unfold ltReg; omega)).trans h20
      have hA1 := hG1.2.2.2.2 (t + 1) hG1.1 (fun j hj => (hG1.2.2.2.1 j hj).1)
      have hkd1 := kd_lt tb (st tb (t + 1))
      obtain ⟨_, _, _, _, _, q1, q2⟩ := rk_e _ hkd1
      have hfr1 : ∀ c j, ¬ lnReg c j → I1 c j = I c j := fun c j hc => f1 c j (lt_ln hc)
      unfold f_X12_line_10
      by_cases c4 : kd tb (st tb t) = 4
      · rw [if_pos (r20.mpr c4)]
        rw [c4] at ha
        rw [if_pos c4] at eSL
        have e5 : inp tb (t + 1) = inp tb t := by rw [inp_s, if_neg (by omega)]
        unfold f_X12_line_11
        rw [is_ok hG1.2.1 (by omega) hG1.2.2.1, Option.bind_some]
        unfold f_X12_line_12
        dsimp only
        by_cases cN : st tb (t + 1) < l ∧ kd tb (st tb (t + 1)) = 1
        · obtain ⟨hs1, hk1⟩ := cN
          have hA2 := hA1.1 hs1
          have e1 : I1 64 (t + 1) = 1 := by rw [hA2.1, hk1]; rfl
          have e67 := hA2.2.2.2 hk1
          have hlen : (SLs tb t).length < 6 := by
            have := ns6 (t + 1) (fun j hj => (hG1.2.2.2.1 j hj).2)
            rw [ha] at this
            have h3 : (SLs tb (t + 1)).length ≤ 6 := this
            rw [eSL, List.length_append] at h3
            have : [t].length = 1 := rfl
            omega
          rw [decide_eq_true e1, if_neg (show ¬ bi true = 0 from by decide)]
          simp (disch := omega) only [f_X12_line_13, hG1.2.1, h19', nt_clamp, nt_le, nt_lt, nt_eq, lit_le, lit_lt, le_lit, lt_lit, eq_lit, lit_eq, nt_neg, nt_ge, nt_add, nt_mul, nt_addl, lit_add, nt_mull, lit_mul, nt_sub, nt_subl, lit_sub, nt_divl, nt_m1, nt_m2, nt_m1', nt_m2', false_or, if_neg, e67, f_X12_line_14, f_X12_line_15]
          have g2 : GB l tb (t + 1) (xup I1 61 19 (nt ((SLs tb t).length + 1))) (xup J1 69 (SLs tb t).length (jl (nm tb (st tb (t + 1))))) := by
            refine GB_fr g1 (fun c j hc => ?_) (fun j => xup_bj _ _ _ _ _ (by omega))
            by_cases c61 : c = 61
            · rw [c61, xup_j _ _ _ _ (by omega)]
            · exact xup_bj _ _ _ _ _ c61
          refine (must14_gb (Or.inl rfl) ha g2 (Or.inl ⟨rfl, rfl⟩) _).imp ?_
          rintro ⟨_, I3, J3⟩ ⟨ej, g3, f3⟩
          refine fin_ln (by omega) c4 ha rfl (fun _ => ⟨?_, ?_, ?_⟩) ?_ ?_ ej g3 f3
          · rw [xup_at, eSL, List.length_append]; rfl
          · intro j i hji
            rw [eSL, List.getElem?_append] at hji
            by_cases cj : j < (SLs tb t).length
            · rw [if_pos cj] at hji
              rw [xup_j _ _ _ _ (by omega)]; exact h69 j i hji
            · rw [if_neg cj] at hji
              have hj0 : j - (SLs tb t).length = 0 := by
                rcases Nat.eq_zero_or_pos (j - (SLs tb t).length) with h | h
                · exact h
                · rw [List.getElem?_eq_none (by show 1 ≤ _; omega)] at hji; cases hji
              rw [hj0] at hji
              have hit : i = t := by
                have : some t = some i := hji
                cases this; rfl
              rw [hit, show j = (SLs tb t).length from by omega, xup_at]
          · rw [xup_j _ _ _ _ (by omega), e5]; exact h20'
          · intro c j hc
            rw [← hfr1 c j hc]
            unfold lnReg at hc
            by_cases c61 : c = 61
            · rw [c61, xup_j _ _ _ _ (by omega)]
            · exact xup_bj _ _ _ _ _ c61
          · intro c j hc
            exact xup_bj _ _ _ _ _ hc
        · have e1 : ¬ I1 64 (t + 1) = 1 := by
            by_cases hs1 : st tb (t + 1) < l
            · rw [(hA1.1 hs1).1]; exact fun h => cN ⟨hs1, q1.mp h⟩
            · rw [(hA1.2 (by omega)).1]; decide
          rw [decide_eq_false e1, if_pos (show bi false = 0 from rfl)]
          simp only [f_X12_line_14, f_X12_line_15]
          refine (must14_gb (Or.inl rfl) ha g1 (Or.inl ⟨rfl, rfl⟩) _).imp ?_
          rintro ⟨_, I3, J3⟩ ⟨ej, g3, f3⟩
          refine fin_ln (by omega) c4 ha rfl (fun hG3 => ?_) hfr1 (fun _ _ _ => rfl) ej g3 f3
          exfalso
          have hf1 := hG3.2.2.2.1 (t + 1) (by have : (shp 4).length = 2 := rfl; omega)
          have hfit := in_line ha (by omega) (j := 0) (by decide) hf1.2
          have h2 : ∀ k, k < 9 → fitb ((shp 4).getD 0 0) k = true → k = 1 := by decide
          exact cN ⟨hf1.1, h2 _ hkd1 hfit⟩
      · rw [if_neg (fun h => c4 (r20.mp h))]
        rw [if_neg c4] at eSL
        unfold f_X12_line_16
        by_cases c5 : kd tb (st tb t) = 5
        · rw [if_pos (r21.mpr c5)]
          rw [c5] at ha
          unfold f_X12_line_17
          rw [is_ok hG1.2.1 (by omega) hG1.2.2.1, Option.bind_some]
          unfold f_X12_line_18
          dsimp only
          by_cases cI : st tb (t + 1) < l ∧ kd tb (st tb (t + 1)) = 2
          · obtain ⟨hs1, hk1⟩ := cI
            have hA2 := hA1.1 hs1
            have e1 : I1 64 (t + 1) = 2 := by rw [hA2.1, hk1]; rfl
            have e66 := hA2.2.2.1 hk1
            have hv := tvl_lt T hk1
            rw [decide_eq_true e1, if_neg (show ¬ bi true = 0 from by decide)]
            simp (disch := omega) only [f_X12_line_19, hG1.2.1, nt_clamp, nt_le, nt_lt, nt_eq, lit_le, lit_lt, le_lit, lt_lit, eq_lit, lit_eq, nt_neg, nt_ge, nt_add, nt_mul, nt_addl, lit_add, nt_mull, lit_mul, nt_sub, nt_subl, lit_sub, nt_divl, nt_m1, nt_m2, nt_m1', nt_m2', false_or, if_neg, e66, rin14 (show tvl tb (st tb (t + 1)) < 100000 from by omega), Option.bind_some, f_X12_line_20, bi_0]
            by_cases cv : 1 ≤ tvl tb (st tb (t + 1)) ∧ tvl tb (st tb (t + 1)) ≤ 4
            · rw [decide_eq_true cv, if_neg (show ¬ true = false from by decide)]
              have ein : inp tb (t + 1) = tvl tb (st tb (t + 1)) := by rw [inp_s, if_pos ⟨c5, cv⟩]
              simp (disch := omega) only [f_X12_line_21, hG1.2.1, nt_clamp, nt_le, nt_lt, nt_eq, lit_le, lit_lt, le_lit, lt_lit, eq_lit, lit_eq, nt_neg, nt_ge, nt_add, nt_mul, nt_addl, lit_add, nt_mull, lit_mul, nt_sub, nt_subl, lit_sub, nt_divl, nt_m1, nt_m2, nt_m1', nt_m2', false_or, if_neg, e66, f_X12_line_22, f_X12_line_23]
              have g2 : GB l tb (t + 1) (xup I1 61 20 (nt (tvl tb (st tb (t + 1))))) J1 := by
                refine GB_fr g1 (fun c j hc => ?_) (fun j => rfl)
                by_cases c61 : c = 61
                · rw [c61, xup_j _ _ _ _ (by omega)]
                · exact xup_bj _ _ _ _ _ c61
              refine (must14_gb (Or.inr rfl) ha g2 (Or.inr ⟨rfl, rfl⟩) _).imp ?_
              rintro ⟨_, I3, J3⟩ ⟨ej, g3, f3⟩
              refine fin_ln (by omega) c5 ha rfl (fun _ => ⟨?_, ?_, ?_⟩) ?_ (fun _ _ _ => rfl) ej g3 f3
              · rw [xup_j _ _ _ _ (by omega), eSL]; exact h19'
              · rw [eSL]; exact h69
              · rw [xup_at, ein]
              · intro c j hc
                rw [← hfr1 c j hc]
                unfold lnReg at hc
                by_cases c61 : c = 61
                · rw [c61, xup_j _ _ _ _ (by omega)]
                · exact xup_bj _ _ _ _ _ c61
            · rw [decide_eq_false cv, if_pos rfl]
              have ein : inp tb (t + 1) = inp tb t := by rw [inp_s, if_neg (fun h => cv h.2)]
              simp only [f_X12_line_22, f_X12_line_23]
              refine (must14_gb (Or.inr rfl) ha g1 (Or.inr ⟨rfl, rfl⟩) _).imp ?_
              rintro ⟨_, I3, J3⟩ ⟨ej, g3, f3⟩
              refine fin_ln (by omega) c5 ha rfl (fun _ => ⟨?_, ?_, ?_⟩) hfr1 (fun _ _ _ => rfl) ej g3 f3
              · rw [eSL]; exact h19'
              · rw [eSL]; exact h69
              · rw [ein]; exact h20'
          · have e1 : ¬ I1 64 (t + 1) = 2 := by
              by_cases hs1 : st tb (t + 1) < l
              · rw [(hA1.1 hs1).1]; exact fun h => cI ⟨hs1, q2.mp h⟩
              · rw [(hA1.2 (by omega)).1]; decide
            rw [decide_eq_false e1, if_pos (show bi false = 0 from rfl)]
            simp only [f_X12_line_22, f_X12_line_23]
            refine (must14_gb (Or.inr rfl) ha g1 (Or.inr ⟨rfl, rfl⟩) _).imp ?_
            rintro ⟨_, I3, J3⟩ ⟨ej, g3, f3⟩
            refine fin_ln (by omega) c5 ha rfl (fun hG3 => ?_) hfr1 (fun _ _ _ => rfl) ej g3 f3
            exfalso
            have hf1 := hG3.2.2.2.1 (t + 1) (by have : (shp 5).length = 2 := rfl; omega)
            have hfit := in_line ha (by omega) (j := 0) (by decide) hf1.2
            have h2 : ∀ k, k < 9 → fitb ((shp 5).getD 0 0) k = true → k = 2 := by decide
            exact cI ⟨hf1.1, h2 _ hkd1 hfit⟩
        · rw [if_neg (fun h => c5 (r21.mp h))]
          have ein : inp tb (t + 1) = inp tb t := by rw [inp_s, if_neg (fun h => c5 h.1)]
          refine (line24_gb (I := I1) (by omega) rfl ha g1 (fun _ _ _ => rfl)).imp ?_
          rintro ⟨_, I3, J3⟩ ⟨ej, g3, f3⟩
          refine fin_ln (by omega) rfl ha rfl (fun _ => ⟨?_, ?_, ?_⟩) hfr1 (fun _ _ _ => rfl) ej g3 f3
          · rw [eSL]; exact h19'
          · rw [eSL]; exact h69
          · rw [ein]; exact h20'
    · rw [line10_bad hB1]
      exact ok_some ⟨Or.inr hB1, fun c j hc => f1 c j (lt_ln hc), fun _ _ _ => rfl⟩
  have l4 : ¬ (kd tb (st tb t) = 4 ∧ 6 ≤ (aq tb t).2.2) → Ok (f_X12_line_4 (nt (rk (kd tb (st tb t)))) I J) (Ln l tb t I J) := by
    intro hx
    simp only [f_X12_line_4, f_X12_line_5, f_X12_line_6, if_neg rgt]
    by_cases csh : (shp (kd tb (st tb t))).length = 0
    · have hb := (bad 1 ⟨hs, flt_of 1 (by omega) (by rw [enf, if_pos csh]), by omega⟩ (nt (rk (kd tb (st tb t))))).1 rfl
      split
      · exact hb
      · split
        · exact hb
        · rename_i h1 h2
          exfalso
          have h3 : kd tb (st tb t) = 4 ∨ kd tb (st tb t) = 5 ∨ kd tb (st tb t) = 6 ∨ kd tb (st tb t) = 7 := by
            have h4 : ¬ kd tb (st tb t) = 8 := fun h => h2 (r23.mpr h)
            have h5 : ¬ (¬ kd tb (st tb t) = 4 ∧ ¬ kd tb (st tb t) = 5 ∧ ¬ kd tb (st tb t) = 6 ∧ ¬ kd tb (st tb t) = 7 ∧ ¬ kd tb (st tb t) = 8) := fun h => h1 (rlt.mpr h)
            omega
          rcases h3 with h | h | h | h <;> rw [h] at csh <;> exact absurd csh (by decide)
    · have hsk : kd tb (st tb t) = 4 ∨ kd tb (st tb t) = 5 ∨ kd tb (st tb t) = 6 ∨ kd tb (st tb t) = 7 := by
        have h2 : ∀ k, k < 9 → ¬ (shp k).length = 0 → k = 4 ∨ k = 5 ∨ k = 6 ∨ k = 7 := by decide
        exact h2 _ hkd csh
      rw [if_neg (fun h => by have := rlt.mp h; omega), if_neg (fun h => by have := r23.mp h; omega)]
      exact main (by rw [enf, if_neg csh, if_neg hx]) csh
  unfold f_X12_line f_X12_line_0
  simp (disch := omega) only [h11, nt_clamp, nt_le, nt_lt, nt_eq, lit_le, lit_lt, le_lit, lt_lit, eq_lit, lit_eq, nt_neg, nt_ge, nt_add, nt_mul, nt_addl, lit_add, nt_mull, lit_mul, nt_sub, nt_subl, lit_sub, nt_divl, nt_m1, nt_m2, nt_m1', nt_m2', false_or, if_neg, e64]
  by_cases c4 : kd tb (st tb t) = 4
  · rw [if_pos (r20.mpr c4)]
    unfold f_X12_line_1
    rw [h19, ← hns]
    by_cases c6 : (aq tb t).2.2 = 6
    · rw [if_pos (by rw [c6]; rfl)]
      refine (bad 2 ⟨hs, flt_of 2 (by omega) ?_, by omega⟩ _).2 rfl
      rw [enf, if_neg (by rw [c4]; decide), if_pos ⟨c4, by omega⟩]
    · rw [if_neg (by rw [eq_lit (by omega) (by omega)]; exact c6)]
      exact l4 (fun h => by omega)
  · rw [if_neg (fun h => c4 (r20.mp h))]
    exact l4 (fun h => c4 h.1)
