/-! the reference's lines -/
theorem sK_eq {l t : Nat} {tb : Nat → Nat} (ht : t ≤ 400) (h1 : ∀ j, j < t → st tb j < l ∧ flt tb j = 0) (h2 : l ≤ st tb t ∨ ¬ flt tb t = 0) : sK l tb = t := by
  obtain ⟨k4, kx, kb⟩ := sK_ok l tb
  rcases Nat.lt_trichotomy (sK l tb) t with c | c | c
  · have := h1 _ c
    rcases kx with k | k
    · omega
    · exact absurd this.2 k
  · exact c
  · have := kb t c
    rcases h2 with k | k
    · omega
    · exact absurd this.2 k
def TA (l : Nat) (tb : Nat → Nat) (I : xI) (J : xJ) : Prop := ∀ t, t ≤ 400 → (∀ j, j < t → st tb j < l) → (st tb t < l → I 64 t = nt (rk (kd tb (st tb t))) ∧ I 65 t = nt (st tb t) ∧ (kd tb (st tb t) = 2 → I 66 t = nt (tvl tb (st tb t))) ∧ (kd tb (st tb t) = 1 → J 67 t = jl (nm tb (st tb t)))) ∧ (l ≤ st tb t → I 64 t = 0 ∧ I 65 t = nt l)
theorem TA_of {l k : Nat} {tb : Nat → Nat} {I : xI} {J : xJ} (h : TRe l tb k I J) : TA l tb I J := by
  intro t ht hst
  obtain ⟨h1, h2⟩ := h
  rcases h2 with ⟨rfl, hT⟩ | ⟨hk, hl, _, h64, h65, hT⟩
  · refine ⟨fun _ => hT.2 t (by omega), fun hl => ?_⟩
    have := h1 t (by omega); omega
  · rcases Nat.lt_trichotomy t k with c | c | c
    · refine ⟨fun _ => hT t c, fun hl => ?_⟩
      have := h1 t c; omega
    · subst c
      exact ⟨fun h => by omega, fun _ => ⟨h64, h65⟩⟩
    · have := hst k c; omega
theorem TA_fr {l : Nat} {tb : Nat → Nat} {I I' : xI} {J J' : xJ} (h : TA l tb I J) (hf : ∀ c j, (64 ≤ c ∧ c ≤ 66) → I' c j = I c j) (hj : ∀ j, J' 67 j = J 67 j) : TA l tb I' J' := by
  intro t ht hst
  rw [hf 64 t (by omega), hf 65 t (by omega), hf 66 t (by omega), hj t]
  exact h t ht hst
def Good (l : Nat) (tb : Nat → Nat) (t : Nat) (I : xI) (J : xJ) : Prop := t ≤ 400 ∧ I 61 11 = nt t ∧ I 61 12 = 0 ∧ (∀ j, j < t → st tb j < l ∧ flt tb j = 0) ∧ TA l tb I J
def Bad (l : Nat) (tb : Nat → Nat) (I : xI) : Prop := I 61 12 = nt (sF l tb) ∧ ¬ sF l tb = 0 ∧ I 61 13 = sP l tb
theorem sF_le (l : Nat) (tb : Nat → Nat) : sF l tb ≤ 2 := by
  unfold sF
  have := flt_le tb (sK l tb)
  repeat' split
  all_goals omega
theorem Bad_n {l : Nat} {tb : Nat → Nat} {I : xI} (h : Bad l tb I) : ¬ I 61 12 = 0 ∧ ¬ I 61 12 ≤ 0 := by
  have := sF_le l tb
  have h2 := h.2.1
  rw [h.1]
  refine ⟨?_, ?_⟩
  · rw [show (0 : Int32) = nt 0 from rfl, nt_eq (by omega) (by omega)]; exact h2
  · rw [show (0 : Int32) = nt 0 from rfl, nt_le (by omega) (by omega)]; omega
theorem is_ok {I : xI} {J : xJ} {t : Nat} (h1 : I 61 11 = nt t) (ht : t < 403) (h2 : I 61 12 = 0) (x : Int32) : f_X12_is x I J = some (bi (decide (I 64 t = x)), I, J) := by
  simp (disch := omega) only [f_X12_is, f_X12_is_0, h2, if_true, f_X12_is_1, h1, nt_clamp, nt_le, nt_lt, nt_eq, lit_le, lit_lt, le_lit, lt_lit, eq_lit, lit_eq, nt_neg, nt_ge, nt_add, nt_mul, nt_addl, lit_add, nt_mull, lit_mul, nt_sub, nt_subl, lit_sub, nt_divl, nt_m1, nt_m2, nt_m1', nt_m2', false_or, if_neg]
  by_cases c : I 64 t = x
  · rw [if_pos c, decide_eq_true c]; rfl
  · rw [if_neg c, decide_eq_false c]; rfl
theorem is_bad {l : Nat} {tb : Nat → Nat} {I : xI} {J : xJ} (h : Bad l tb I) (x : Int32) : f_X12_is x I J = some (0, I, J) := by
  simp only [f_X12_is, f_X12_is_0, if_neg (Bad_n h).1]; rfl
theorem rfail_bad {l : Nat} {tb : Nat → Nat} {I : xI} {J : xJ} (h : Bad l tb I) (x : Int32) : f_X12_fail x I J = some ((), I, J) := by
  simp only [f_X12_fail, f_X12_fail_0, if_neg (Bad_n h).2]; rfl
theorem le00 : ((0 : Int32) ≤ 0) = True := by decide
theorem rfail_ok {I : xI} {J : xJ} {t : Nat} (h1 : I 61 11 = nt t) (ht : t < 403) (h2 : I 61 12 = 0) (x : Int32) : f_X12_fail x I J = some ((), xup (xup I 61 12 x) 61 13 (I 65 t), J) := by
  simp (disch := omega) only [f_X12_fail, f_X12_fail_0, h2, le00, if_true, f_X12_fail_2, xup_j, h1, nt_clamp, nt_le, nt_lt, nt_eq, lit_le, lit_lt, le_lit, lt_lit, eq_lit, lit_eq, nt_neg, nt_ge, nt_add, nt_mul, nt_addl, lit_add, nt_mull, lit_mul, nt_sub, nt_subl, lit_sub, nt_divl, nt_m1, nt_m2, nt_m1', nt_m2', false_or, if_neg, xup_bj]
def ltReg (c j : Nat) : Prop := c = 61 ∧ (j = 11 ∨ j = 12 ∨ j = 13)
theorem lt_fr {I : xI} {x y : Int32} {c j : Nat} (h : ¬ ltReg c j) : xup (xup I 61 12 x) 61 13 y c j = I c j := by
  unfold ltReg at h
  by_cases c61 : c = 61
  · rw [c61]; simp (disch := omega) only [xup_j]
  · simp (disch := omega) only [xup_bj]
/-- a fault at t -/
theorem fail_bad {l t : Nat} {tb : Nat → Nat} {I : xI} {J : xJ} (h : Good l tb t I J) {a : Nat} (hx : (st tb t < l ∧ flt tb t = a ∧ ¬ a = 0) ∨ (l ≤ st tb t ∧ due tb t = true ∧ a = 1)) : ∃ I', f_X12_fail (nt a) I J = some ((), I', J) ∧ Bad l tb I' ∧ ∀ c j, ¬ ltReg c j → I' c j = I c j := by
  obtain ⟨h4, h11, h12, hst, hA⟩ := h
  refine ⟨_, rfail_ok h11 (by omega) h12 (nt a), ?_, fun c j hc => lt_fr hc⟩
  have e12 : xup (xup I 61 12 (nt a)) 61 13 (I 65 t) 61 12 = nt a := by simp (disch := omega) only [xup_j, xup_at]
  have e13 : xup (xup I 61 12 (nt a)) 61 13 (I 65 t) 61 13 = I 65 t := xup_at _ _ _ _
  have hAt := hA t h4 (fun j hj => (hst j hj).1)
  rcases hx with ⟨hs, hf, ha⟩ | ⟨hs, hd, ha⟩
  · have eK : sK l tb = t := sK_eq h4 hst (Or.inr (by rw [hf]; exact ha))
    have eF : sF l tb = a := by unfold sF; rw [eK, if_pos hs, hf]
    have eP : sP l tb = nt (st tb t) := by unfold sP; rw [eK, if_pos hs]
    exact ⟨by rw [e12, eF], by rw [eF]; exact ha, by rw [e13, eP]; exact (hAt.1 hs).2.1⟩
  · have eK : sK l tb = t := sK_eq h4 hst (Or.inl hs)
    have eF : sF l tb = 1 := by unfold sF; rw [eK, if_neg (by omega), if_pos hd]
    have eP : sP l tb = nt l := by unfold sP; rw [eK, if_neg (by omega), if_pos hd]
    exact ⟨by rw [e12, eF, ha], by rw [eF]; omega, by rw [e13, eP]; exact (hAt.2 hs).2⟩
def GB (l : Nat) (tb : Nat → Nat) (t : Nat) (I : xI) (J : xJ) : Prop := Good l tb t I J ∨ Bad l tb I
theorem pass_ok {l t : Nat} {tb : Nat → Nat} {I : xI} {J : xJ} (h : Good l tb t I J) (hs : st tb t < l) (hn : nf (aq tb t) (kd tb (st tb t)) = 0) : Ok (f_X12_passes I J) (fun o => o.2.2 = J ∧ GB l tb (t + 1) o.2.1 J ∧ ∀ c j, ¬ ltReg c j → o.2.1 c j = I c j) := by
  obtain ⟨h4, h11, h12, hst, hA⟩ := h
  by_cases c : t = 400
  · obtain ⟨I', e, hb, hf⟩ := fail_bad (J := J) ⟨h4, h11, h12, hst, hA⟩ (a := 2) (Or.inl ⟨hs, by unfold flt; rw [if_pos hn, if_pos (by omega)], by omega⟩)
    have e' : f_X12_fail 2 I J = some ((), I', J) := e
    have h400 : I 61 11 = 400 := by rw [h11, c]; rfl
    simp only [f_X12_passes, f_X12_passes_0, if_pos h400, f_X12_passes_1, e', Option.bind_some, f_X12_passes_2, f_X12_passes_4]
    exact ok_some ⟨rfl, Or.inr hb, hf⟩
  · have h400 : ¬ I 61 11 = 400 := by rw [h11, eq_lit (by omega) (by omega)]; exact c
    have h401 : ¬ nt t = 400 := by rw [← h11]; exact h400
    simp only [f_X12_passes, f_X12_passes_0, f_X12_passes_3, f_X12_passes_4, h11, if_neg h401, nt_addl]
    refine ok_some ?_
    refine ⟨rfl, Or.inl (show Good l tb (t + 1) (xup I 61 11 (nt (t + 1))) J from ⟨by omega, xup_at _ _ _ _, ?_, ?_, ?_⟩), ?_⟩
    · show xup I 61 11 _ 61 12 = 0
      rw [xup_j _ _ _ _ (by omega)]; exact h12
    · intro j hj
      by_cases cj : j = t
      · rw [cj]; refine ⟨hs, ?_⟩
        unfold flt; rw [if_pos hn, if_neg (by omega)]
      · exact hst j (by omega)
    · exact TA_fr hA (fun c j hc => xup_bj _ _ _ _ _ (by omega)) (fun _ => rfl)
    · intro c' j hc
      unfold ltReg at hc
      show xup I 61 11 _ c' j = _
      by_cases c61 : c' = 61
      · rw [c61, xup_j _ _ _ _ (by omega)]
      · exact xup_bj _ _ _ _ _ c61
theorem rk_lt : ∀ k, k < 9 → rk k < 100 ∧ ¬ rk k = 0 := by decide
theorem nf_due {tb : Nat → Nat} {t K j ns : Nat} (hq : aq tb t = (K, j, ns)) (hj : j < (shp K).length) : due tb t = true ∧ nf (aq tb t) (kd tb (st tb t)) = if fitb ((shp K).getD j 0) (kd tb (st tb t)) = true then 0 else 1 := by
  refine ⟨?_, ?_⟩
  · unfold due; rw [hq]; exact decide_eq_true hj
  · rw [hq]; exact if_pos hj
theorem must_gb {l t K j ns x : Nat} {tb : Nat → Nat} {I : xI} {J : xJ} (h : GB l tb t I J) (hq : aq tb t = (K, j, ns)) (hj : j < (shp K).length) (hx0 : ¬ x = 0) (hx1 : x < 100) (hx : ∀ k, k < 9 → (rk k = x ↔ fitb ((shp K).getD j 0) k = true)) : Ok (f_X12_must (nt x) I J) (fun o => o.2.2 = J ∧ GB l tb (t + 1) o.2.1 J ∧ ∀ c j, ¬ ltReg c j → o.2.1 c j = I c j) := by
  rcases h with h | h
  · obtain ⟨h4, h11, h12, hst, hA⟩ := h
    have hAt := hA t h4 (fun j hj => (hst j hj).1)
    have hG : Good l tb t I J := ⟨h4, h11, h12, hst, hA⟩
    obtain ⟨hd, hn⟩ := nf_due hq hj
    have hkd := kd_lt tb (st tb t)
    have hrk := rk_lt _ hkd
    simp (disch := omega) only [f_X12_must, f_X12_must_0, is_ok h11 (show t < 403 from by omega) h12, Option.bind_some, f_X12_must_1, bi_0]
    have bad : ∀ a, (st tb t < l ∧ flt tb t = a ∧ ¬ a = 0) ∨ (l ≤ st tb t ∧ due tb t = true ∧ a = 1) → a = 1 → Ok (f_X12_must_4 (nt x) I J) (fun o => o.2.2 = J ∧ GB l tb (t + 1) o.2.1 J ∧ ∀ c j, ¬ ltReg c j → o.2.1 c j = I c j) := by
      intro a ha ha1
      obtain ⟨I', e, hb, hf⟩ := fail_bad hG ha
      have e' : f_X12_fail 1 I J = some ((), I', J) := by rw [ha1] at e; exact e
      simp only [f_X12_must_4, e', Option.bind_some, f_X12_must_5]
      exact ok_some ⟨rfl, Or.inr hb, hf⟩
    by_cases hs : st tb t < l
    · have e64 := (hAt.1 hs).1
      have ex1 : (I 64 t = nt x) = (rk (kd tb (st tb t)) = x) := by rw [e64, nt_eq (by omega) (by omega)]
      by_cases c : rk (kd tb (st tb t)) = x
      · have hfit := (hx _ hkd).mp c
        rw [decide_eq_true (show I 64 t = nt x from by rw [ex1]; exact c), if_neg (by decide)]
        unfold f_X12_must_2
        apply ok_bind
        rw [hfit, if_pos rfl] at hn
        refine (pass_ok hG hs hn).imp ?_
        rintro ⟨_, I1, J1⟩ ⟨rfl, a1, a2⟩
        exact ok_some ⟨rfl, a1, a2⟩
      · have hfit : ¬ fitb ((shp K).getD j 0) (kd tb (st tb t)) = true := fun h => c ((hx _ hkd).mpr h)
        rw [decide_eq_false (show ¬ I 64 t = nt x from by rw [ex1]; exact c), if_pos rfl]
        rw [if_neg hfit] at hn
        exact bad 1 (Or.inl ⟨hs, by unfold flt; rw [hn]; rfl, by omega⟩) rfl
    · have e64 := (hAt.2 (by omega)).1
      have ex1 : ¬ I 64 t = nt x := by rw [e64, show (0 : Int32) = nt 0 from rfl, nt_eq (by omega) (by omega)]; omega
      rw [decide_eq_false ex1, if_pos rfl]
      exact bad 1 (Or.inr ⟨by omega, hd, rfl⟩) rfl
  · simp only [f_X12_must, f_X12_must_0, is_bad h, Option.bind_some, f_X12_must_1, if_true, f_X12_must_4, rfail_bad h, f_X12_must_5]
    exact ok_some ⟨rfl, Or.inr h, fun _ _ _ => rfl⟩
theorem either_gb {l t K j ns x y : Nat} {tb : Nat → Nat} {I : xI} {J : xJ} (h : GB l tb t I J) (hq : aq tb t = (K, j, ns)) (hj : j < (shp K).length) (hx0 : ¬ x = 0) (hy0 : ¬ y = 0) (hx1 : x < 100) (hy1 : y < 100) (hx : ∀ k, k < 9 → (rk k = x ∨ rk k = y ↔ fitb ((shp K).getD j 0) k = true)) : Ok (f_X12_either (nt x) (nt y) I J) (fun o => o.2.2 = J ∧ GB l tb (t + 1) o.2.1 J ∧ ∀ c j, ¬ ltReg c j → o.2.1 c j = I c j) := by
  rcases h with h | h
  · obtain ⟨h4, h11, h12, hst, hA⟩ := h
    have hAt := hA t h4 (fun j hj => (hst j hj).1)
    have hG : Good l tb t I J := ⟨h4, h11, h12, hst, hA⟩
    obtain ⟨hd, hn⟩ := nf_due hq hj
    have hkd := kd_lt tb (st tb t)
    have hrk := rk_lt _ hkd
    simp (disch := omega) only [f_X12_either, f_X12_either_0, is_ok h11 (show t < 403 from by omega) h12, Option.bind_some, f_X12_either_1, f_X12_either_2, f_X12_either_3, bi_0]
    have bad : ∀ a, (st tb t < l ∧ flt tb t = a ∧ ¬ a = 0) ∨ (l ≤ st tb t ∧ due tb t = true ∧ a = 1) → a = 1 → Ok (f_X12_either_6 (nt x) (nt y) I J) (fun o => o.2.2 = J ∧ GB l tb (t + 1) o.2.1 J ∧ ∀ c j, ¬ ltReg c j → o.2.1 c j = I c j) := by
      intro a ha ha1
      obtain ⟨I', e, hb, hf⟩ := fail_bad hG ha
      have e' : f_X12_fail 1 I J = some ((), I', J) := by rw [ha1] at e; exact e
      simp only [f_X12_either_6, e', Option.bind_some, f_X12_either_7]
      exact ok_some ⟨rfl, Or.inr hb, hf⟩
    by_cases hs : st tb t < l
    · have e64 := (hAt.1 hs).1
      have ex1 : (I 64 t = nt x) = (rk (kd tb (st tb t)) = x) := by rw [e64, nt_eq (by omega) (by omega)]
      have ey1 : (I 64 t = nt y) = (rk (kd tb (st tb t)) = y) := by rw [e64, nt_eq (by omega) (by omega)]
      have good : rk (kd tb (st tb t)) = x ∨ rk (kd tb (st tb t)) = y → Ok (f_X12_either_4 (nt x) (nt y) I J) (fun o => o.2.2 = J ∧ GB l tb (t + 1) o.2.1 J ∧ ∀ c j, ¬ ltReg c j → o.2.1 c j = I c j) := by
        intro c
        have hfit := (hx _ hkd).mp c
        unfold f_X12_either_4
        apply ok_bind
        rw [hfit, if_pos rfl] at hn
        refine (pass_ok hG hs hn).imp ?_
        rintro ⟨_, I1, J1⟩ ⟨rfl, a1, a2⟩
        exact ok_some ⟨rfl, a1, a2⟩
      by_cases c : rk (kd tb (st tb t)) = x
      · rw [decide_eq_true (show I 64 t = nt x from by rw [ex1]; exact c), if_neg (by decide)]
        exact good (Or.inl c)
      · rw [decide_eq_false (show ¬ I 64 t = nt x from by rw [ex1]; exact c), if_pos rfl]
        by_cases c2 : rk (kd tb (st tb t)) = y
        · rw [decide_eq_true (show I 64 t = nt y from by rw [ey1]; exact c2), if_neg (by decide)]
          exact good (Or.inr c2)
        · rw [decide_eq_false (show ¬ I 64 t = nt y from by rw [ey1]; exact c2), if_pos rfl]
          have hfit : ¬ fitb ((shp K).getD j 0) (kd tb (st tb t)) = true := fun h => ((hx _ hkd).mpr h).elim c c2
          rw [if_neg hfit] at hn
          exact bad 1 (Or.inl ⟨hs, by unfold flt; rw [hn]; rfl, by omega⟩) rfl
    · have e64 := (hAt.2 (by omega)).1
      have ex1 : ¬ I 64 t = nt x := by rw [e64, show (0 : Int32) = nt 0 from rfl, nt_eq (by omega) (by omega)]; omega
      have ey1 : ¬ I 64 t = nt y := by rw [e64, show (0 : Int32) = nt 0 from rfl, nt_eq (by omega) (by omega)]; omega
      rw [decide_eq_false ex1, decide_eq_false ey1, if_pos rfl, if_pos rfl]
      exact bad 1 (Or.inr ⟨by omega, hd, rfl⟩) rfl
  · simp only [f_X12_either, f_X12_either_0, is_bad h, Option.bind_some, f_X12_either_1, f_X12_either_2, f_X12_either_3, if_true, f_X12_either_6, rfail_bad h, f_X12_either_7]
    exact ok_some ⟨rfl, Or.inr h, fun _ _ _ => rfl⟩
