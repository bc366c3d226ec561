/-! a whole line of the reference -/
def SLs (tb : Nat → Nat) (k : Nat) : List Nat := fl (fun j => decide (kd tb (st tb j) = 4)) k
def inp (tb : Nat → Nat) : Nat → Nat
  | 0 => 2
  | k + 1 => if kd tb (st tb k) = 5 ∧ 1 ≤ tvl tb (st tb (k + 1)) ∧ tvl tb (st tb (k + 1)) ≤ 4 then tvl tb (st tb (k + 1)) else inp tb k
theorem inp_s (tb : Nat → Nat) (k : Nat) : inp tb (k + 1) = if kd tb (st tb k) = 5 ∧ 1 ≤ tvl tb (st tb (k + 1)) ∧ tvl tb (st tb (k + 1)) ≤ 4 then tvl tb (st tb (k + 1)) else inp tb k := rfl
theorem inp_r (tb : Nat → Nat) : ∀ k, 1 ≤ inp tb k ∧ inp tb k ≤ 4 := by
  intro k
  induction k with
  | zero => exact ⟨by show 1 ≤ 2; omega, by show 2 ≤ 4; omega⟩
  | succ k ih =>
    rw [inp_s]
    split
    · rename_i h; exact h.2
    · exact ih
theorem flt_nf {tb : Nat → Nat} {k : Nat} (h : flt tb k = 0) : nf (aq tb k) (kd tb (st tb k)) = 0 ∧ k < 400 := by
  unfold flt at h
  split at h
  · split at h
    · omega
    · exact ⟨by assumption, by omega⟩
  · rename_i hn; exact absurd h hn
theorem fit_kd : ∀ d, d < 128 → ∀ k, k < 9 → fitb d k = true → k = 1 ∨ k = 2 ∨ k = 3 ∨ k = 8 := by decide +kernel
theorem aq_beg {tb : Nat → Nat} {t : Nat} (hd : due tb t = false) : aq tb (t + 1) = (kd tb (st tb t), 0, (aq tb t).2.2 + (if kd tb (st tb t) = 4 then 1 else 0)) := by
  show nq (aq tb t) (kd tb (st tb t)) = _
  exact if_neg (of_decide_eq_false hd)
theorem aq_line {tb : Nat → Nat} {t K ns : Nat} (h : aq tb (t + 1) = (K, 0, ns)) : ∀ j, j ≤ (shp K).length → aq tb (t + 1 + j) = (K, j, ns) := by
  intro j
  induction j with
  | zero => intro _; exact h
  | succ j ih =>
    intro hj
    have e := ih (by omega)
    show nq (aq tb (t + 1 + j)) (kd tb (st tb (t + 1 + j))) = _
    rw [e]
    exact if_pos (show j < (shp K).length from by omega)
theorem in_line {tb : Nat → Nat} {t K ns j : Nat} (h : aq tb (t + 1) = (K, 0, ns)) (hK : K < 9) (hj : j < (shp K).length) (hf : flt tb (t + 1 + j) = 0) : fitb ((shp K).getD j 0) (kd tb (st tb (t + 1 + j))) = true := by
  have e := aq_line h j (by omega)
  have hn := (flt_nf hf).1
  rw [e] at hn
  have hn2 : (if fitb ((shp K).getD j 0) (kd tb (st tb (t + 1 + j))) = true then 0 else 1) = 0 := by
    have : nf (K, j, ns) (kd tb (st tb (t + 1 + j))) = if fitb ((shp K).getD j 0) (kd tb (st tb (t + 1 + j))) = true then 0 else 1 := if_pos hj
    rw [this] at hn; exact hn
  split at hn2
  · assumption
  · omega
theorem line_same {tb : Nat → Nat} {t K ns : Nat} (h : aq tb (t + 1) = (K, 0, ns)) (hK : K < 9) : ∀ j, j ≤ (shp K).length → (∀ i, i < j → flt tb (t + 1 + i) = 0) → SLs tb (t + 1 + j) = SLs tb (t + 1) ∧ inp tb (t + 1 + j) = inp tb (t + 1) := by
  intro j
  induction j with
  | zero => intro _ _; exact ⟨rfl, rfl⟩
  | succ j ih =>
    intro hj hf
    obtain ⟨e1, e2⟩ := ih (by omega) (fun i hi => hf i (by omega))
    have hl6 := (wsh_ok K hK).2.2.1
    have hfit := in_line h hK (by omega) (hf j (by omega))
    have hk := fit_kd _ (shp_lt K hK j (by omega)) _ (kd_lt _ _) hfit
    refine ⟨?_, ?_⟩
    · rw [← e1]
      exact fl_f (p := fun j => decide (kd tb (st tb j) = 4)) (k := t + 1 + j) (decide_eq_false (show ¬ kd tb (st tb (t + 1 + j)) = 4 from by omega))
    · rw [← e2]
      show inp tb (t + 1 + j + 1) = _
      rw [inp_s, if_neg (by omega)]
def Lg (l : Nat) (tb : Nat → Nat) (t : Nat) (I : xI) (J : xJ) : Prop := Good l tb t I J ∧ due tb t = false ∧ (aq tb t).2.2 = (SLs tb t).length ∧ I 61 19 = nt (SLs tb t).length ∧ (∀ j i, (SLs tb t)[j]? = some i → J 69 j = jl (nm tb (st tb (i + 1)))) ∧ I 61 20 = nt (inp tb t)
def lnReg (c j : Nat) : Prop := c = 61 ∧ (j = 11 ∨ j = 12 ∨ j = 13 ∨ j = 19 ∨ j = 20)
theorem shp_last : ∀ K, K < 9 → 0 < (shp K).length → ∀ k, k < 9 → (rk k = 4 ↔ fitb ((shp K).getD ((shp K).length - 1) 0) k = true) := by decide +kernel
theorem line30_gb {l u K ns : Nat} {tb : Nat → Nat} {I : xI} {J : xJ} (h : GB l tb u I J) (hK : K < 9) (h0 : 0 < (shp K).length) (hq : aq tb u = (K, (shp K).length - 1, ns)) (x1 : Int32) : Ok (f_X12_line_30 x1 I J) (fun o => o.2.2 = J ∧ GB l tb (u + 1) o.2.1 J ∧ ∀ c j, ¬ ltReg c j → o.2.1 c j = I c j) := by
  unfold f_X12_line_30
  apply ok_bind
  refine (must_gb (x := 4) h hq (by omega) (by omega) (by omega) (shp_last K hK h0)).imp ?_
  rintro ⟨_, I1, J1⟩ ⟨rfl, a1, a2⟩
  exact ok_some ⟨rfl, a1, a2⟩
theorem tvl_lt {l : Nat} {tb : Nat → Nat} (T : Tb l tb) {i : Nat} (h : kd tb i = 2) : tvl tb i < 10000 := by
  have hD : qD (tb i) = true := by
    cases e : qD (tb i) with
    | true => rfl
    | false =>
      exfalso
      unfold kd at h
      rw [if_neg (by rw [e]; decide)] at h
      repeat' split at h
      all_goals omega
  have hle : te tb i - i ≤ 4 := by
    unfold kd at h
    rw [if_pos hD] at h
    split at h
    · assumption
    · omega
  have h1 := dvl_lt (f := fun k => tb (i + k)) (te tb i - i) (fun k hk => qD_le (te_D T hD hk))
  have h2 : 10 ^ (te tb i - i) ≤ 10 ^ 4 := Nat.pow_le_pow_right (by omega) hle
  have h3 : (10 : Nat) ^ 4 = 10000 := by decide
  show dvl (fun k => tb (i + k)) (te tb i - i) < 10000
  omega
theorem rin14 {v : Nat} {I : xI} {J : xJ} (hv : v < 100000) : f_X12_in (nt v) 1 4 I J = some (bi (decide (1 ≤ v ∧ v ≤ 4)), I, J) := by
  simp (disch := omega) only [f_X12_in, f_X12_in_0, f_X12_in_1, f_X12_in_2, f_X12_in_3, f_X12_in_4, nt_clamp, nt_le, nt_lt, nt_eq, lit_le, lit_lt, le_lit, lt_lit, eq_lit, lit_eq, nt_neg, nt_ge, nt_add, nt_mul, nt_addl, lit_add, nt_mull, lit_mul, nt_sub, nt_subl, lit_sub, nt_divl, nt_m1, nt_m2, nt_m1', nt_m2']
  by_cases c1 : v < 1
  · rw [if_pos c1, decide_eq_false (by omega)]; rfl
  · rw [if_neg c1]
    by_cases c2 : 4 < v
    · rw [if_pos c2, decide_eq_false (by omega)]; rfl
    · rw [if_neg c2, decide_eq_true (by omega)]; rfl
/-- what a line leaves -/
def Ln (l : Nat) (tb : Nat → Nat) (t : Nat) (I : xI) (J : xJ) (o : Unit × xI × xJ) : Prop := ((∃ t', t < t' ∧ Lg l tb t' o.2.1 o.2.2) ∨ Bad l tb o.2.1) ∧ (∀ c j, ¬ lnReg c j → o.2.1 c j = I c j) ∧ ∀ c j, ¬ c = 69 → o.2.2 c j = J c j
theorem SL_s (tb : Nat → Nat) (t : Nat) : SLs tb (t + 1) = if kd tb (st tb t) = 4 then SLs tb t ++ [t] else SLs tb t := by
  by_cases c : kd tb (st tb t) = 4
  · rw [if_pos c]; exact fl_t (p := fun j => decide (kd tb (st tb j) = 4)) (decide_eq_true c)
  · rw [if_neg c]; exact fl_f (p := fun j => decide (kd tb (st tb j) = 4)) (decide_eq_false c)
theorem Ln_of {l t K ns : Nat} {tb : Nat → Nat} {I I2 : xI} {J J2 : xJ} (hK : K < 9) (hk : kd tb (st tb t) = K) (ha : aq tb (t + 1) = (K, 0, ns)) (hns : ns = (SLs tb (t + 1)).length) (hg : GB l tb (t + 1 + (shp K).length) I2 J2) (h : Good l tb (t + 1 + (shp K).length) I2 J2 → I2 61 19 = nt (SLs tb (t + 1)).length ∧ (∀ j i, (SLs tb (t + 1))[j]? = some i → J2 69 j = jl (nm tb (st tb (i + 1)))) ∧ I2 61 20 = nt (inp tb (t + 1))) (hf : ∀ c j, ¬ lnReg c j → I2 c j = I c j) (hj : ∀ c j, ¬ c = 69 → J2 c j = J c j) : Ln l tb t I J ((), I2, J2) := by
  refine ⟨?_, hf, hj⟩
  rcases hg with hg | hb
  · refine Or.inl ⟨t + 1 + (shp K).length, by omega, hg, ?_, ?_, ?_⟩
    · unfold due; rw [aq_line ha _ (Nat.le_refl _)]; exact decide_eq_false (Nat.lt_irrefl _)
    · rw [aq_line ha _ (Nat.le_refl _), (line_same ha hK _ (Nat.le_refl _) (fun i hi => (hg.2.2.2.1 _ (by omega)).2)).1]; exact hns
    · rw [(line_same ha hK _ (Nat.le_refl _) (fun i hi => (hg.2.2.2.1 _ (by omega)).2)).1, (line_same ha hK _ (Nat.le_refl _) (fun i hi => (hg.2.2.2.1 _ (by omega)).2)).2]
      exact h hg
  · exact Or.inr hb
theorem lt_ln {c j : Nat} (h : ¬ lnReg c j) : ¬ ltReg c j := by unfold lnReg at h; unfold ltReg; omega
theorem GB_fr {l t : Nat} {tb : Nat → Nat} {I I' : xI} {J J' : xJ} (h : GB l tb t I J) (hf : ∀ c j, ((64 ≤ c ∧ c ≤ 66) ∨ (c = 61 ∧ (j = 11 ∨ j = 12 ∨ j = 13))) → I' c j = I c j) (hj : ∀ j, J' 67 j = J 67 j) : GB l tb t I' J' := by
  rcases h with h | h
  · exact Or.inl ⟨h.1, (hf 61 11 (by omega)).trans h.2.1, (hf 61 12 (by omega)).trans h.2.2.1, h.2.2.2.1, TA_fr h.2.2.2.2 (fun c j hc => hf c j (by omega)) hj⟩
  · exact Or.inr ⟨(hf 61 12 (by omega)).trans h.1, h.2.1, (hf 61 13 (by omega)).trans h.2.2⟩
