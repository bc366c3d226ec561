/-! the class's reader: words -/
theorem kd1_L {tb : Nat → Nat} {i : Nat} (h : kd tb i = 1) : qL (tb i) = true := by
  cases eL : qL (tb i) with
  | true => rfl
  | false =>
    exfalso
    unfold kd at h
    split at h
    · split at h <;> omega
    · rw [if_neg (by rw [eL]; decide)] at h
      split at h <;> omega
theorem kd2_D {tb : Nat → Nat} {i : Nat} (h : kd tb i = 2) : qD (tb i) = true := by
  cases e : qD (tb i) with
  | true => rfl
  | false =>
    exfalso
    unfold kd at h
    rw [if_neg (by rw [e]; decide)] at h
    repeat' split at h
    all_goals omega
theorem ns_len {tb : Nat → Nat} : ∀ t, (∀ j, j < t → flt tb j = 0) → (aq tb t).2.2 = (SLs tb t).length := by
  intro t
  induction t with
  | zero => intro _; rfl
  | succ t ih =>
    intro h
    have e := ih (fun j hj => h j (by omega))
    rw [SL_s]
    have hn := (flt_nf (h t (by omega))).1
    obtain ⟨qc, qd, _⟩ := aq_c tb t
    show (nq (aq tb t) (kd tb (st tb t))).2.2 = _
    unfold nq
    by_cases c : (aq tb t).2.1 < (shp (aq tb t).1).length
    · rw [if_pos c]
      have hn2 : (if fitb ((shp (aq tb t).1).getD (aq tb t).2.1 0) (kd tb (st tb t)) = true then 0 else 1) = 0 := by
        have : nf (aq tb t) (kd tb (st tb t)) = if fitb ((shp (aq tb t).1).getD (aq tb t).2.1 0) (kd tb (st tb t)) = true then 0 else 1 := if_pos c
        rw [this] at hn; exact hn
      have hfit : fitb ((shp (aq tb t).1).getD (aq tb t).2.1 0) (kd tb (st tb t)) = true := by
        split at hn2
        · assumption
        · omega
      have hl6 := (wsh_ok _ qc).2.2.1
      have hk := fit_kd _ (shp_lt _ qc _ (by omega)) _ (kd_lt _ _) hfit
      rw [if_neg (by omega)]; exact e
    · rw [if_neg c]
      show (aq tb t).2.2 + (if kd tb (st tb t) = 4 then 1 else 0) = _
      by_cases c4 : kd tb (st tb t) = 4
      · rw [if_pos c4, if_pos c4, List.length_append, e]; rfl
      · rw [if_neg c4, if_neg c4, e]; rfl
theorem Wf_nS {l N t : Nat} {tb : Nat → Nat} (h : Wf l tb N) (ht : t ≤ N) : nS tb t ≤ 6 := by
  have h1 := ns_len t (fun j hj => (h.2.2.2.1 j (by omega)).2)
  have h2 := ns6 t (fun j hj => (h.2.2.2.1 j (by omega)).2)
  unfold nS; omega
theorem SL_mem {tb : Nat → Nat} {N s i : Nat} (h : (SLs tb N)[s]? = some i) : i < N ∧ kk tb i = 4 := by
  have hm : i ∈ SLs tb N := List.mem_of_getElem? h
  have := fl_mem.mp hm
  exact ⟨this.1, of_decide_eq_true this.2⟩
theorem Wf_due {l N : Nat} {tb : Nat → Nat} (h : Wf l tb N) {i : Nat} (hi : i < N) (hk : 4 ≤ kk tb i ∧ kk tb i ≤ 7) : due tb i = false := by
  cases e : due tb i with
  | false => rfl
  | true =>
    exfalso
    have hd : (aq tb i).2.1 < (shp (aq tb i).1).length := of_decide_eq_true e
    have hn := (flt_nf (h.2.2.2.1 i hi).2).1
    obtain ⟨qc, _, _⟩ := aq_c tb i
    have e1 : nf (aq tb i) (kd tb (st tb i)) = if fitb ((shp (aq tb i).1).getD (aq tb i).2.1 0) (kd tb (st tb i)) = true then 0 else 1 := if_pos hd
    rw [e1] at hn
    have hfit : fitb ((shp (aq tb i).1).getD (aq tb i).2.1 0) (kd tb (st tb i)) = true := by
      split at hn
      · assumption
      · omega
    have hl6 := (wsh_ok _ qc).2.2.1
    have hk2 := fit_kd _ (shp_lt _ qc _ (by omega)) _ (kd_lt _ _) hfit
    have : kk tb i = kd tb (st tb i) := rfl
    omega
/-- the name behind a STATE -/
theorem Wf_name {l N i : Nat} {tb : Nat → Nat} (h : Wf l tb N) (hi : i < N) (hk : kk tb i = 4) : i + 1 < N ∧ kk tb (i + 1) = 1 := by
  have hd := Wf_due h hi (by omega)
  obtain ⟨_, h1, _, h2⟩ := Wf_line h hi hd
  rw [hk] at h1 h2
  have h3 := h2 0 (by decide)
  have h4 : ∀ k, k < 9 → fitb ((shp 4).getD 0 0) k = true → k = 1 := by decide
  have h5 : (shp 4).length = 2 := rfl
  exact ⟨by omega, h4 _ (kd_lt _ _) h3⟩
theorem number_ok {l : Nat} {tb : Nat → Nat} {I : xI} {J : xJ} (h : Tp l tb I) {i s : Nat} (hi : i + s ≤ l) (hD : ∀ k, k < s → qD (tb (i + k)) = true) : f_X9_numberAt (nt i) (nt s) I J = some (nt (dvl (fun k => tb (i + k)) s), I, J) := by
  apply Ok.eq
  have hl := h.1.1
  unfold f_X9_numberAt f_X9_numberAt_0 f_X9_numberAt_1
  refine ok_loop (fun k t => t = (nt i, nt s, nt (dvl (fun k => tb (i + k)) k), nt k, I, J)) s ?_ ?_ 5000 0 _ (by omega) (by omega) rfl
  · rintro k hk t rfl
    have hd := qD_le (hD k hk)
    simp (disch := omega) only [b_X9_numberAt_1, f_X9_numberAt_2, f_X9_numberAt_3, nt_add, byteAt_ok h (show i + k < 100000 from by omega), by_lo (tb (i + k)) (by omega), Option.bind_some, nt_clamp, nt_le, nt_lt, nt_eq, lit_le, lit_lt, le_lit, lt_lit, eq_lit, lit_eq, nt_neg, nt_ge, nt_add, nt_mul, nt_addl, lit_add, nt_mull, lit_mul, nt_sub, nt_subl, lit_sub, nt_divl, nt_m1, nt_m2, nt_m1', nt_m2', if_neg]
    refine ok_some ?_
    show (_, _, _) = (_, _, _)
    rw [dvl_s, show dvl (fun k => tb (i + k)) k * 10 + tb (i + k) - 48 = 10 * dvl (fun k => tb (i + k)) k + (tb (i + k) - 48) from by omega]
  · rintro t rfl
    simp (disch := omega) only [b_X9_numberAt_1, f_X9_numberAt_4, nt_clamp, nt_le, nt_lt, nt_eq, lit_le, lit_lt, le_lit, lt_lit, eq_lit, lit_eq, nt_neg, nt_ge, nt_add, nt_mul, nt_addl, lit_add, nt_mull, lit_mul, nt_sub, nt_subl, lit_sub, nt_divl, nt_m1, nt_m2, nt_m1', nt_m2', if_pos, Option.map_some]
    exact ok_some rfl
theorem alike_ok {l : Nat} {tb : Nat → Nat} {I : xI} {J : xJ} (h : Tp l tb I) {i j s : Nat} (hi : i + s ≤ l) (hj : j + s ≤ l) : f_X9_saysAlike (nt i) (nt j) (nt s) I J = some (bi (al s (fun k => decide (tb (i + k) = tb (j + k)))), I, J) := by
  apply Ok.eq
  have hl := h.1.1
  unfold f_X9_saysAlike f_X9_saysAlike_0 f_X9_saysAlike_1
  refine ok_loop (fun k t => t = (nt i, nt j, nt s, nt k, I, J) ∧ ∀ q, q < k → tb (i + q) = tb (j + q)) s ?_ ?_ 5000 0 _ (by omega) (by omega) ⟨rfl, fun q hq => by omega⟩
  · rintro k hk t ⟨rfl, hq⟩
    simp (disch := omega) only [b_X9_saysAlike_1, f_X9_saysAlike_2, f_X9_saysAlike_3, f_X9_saysAlike_4, nt_add, byteAt_ok h (show i + k < 100000 from by omega), byteAt_ok h (show j + k < 100000 from by omega), Option.bind_some, nt_clamp, nt_le, nt_lt, nt_eq, lit_le, lit_lt, le_lit, lt_lit, eq_lit, lit_eq, nt_neg, nt_ge, nt_add, nt_mul, nt_addl, lit_add, nt_mull, lit_mul, nt_sub, nt_subl, lit_sub, nt_divl, nt_m1, nt_m2, nt_m1', nt_m2', if_neg, by_ii (h.1.2.1 (i + k)) (h.1.2.1 (j + k))]
    by_cases c : tb (i + k) = tb (j + k)
    · rw [if_pos c]
      simp only [f_X9_saysAlike_6, nt_addl]
      refine ok_some ⟨rfl, fun q hq' => ?_⟩
      by_cases cq : q = k
      · rw [cq]; exact c
      · exact hq q (by omega)
    · rw [if_neg c]
      simp only [f_X9_saysAlike_5, Option.map_some]
      refine ok_some ?_
      show (_, _, _) = (_, _, _)
      rw [al_false hk (decide_eq_false c)]; rfl
  · rintro t ⟨rfl, hq⟩
    simp (disch := omega) only [b_X9_saysAlike_1, f_X9_saysAlike_7, nt_clamp, nt_le, nt_lt, nt_eq, lit_le, lit_lt, le_lit, lt_lit, eq_lit, lit_eq, nt_neg, nt_ge, nt_add, nt_mul, nt_addl, lit_add, nt_mull, lit_mul, nt_sub, nt_subl, lit_sub, nt_divl, nt_m1, nt_m2, nt_m1', nt_m2', if_pos, Option.map_some]
    refine ok_some ?_
    show (_, _, _) = (_, _, _)
    rw [al_iff.mpr (fun q hq' => decide_eq_true (hq q hq'))]; rfl
theorem nm_eq {l : Nat} {tb : Nat → Nat} (T : Tb l tb) {i j : Nat} (hi : kd tb i = 1) (hj : kd tb j = 1) : (te tb i - i = te tb j - j ∧ al (te tb i - i) (fun k => decide (tb (i + k) = tb (j + k))) = true) ↔ nm tb i = nm tb j := by
  have hLi : ∀ k, k < te tb i - i → 97 ≤ tb (i + k) ∧ tb (i + k) ≤ 122 := fun k hk => qL_le (te_L T (kd1_L hi) hk)
  have hLj : ∀ k, k < te tb j - j → 97 ≤ tb (j + k) ∧ tb (j + k) ≤ 122 := fun k hk => qL_le (te_L T (kd1_L hj) hk)
  constructor
  · rintro ⟨e, ha⟩
    unfold nm
    rw [← e]
    exact nvf_ext _ (fun k hk => of_decide_eq_true (al_iff.mp ha k hk))
  · intro e
    obtain ⟨e1, e2⟩ := nvf_inj _ _ hLi hLj e
    exact ⟨e1, al_iff.mpr (fun k hk => decide_eq_true (e2 k hk))⟩
/-- what the class knows behind the scan -/
def Cc (l : Nat) (tb : Nat → Nat) (N : Nat) (I : xI) : Prop := Tp l tb I ∧ TK tb N I ∧ Wf l tb N
theorem Cc_fr {l N : Nat} {tb : Nat → Nat} {I I' : xI} (h : Cc l tb N I) (hf : ∀ c j, ((27 ≤ c ∧ c ≤ 29) ∨ (c = 26 ∧ j = 4) ∨ c = 25 ∨ (c = 24 ∧ j = 1)) → I' c j = I c j) : Cc l tb N I' :=
  ⟨Tp_fr h.1 (fun c j hc => hf c j (by omega)), TK_fr h.2.1 (fun c j hc => hf c j (by omega)), h.2.2⟩
theorem isTok_ok {l N k : Nat} {tb : Nat → Nat} {I : xI} {J : xJ} (h : Cc l tb N I) (hk : k < N) : f_X8_isToken (nt k) I J = some (1, I, J) := by
  have h4 := h.2.2.2.1
  simp (disch := omega) only [f_X8_isToken, f_X8_isToken_0, f_X8_isToken_1, f_X8_isToken_2, f_X8_isToken_4, h.2.1.1, nt_clamp, nt_le, nt_lt, nt_eq, lit_le, lit_lt, le_lit, lt_lit, eq_lit, lit_eq, nt_neg, nt_ge, nt_add, nt_mul, nt_addl, lit_add, nt_mull, lit_mul, nt_sub, nt_subl, lit_sub, nt_divl, nt_m1, nt_m2, nt_m1', nt_m2', if_neg, if_false, or_true, if_true]
theorem valueOf_ok {l N k : Nat} {tb : Nat → Nat} {I : xI} {J : xJ} (h : Cc l tb N I) (hk : k < N) (hd : kk tb k = 2) : f_X8_valueOf (nt k) I J = some (nt (vv tb k), I, J) := by
  have h4 := h.2.2.2.1
  have hst := (h.2.2.2.2.2.1 k hk).1
  have hT := h.2.1.2 k hk
  have t1 := te_gt tb (st tb k)
  have t2 := te_le h.1.1 hst
  have hD := kd2_D hd
  have e := number_ok (J := J) h.1 (i := st tb k) (s := te tb (st tb k) - st tb k) (by omega) (fun q hq => te_D h.1.1 hD hq)
  have n10 : ¬ (1 : Int32) = 0 := by decide
  simp (disch := omega) only [f_X8_valueOf, f_X8_valueOf_0, f_X8_valueOf_1, f_X8_valueOf_2, f_X8_valueOf_3, f_X8_valueOf_5, isTok_ok h hk, Option.bind_some, if_neg n10, nt_clamp, nt_le, nt_lt, nt_eq, lit_le, lit_lt, le_lit, lt_lit, eq_lit, lit_eq, nt_neg, nt_ge, nt_add, nt_mul, nt_addl, lit_add, nt_mull, lit_mul, nt_sub, nt_subl, lit_sub, nt_divl, nt_m1, nt_m2, nt_m1', nt_m2', false_or, if_neg, hT.2.1, hT.2.2, e]
  rfl
theorem isOpen_ok {l N k : Nat} {tb : Nat → Nat} {I : xI} {J : xJ} (h : Cc l tb N I) (hk : k < N) : f_X8_isOpen (nt k) I J = some (bi (decide (kk tb k = 8)), I, J) := by
  have h4 := h.2.2.2.1
  have hT := h.2.1.2 k hk
  have hkd := kd_lt tb (st tb k)
  have n10 : ¬ (1 : Int32) = 0 := by decide
  simp (disch := omega) only [f_X8_isOpen, f_X8_isOpen_0, f_X8_isOpen_1, f_X8_isOpen_2, f_X8_isOpen_3, f_X8_isOpen_4, f_X8_isOpen_5, isTok_ok h hk, Option.bind_some, if_neg n10, nt_clamp, nt_le, nt_lt, nt_eq, lit_le, lit_lt, le_lit, lt_lit, eq_lit, lit_eq, nt_neg, nt_ge, nt_add, nt_mul, nt_addl, lit_add, nt_mull, lit_mul, nt_sub, nt_subl, lit_sub, nt_divl, nt_m1, nt_m2, nt_m1', nt_m2', false_or, if_neg, hT.1]
  by_cases c : kk tb k = 8
  · rw [if_pos (show kd tb (st tb k) = 8 from c), decide_eq_true c]; rfl
  · rw [if_neg (show ¬ kd tb (st tb k) = 8 from c), decide_eq_false c]; rfl
def Nm (tb : Nat → Nat) (N : Nat) (I : xI) : Prop := I 30 3 = nt (nS tb N) ∧ ∀ s i, (SLs tb N)[s]? = some i → I 31 s = nt (i + 1)
theorem SL_at {tb : Nat → Nat} {N s : Nat} (hs : s < nS tb N) : ∃ i, (SLs tb N)[s]? = some i ∧ (SLs tb N).getD s 0 = i := by
  refine ⟨(SLs tb N)[s]'hs, List.getElem?_eq_getElem hs, ?_⟩
  rw [List.getD_eq_getElem?_getD, List.getElem?_eq_getElem hs]; rfl
theorem stateIn_ok {l N k : Nat} {tb : Nat → Nat} {I : xI} {J : xJ} (h : Cc l tb N I) (hN : Nm tb N I) (hk : k < N) (hd : kk tb k = 1) : f_X8_stateIn (nt k) I J = some (o1 (fnd tb N k), I, J) := by
  have h4 := h.2.2.2.1
  have hn6 := Wf_nS h.2.2 (Nat.le_refl N)
  have hst := (h.2.2.2.2.2.1 k hk).1
  have hT := h.2.1.2 k hk
  have t1 := te_gt tb (st tb k)
  have t2 := te_le h.1.1 hst
  have hl := h.1.1.1
  have n10 : ¬ (1 : Int32) = 0 := by decide
  simp (disch := omega) only [f_X8_stateIn, f_X8_stateIn_0, f_X8_stateIn_1, isTok_ok h hk, Option.bind_some, if_neg n10, f_X8_stateIn_3]
  apply Ok.eq
  unfold f_X8_stateIn_4
  refine ok_loop (fun s t => ∃ z, t = (nt k, nt s, z, I, J) ∧ ∀ q, q < s → ¬ nmv tb N q = nm tb (st tb k)) (nS tb N) ?_ ?_ 5000 0 _ (by omega) (by omega) ⟨none, rfl, fun q hq => by omega⟩
  · rintro s hs t ⟨z, rfl, hq⟩
    obtain ⟨i, ei, ed⟩ := SL_at hs
    obtain ⟨hi1, hi2⟩ := SL_mem ei
    obtain ⟨hi3, hi4⟩ := Wf_name h.2.2 hi1 hi2
    have e31 := hN.2 s i ei
    have hTi := h.2.1.2 (i + 1) hi3
    have hsti := (h.2.2.2.2.2.1 (i + 1) hi3).1
    have t3 := te_gt tb (st tb (i + 1))
    have t4 := te_le h.1.1 hsti
    have env : nmv tb N s = nm tb (st tb (i + 1)) := by unfold nmv; rw [ed]
    have hne := nm_eq h.1.1 hi4 hd
    simp (disch := omega) only [b_X8_stateIn_4, hN.1, f_X8_stateIn_5, e31, nt_clamp, nt_le, nt_lt, nt_eq, lit_le, lit_lt, le_lit, lt_lit, eq_lit, lit_eq, nt_neg, nt_ge, nt_add, nt_mul, nt_addl, lit_add, nt_mull, lit_mul, nt_sub, nt_subl, lit_sub, nt_divl, nt_m1, nt_m2, nt_m1', nt_m2', false_or, if_neg, hTi.2.2, hT.2.2]
    by_cases c : te tb (st tb (i + 1)) - st tb (i + 1) = te tb (st tb k) - st tb k
    · rw [if_pos c]
      have ea := alike_ok (J := J) h.1 (i := st tb (i + 1)) (j := st tb k) (s := te tb (st tb (i + 1)) - st tb (i + 1)) (by omega) (by omega)
      simp (disch := omega) only [f_X8_stateIn_6, nt_clamp, nt_le, nt_lt, nt_eq, lit_le, lit_lt, le_lit, lt_lit, eq_lit, lit_eq, nt_neg, nt_ge, nt_add, nt_mul, nt_addl, lit_add, nt_mull, lit_mul, nt_sub, nt_subl, lit_sub, nt_divl, nt_m1, nt_m2, nt_m1', nt_m2', false_or, if_neg, hTi.2.1, hT.2.1, hTi.2.2, ea, Option.bind_some, f_X8_stateIn_7, bi_0]
      cases eb : al (te tb (st tb (i + 1)) - st tb (i + 1)) (fun q => decide (tb (st tb (i + 1) + q) = tb (st tb k + q))) with
      | true =>
        rw [if_neg (by decide)]
        simp only [f_X8_stateIn_8, Option.map_some]
        refine ok_some ?_
        have : fnd tb N k = some s := ff_some.mpr ⟨hs, decide_eq_true (by rw [env]; exact hne.mp ⟨c, eb⟩), fun q hq' => decide_eq_false (hq q hq')⟩
        show (_, _, _) = (_, _, _)
        rw [this]; rfl
      | false =>
        rw [if_pos rfl]
        simp only [f_X8_stateIn_9, nt_addl]
        refine ok_some ⟨_, rfl, fun q hq' => ?_⟩
        by_cases cq : q = s
        · rw [cq, env]; intro he
          have := (hne.mpr he).2
          rw [eb] at this; cases this
        · exact hq q (by omega)
    · rw [if_neg c]
      simp only [f_X8_stateIn_9, nt_addl]
      refine ok_some ⟨_, rfl, fun q hq' => ?_⟩
      by_cases cq : q = s
      · rw [cq, env]; intro he
        exact c (hne.mpr he).1
      · exact hq q (by omega)
  · rintro t ⟨z, rfl, hq⟩
    simp (disch := omega) only [b_X8_stateIn_4, hN.1, nt_clamp, nt_le, nt_lt, nt_eq, lit_le, lit_lt, le_lit, lt_lit, eq_lit, lit_eq, nt_neg, nt_ge, nt_add, nt_mul, nt_addl, lit_add, nt_mull, lit_mul, nt_sub, nt_subl, lit_sub, nt_divl, nt_m1, nt_m2, nt_m1', nt_m2', if_pos, f_X8_stateIn_10, Option.map_some]
    refine ok_some ?_
    have : fnd tb N k = none := ff_none.mpr (fun q hq' => decide_eq_false (hq q hq'))
    show (_, _, _) = (_, _, _)
    rw [this]; rfl
