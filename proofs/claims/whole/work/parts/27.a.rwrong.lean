/-! what the lines mean to the reference -/
theorem nm_lt {l : Nat} {tb : Nat → Nat} (T : Tb l tb) {i : Nat} (h : kd tb i = 1) : nm tb i < 1000000000000000000 := by
  have hL := kd1_L h
  have hD : qD (tb i) = false := by
    cases e : qD (tb i) with
    | false => rfl
    | true =>
      have h1 := qL_le hL
      have h2 := qD_le e
      omega
  have hle : te tb i - i ≤ 8 := by
    unfold kd at h
    rw [if_neg (by rw [hD]; decide), if_pos hL] at h
    repeat' split at h
    all_goals omega
  have h1 := nvf_lt (f := fun k => tb (i + k)) (te tb i - i) (fun k hk => qL_le (te_L T hL hk))
  have h2 : 27 ^ (te tb i - i) ≤ 27 ^ 8 := Nat.pow_le_pow_right (by omega) hle
  have h3 : (27 : Nat) ^ 8 = 282429536481 := by decide
  show nvf (fun k => tb (i + k)) (te tb i - i) < 1000000000000000000
  omega
theorem st_mono (tb : Nat → Nat) {a b : Nat} (h : a ≤ b) : st tb a ≤ st tb b := by
  induction b with
  | zero => have : a = 0 := by omega
            subst this; exact Nat.le_refl _
  | succ b ih =>
    by_cases c : a = b + 1
    · rw [c]; exact Nat.le_refl _
    · exact Nat.le_trans (ih (by omega)) (Nat.le_of_lt (st_lt tb b))
def RW (w : Nat × Nat) (I : xI) : Prop := I 61 14 = nt w.1 ∧ w.1 ≤ 5 ∧ (¬ w.1 = 0 → I 61 15 = nt w.2 ∧ w.2 < 100000)
def Rm (l : Nat) (tb : Nat → Nat) (N : Nat) (I : xI) (J : xJ) : Prop := Wf l tb N ∧ TA l tb I J ∧ I 61 12 = 0 ∧ I 61 19 = nt (nS tb N) ∧ (∀ j i, (SLs tb N)[j]? = some i → J 69 j = jl (nm tb (st tb (i + 1)))) ∧ I 61 20 = nt (inp tb N)
def woReg (c j : Nat) : Prop := c = 61 ∧ (j = 14 ∨ j = 15)
theorem Rm_fr {l N : Nat} {tb : Nat → Nat} {I I' : xI} {J : xJ} (h : Rm l tb N I J) (hf : ∀ c j, ¬ c = 71 → ¬ woReg c j → I' c j = I c j) : Rm l tb N I' J := by
  obtain ⟨h1, h2, h3, h4, h5, h6⟩ := h
  exact ⟨h1, TA_fr h2 (fun c j hc => hf c j (by omega) (by unfold woReg; omega)) (fun _ => rfl), (hf 61 12 (by omega) (by unfold woReg; omega)).trans h3, (hf 61 19 (by omega) (by unfold woReg; omega)).trans h4, h5, (hf 61 20 (by omega) (by unfold woReg; omega)).trans h6⟩
theorem Rm_tok {l N k : Nat} {tb : Nat → Nat} {I : xI} {J : xJ} (h : Rm l tb N I J) (hk : k < N) : I 64 k = nt (rk (kk tb k)) ∧ I 65 k = nt (st tb k) ∧ (kk tb k = 2 → I 66 k = nt (vv tb k)) ∧ (kk tb k = 1 → J 67 k = jl (nm tb (st tb k))) := by
  have hW := h.1
  exact (h.2.1 k (by have := hW.2.1; omega) (fun j hj => (hW.2.2.2.1 j (by omega)).1)).1 (hW.2.2.2.1 k hk).1
theorem Rm_end {l N : Nat} {tb : Nat → Nat} {I : xI} {J : xJ} (h : Rm l tb N I J) : I 64 N = 0 := by
  have hW := h.1
  exact ((h.2.1 N hW.2.1 (fun j hj => (hW.2.2.2.1 j hj).1)).2 hW.2.2.2.2).1
theorem rwrong_ok {l N k a : Nat} {tb : Nat → Nat} {w : Nat × Nat} {I : xI} {J : xJ} (h : Rm l tb N I J) (hk : k < N) (hR : RW w I) (ho : ¬ w.1 = 0 → w.2 < st tb k ∨ (w.2 = st tb k ∧ w.1 = a)) (ha : a ≤ 5) (ha0 : ¬ a = 0) : Ok (f_X12_wrong (nt a) (nt k) I J) (fun o => o.2.2 = J ∧ RW (wup tb w (a, k)) o.2.1 ∧ ∀ c j, ¬ woReg c j → o.2.1 c j = I c j) := by
  have hW := h.1
  have h4 := hW.2.1
  have hl := hW.1.1
  have hst := (hW.2.2.2.1 k hk).1
  have h65 := (Rm_tok h hk).2.1
  have l00 : ((0 : Int32) < 0) = False := by decide
  obtain ⟨r1, r2, r3⟩ := hR
  have put : Ok (f_X12_wrong_6 (nt a) (nt k) (nt (st tb k)) I J) (fun o => o.2.2 = J ∧ RW (a, st tb k) o.2.1 ∧ ∀ c j, ¬ woReg c j → o.2.1 c j = I c j) := by
    unfold f_X12_wrong_6
    refine ok_some ⟨rfl, ⟨?_, ha, fun _ => ⟨(show xup (xup I 61 14 (nt a)) 61 15 (nt (st tb k)) 61 15 = nt (st tb k) from xup_at _ _ _ _), (show st tb k < 100000 from by omega)⟩⟩, ?_⟩
    · show xup (xup I 61 14 (nt a)) 61 15 (nt (st tb k)) 61 14 = nt a
      rw [xup_j _ _ _ _ (by omega), xup_at]
    · intro c j hc
      show xup (xup I 61 14 (nt a)) 61 15 (nt (st tb k)) c j = I c j
      unfold woReg at hc
      rw [xup_no _ _ _ _ (by omega), xup_no _ _ _ _ (by omega)]
  simp (disch := omega) only [f_X12_wrong, f_X12_wrong_0, nt_clamp, nt_le, nt_lt, nt_eq, lit_le, lit_lt, le_lit, lt_lit, eq_lit, lit_eq, nt_neg, nt_ge, nt_add, nt_mul, nt_addl, lit_add, nt_mull, lit_mul, nt_sub, nt_subl, lit_sub, nt_divl, nt_m1, nt_m2, nt_m1', nt_m2', false_or, if_neg, h65, h.2.2.1, l00, if_false, f_X12_wrong_1, r1]
  by_cases c0 : w.1 = 0
  · rw [if_pos c0, show wup tb w (a, k) = (a, st tb k) from if_pos ⟨c0, ha0⟩]
    exact put
  · rw [if_neg c0, show wup tb w (a, k) = w from if_neg (fun h => c0 h.1)]
    obtain ⟨r4, r5⟩ := r3 c0
    have same : Ok (f_X12_wrong_5 (nt a) (nt k) (nt (st tb k)) I J) (fun o => o.2.2 = J ∧ RW w o.2.1 ∧ ∀ c j, ¬ woReg c j → o.2.1 c j = I c j) := ok_some ⟨rfl, ⟨r1, r2, r3⟩, fun _ _ _ => rfl⟩
    simp (disch := omega) only [f_X12_wrong_2, r4, nt_clamp, nt_le, nt_lt, nt_eq, lit_le, lit_lt, le_lit, lt_lit, eq_lit, lit_eq, nt_neg, nt_ge, nt_add, nt_mul, nt_addl, lit_add, nt_mull, lit_mul, nt_sub, nt_subl, lit_sub, nt_divl, nt_m1, nt_m2, nt_m1', nt_m2']
    by_cases c1 : w.2 < st tb k
    · rw [if_pos c1]; exact same
    · rw [if_neg c1]
      have ⟨e1, e2⟩ : w.2 = st tb k ∧ w.1 = a := by
        rcases ho c0 with h | h
        · exact absurd h c1
        · exact h
      simp (disch := omega) only [f_X12_wrong_3, r4, nt_clamp, nt_le, nt_lt, nt_eq, lit_le, lit_lt, le_lit, lt_lit, eq_lit, lit_eq, nt_neg, nt_ge, nt_add, nt_mul, nt_addl, lit_add, nt_mull, lit_mul, nt_sub, nt_subl, lit_sub, nt_divl, nt_m1, nt_m2, nt_m1', nt_m2']
      rw [if_pos e1.symm]
      simp (disch := omega) only [f_X12_wrong_4, r1, nt_clamp, nt_le, nt_lt, nt_eq, lit_le, lit_lt, le_lit, lt_lit, eq_lit, lit_eq, nt_neg, nt_ge, nt_add, nt_mul, nt_addl, lit_add, nt_mull, lit_mul, nt_sub, nt_subl, lit_sub, nt_divl, nt_m1, nt_m2, nt_m1', nt_m2']
      rw [if_neg (by omega)]
      exact same
theorem rwrong_c {l N k a c : Nat} {tb : Nat → Nat} {w : Nat × Nat} {I : xI} {J : xJ} (h : Rm l tb N I J) (hk : k < N) (hR : RW w I) (ho : ¬ w.1 = 0 → w.2 < st tb k) (ha : a ≤ 5) (ha0 : ¬ a = 0) (hc : c = a) : Ok (f_X12_wrong (nt a) (nt k) I J) (fun o => o.2.2 = J ∧ RW (wup tb w (c, k)) o.2.1 ∧ ∀ c j, ¬ woReg c j → o.2.1 c j = I c j) := by
  subst hc; exact rwrong_ok h hk hR (fun h => Or.inl (ho h)) ha ha0
theorem wup_b {tb : Nat → Nat} {w : Nat × Nat} {k : Nat} (c : Nat) (h : ¬ w.1 = 0 → w.2 < st tb k) : ¬ (wup tb w (c, k)).1 = 0 → (wup tb w (c, k)).2 < st tb (k + 1) := by
  have := st_lt tb k
  unfold wup
  split
  · intro _; exact this
  · intro h1
    have := h h1; omega
theorem wup_0 (tb : Nat → Nat) (w : Nat × Nat) (k : Nat) : wup tb w (0, k) = w := if_neg (fun h => h.2 rfl)
theorem rnamed_ok {l N k : Nat} {tb : Nat → Nat} {w : Nat × Nat} {I : xI} {J : xJ} (h : Rm l tb N I J) (hk : k < N) (hd : kk tb k = 1) (hR : RW w I) (ho : ¬ w.1 = 0 → w.2 < st tb k) : Ok (f_X12_named (nt k) I J) (fun o => o.2.2 = J ∧ o.1 = nt ((fnd tb N k).getD 0) ∧ RW (wup tb w (if (fnd tb N k).isSome = true then 0 else 4, k)) o.2.1 ∧ ∀ c j, ¬ woReg c j → o.2.1 c j = I c j) := by
  have hW := h.1
  have h4 := hW.2.1
  have hn6 := Wf_nS hW (Nat.le_refl N)
  have e67 := (Rm_tok h hk).2.2.2 hd
  unfold f_X12_named f_X12_named_0 f_X12_named_1
  refine ok_loop (fun s t => t = (nt k, nt s, I, J) ∧ ∀ q, q < s → ¬ nmv tb N q = nm tb (st tb k)) (nS tb N) ?_ ?_ 5000 0 _ (by omega) (by omega) ⟨rfl, fun q hq => by omega⟩
  · rintro s hs t ⟨rfl, hq⟩
    obtain ⟨i, ei, ed⟩ := SL_at hs
    obtain ⟨hi1, hi2⟩ := SL_mem ei
    obtain ⟨hi3, hi4⟩ := Wf_name hW hi1 hi2
    have e69 := h.2.2.2.2.1 s i ei
    have env : nmv tb N s = nm tb (st tb (i + 1)) := by unfold nmv; rw [ed]
    simp (disch := omega) only [b_X12_named_1, h.2.2.2.1, nt_clamp, nt_le, nt_lt, nt_eq, lit_le, lit_lt, le_lit, lt_lit, eq_lit, lit_eq, nt_neg, nt_ge, nt_add, nt_mul, nt_addl, lit_add, nt_mull, lit_mul, nt_sub, nt_subl, lit_sub, nt_divl, nt_m1, nt_m2, nt_m1', nt_m2', if_neg, f_X12_named_2, false_or, e69, e67, lgc, jl_eq (nm_lt hW.1 hi4) (nm_lt hW.1 hd)]
    by_cases c : nm tb (st tb (i + 1)) = nm tb (st tb k)
    · rw [if_pos c]
      simp only [f_X12_named_3, Option.map_some]
      have e : fnd tb N k = some s := ff_some.mpr ⟨hs, decide_eq_true (by rw [env]; exact c), fun q hq' => decide_eq_false (hq q hq')⟩
      refine ok_some ?_
      rw [e]
      refine ⟨rfl, rfl, ?_, fun _ _ _ => rfl⟩
      rw [show (if (some s).isSome = true then 0 else 4) = 0 from rfl, wup_0]; exact hR
    · rw [if_neg c]
      simp only [f_X12_named_4, nt_addl]
      refine ok_some ⟨rfl, fun q hq' => ?_⟩
      by_cases cq : q = s
      · rw [cq, env]; exact c
      · exact hq q (by omega)
  · rintro t ⟨rfl, hq⟩
    have e : fnd tb N k = none := ff_none.mpr (fun q hq' => decide_eq_false (hq q hq'))
    simp (disch := omega) only [b_X12_named_1, h.2.2.2.1, nt_clamp, nt_le, nt_lt, nt_eq, lit_le, lit_lt, le_lit, lt_lit, eq_lit, lit_eq, nt_neg, nt_ge, nt_add, nt_mul, nt_addl, lit_add, nt_mull, lit_mul, nt_sub, nt_subl, lit_sub, nt_divl, nt_m1, nt_m2, nt_m1', nt_m2', if_pos, f_X12_named_5]
    apply ok_map
    apply ok_bind
    refine (rwrong_c h hk hR ho (a := 4) (c := if (fnd tb N k).isSome = true then 0 else 4) (by omega) (by omega) (by rw [e]; rfl)).imp ?_
    rintro ⟨_, I1, J1⟩ ⟨rfl, a1, a2⟩
    refine ok_some ⟨rfl, ?_, a1, a2⟩
    rw [e]; rfl
theorem rinx {v a b : Nat} {I : xI} {J : xJ} (hv : v < 100000) (ha : a < 100000) (hb : b < 100000) : f_X12_in (nt v) (nt a) (nt b) I J = some (bi (decide (a ≤ v ∧ v ≤ b)), I, J) := by
  simp (disch := omega) only [f_X12_in, f_X12_in_0, f_X12_in_1, f_X12_in_2, f_X12_in_3, f_X12_in_4, nt_clamp, nt_le, nt_lt, nt_eq, lit_le, lit_lt, le_lit, lt_lit, eq_lit, lit_eq, nt_neg, nt_ge, nt_add, nt_mul, nt_addl, lit_add, nt_mull, lit_mul, nt_sub, nt_subl, lit_sub, nt_divl, nt_m1, nt_m2, nt_m1', nt_m2']
  by_cases c1 : v < a
  · rw [if_pos c1, decide_eq_false (by omega)]; rfl
  · rw [if_neg c1]
    by_cases c2 : b < v
    · rw [if_pos c2, decide_eq_false (by omega)]; rfl
    · rw [if_neg c2, decide_eq_true (by omega)]; rfl
theorem rbound_ok {l N k a b c : Nat} {tb : Nat → Nat} {w : Nat × Nat} {I : xI} {J : xJ} (h : Rm l tb N I J) (hk : k < N) (hd : kk tb k = 2) (hR : RW w I) (ho : ¬ w.1 = 0 → w.2 < st tb k) (ha : a < 10) (hb : b < 10) (hc : c = if a ≤ vv tb k ∧ vv tb k ≤ b then 0 else 5) : Ok (f_X12_bounded (nt k) (nt a) (nt b) I J) (fun o => o.2.2 = J ∧ o.1 = nt (if a ≤ vv tb k ∧ vv tb k ≤ b then vv tb k else a) ∧ RW (wup tb w (c, k)) o.2.1 ∧ ∀ c j, ¬ woReg c j → o.2.1 c j = I c j) := by
  have hW := h.1
  have h4 := hW.2.1
  have hv : vv tb k < 10000 := tvl_lt hW.1 hd
  have e66 := (Rm_tok h hk).2.2.1 hd
  simp (disch := omega) only [f_X12_bounded, f_X12_bounded_0, nt_clamp, nt_le, nt_lt, nt_eq, lit_le, lit_lt, le_lit, lt_lit, eq_lit, lit_eq, nt_neg, nt_ge, nt_add, nt_mul, nt_addl, lit_add, nt_mull, lit_mul, nt_sub, nt_subl, lit_sub, nt_divl, nt_m1, nt_m2, nt_m1', nt_m2', false_or, if_neg, e66, rinx, Option.bind_some, f_X12_bounded_1, bi_0]
  by_cases ci : a ≤ vv tb k ∧ vv tb k ≤ b
  · rw [if_pos ci] at hc
    rw [decide_eq_true ci, if_neg (by decide), if_pos ci, hc, wup_0]
    simp (disch := omega) only [f_X12_bounded_2, nt_clamp, nt_le, nt_lt, nt_eq, lit_le, lit_lt, le_lit, lt_lit, eq_lit, lit_eq, nt_neg, nt_ge, nt_add, nt_mul, nt_addl, lit_add, nt_mull, lit_mul, nt_sub, nt_subl, lit_sub, nt_divl, nt_m1, nt_m2, nt_m1', nt_m2', false_or, if_neg, e66]
    exact ok_some ⟨rfl, rfl, hR, fun _ _ _ => rfl⟩
  · rw [if_neg ci] at hc
    rw [decide_eq_false ci, if_pos rfl, if_neg ci]
    unfold f_X12_bounded_3
    apply ok_bind
    refine (rwrong_c h hk hR ho (a := 5) (c := c) (by omega) (by omega) hc).imp ?_
    rintro ⟨_, I1, J1⟩ ⟨rfl, a1, a2⟩
    exact ok_some ⟨rfl, rfl, a1, a2⟩
def fMa (w : aT) (c : Nat → Int32) : Prop := (∀ s x, s < 6 → x < 4 → c (4 * s + x) = ov (w.1 s x)) ∧ (∀ s x, s < 6 → x < 4 → c (24 + (4 * s + x)) = ov (w.2.1 s x)) ∧ ∀ s, s < 6 → c (48 + s) = nt (w.2.2 s)
theorem fMa_set {w : aT} {c c' : Nat → Int32} (h : fMa w c) {s x : Nat} (hs : s < 6) (hx : x < 4) {t a : Option Nat} (hc : ∀ j, c' j = if j = 24 + (4 * s + x) then ov a else if j = 4 * s + x then ov t else c j) : fMa (aset w s x t a) c' := by
  obtain ⟨h1, h2, h3⟩ := h
  refine ⟨?_, ?_, ?_⟩
  · intro s' x' hs' hx'
    rw [hc, if_neg (by omega)]
    show _ = ov (if s' = s ∧ x' = x then t else w.1 s' x')
    by_cases c : s' = s ∧ x' = x
    · rw [if_pos c, if_pos (by omega)]
    · rw [if_neg c, if_neg (by omega)]; exact h1 s' x' hs' hx'
  · intro s' x' hs' hx'
    rw [hc]
    show _ = ov (if s' = s ∧ x' = x then a else w.2.1 s' x')
    by_cases c : s' = s ∧ x' = x
    · rw [if_pos c, if_pos (by omega)]
    · rw [if_neg c, if_neg (by omega), if_neg (by omega)]; exact h2 s' x' hs' hx'
  · intro s' hs'
    rw [hc, if_neg (by omega), if_neg (by omega)]; exact h3 s' hs'
theorem fMa_code {w : aT} {c c' : Nat → Int32} (h : fMa w c) {s k : Nat} (hs : s < 6) (hc : ∀ j, c' j = if j = 48 + s then nt k else c j) : fMa (acode w s k) c' := by
  obtain ⟨h1, h2, h3⟩ := h
  refine ⟨?_, ?_, ?_⟩
  · intro s' x' hs' hx'
    rw [hc, if_neg (by omega)]; exact h1 s' x' hs' hx'
  · intro s' x' hs' hx'
    rw [hc, if_neg (by omega)]; exact h2 s' x' hs' hx'
  · intro s' hs'
    rw [hc]
    show _ = nt (if s' = s then k else w.2.2 s')
    by_cases c : s' = s
    · rw [if_pos c, if_pos (by omega)]
    · rw [if_neg c, if_neg (by omega)]; exact h3 s' hs'
/-- faults lie before every line that is still to come -/
def WB (tb : Nat → Nat) (k : Nat) (w : Nat × Nat) : Prop := ∀ t, k ≤ t → due tb t = false → ¬ w.1 = 0 → w.2 < st tb t
theorem WB_line {l N k : Nat} {tb : Nat → Nat} {w : Nat × Nat} (h : Wf l tb N) (hk : k < N) (hd : due tb k = false) (hw : ¬ w.1 = 0 → w.2 < st tb (k + 1 + (shp (kk tb k)).length)) : WB tb (k + 1) w := by
  intro t ht hdt h0
  have ha := aq_beg hd
  rcases Nat.lt_or_ge t (k + 1 + (shp (kk tb k)).length) with c | c
  · exfalso
    have e := aq_line ha (t - (k + 1)) (by show _ ≤ (shp (kk tb k)).length; omega)
    rw [show k + 1 + (t - (k + 1)) = t from by omega] at e
    have : due tb t = true := by
      unfold due; rw [e]
      refine decide_eq_true ?_
      show t - (k + 1) < (shp (kk tb k)).length
      omega
    rw [hdt] at this; cases this
  · exact Nat.lt_of_lt_of_le (hw h0) (st_mono tb c)
