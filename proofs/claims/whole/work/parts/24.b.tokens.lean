/-! tokens -/
def nvf (f : Nat → Nat) : Nat → Nat
  | 0 => 0
  | k + 1 => 27 * nvf f k + (f k - 96)
theorem nvf_s (f : Nat → Nat) (k : Nat) : nvf f (k + 1) = 27 * nvf f k + (f k - 96) := rfl
theorem nvf_inj {f g : Nat → Nat} : ∀ a b, (∀ k, k < a → 97 ≤ f k ∧ f k ≤ 122) → (∀ k, k < b → 97 ≤ g k ∧ g k ≤ 122) → nvf f a = nvf g b → a = b ∧ ∀ k, k < a → f k = g k := by
  intro a
  induction a with
  | zero =>
    intro b hf hg h
    cases b with
    | zero => exact ⟨rfl, fun k hk => by omega⟩
    | succ b =>
      rw [nvf_s] at h
      have := hg b (by omega)
      have h0 : nvf f 0 = 0 := rfl
      omega
  | succ a ih =>
    intro b hf hg h
    have h1 := hf a (by omega)
    rw [nvf_s] at h
    cases b with
    | zero =>
      have h0 : nvf g 0 = 0 := rfl
      omega
    | succ b =>
      have h2 := hg b (by omega)
      rw [nvf_s] at h
      obtain ⟨e, hh⟩ := ih b (fun k hk => hf k (by omega)) (fun k hk => hg k (by omega)) (by omega)
      subst e
      refine ⟨rfl, fun k hk => ?_⟩
      by_cases c : k = a
      · rw [c]; omega
      · exact hh k (by omega)
theorem nvf_ext {f g : Nat → Nat} : ∀ a, (∀ k, k < a → f k = g k) → nvf f a = nvf g a := by
  intro a
  induction a with
  | zero => intro _; rfl
  | succ a ih => intro h; rw [nvf_s, nvf_s, ih (fun k hk => h k (by omega)), h a (by omega)]
theorem says_ok {l : Nat} {tb : Nat → Nat} {I : xI} {J : xJ} (h : Tp l tb I) {i s w b : Nat} {g : Nat → Nat} (hi : i + s ≤ l) (hL : ∀ k, k < s → qL (tb (i + k)) = true) (hz : zok w) (hb : zlen w = b) (hb9 : b < 9) (hg : ∀ k, k < b → zchr w k = nt (g k) ∧ 97 ≤ g k ∧ g k ≤ 122) : f_X9_says (nt i) (nt s) w I J = some (bi (decide (nvf (fun k => tb (i + k)) s = nvf g b)), I, J) := by
  have hl := h.1.1
  have hz' : ¬ ¬ zok w := fun h => h hz
  have hz2 : (¬ zok w) = False := eq_false hz'
  simp only [f_X9_says, f_X9_says_0, if_neg hz', f_X9_says_1, hb]
  by_cases c : s = b
  · rw [if_pos (by rw [c]; rfl)]
    apply Ok.eq
    unfold f_X9_says_3 f_X9_says_4
    refine ok_loop (fun k t => t = (nt i, nt s, w, nt k, I, J) ∧ ∀ j, j < k → tb (i + j) = g j) s ?_ ?_ 5000 0 _ (by omega) (by omega) ⟨rfl, fun j hj => by omega⟩
    · rintro k hk t ⟨rfl, hj⟩
      have hgk := hg k (by omega)
      simp (disch := omega) only [b_X9_says_4, f_X9_says_5, nt_add, byteAt_ok h (show i + k < 100000 from by omega), Option.bind_some, f_X9_says_6, hz2, if_false, nt_clamp, nt_le, nt_lt, nt_eq, lit_le, lit_lt, le_lit, lt_lit, eq_lit, lit_eq, nt_neg, nt_ge, nt_add, nt_mul, nt_addl, lit_add, nt_mull, lit_mul, nt_sub, nt_subl, lit_sub, nt_divl, nt_m1, nt_m2, nt_m1', nt_m2', if_neg, false_or, hb, hgk.1, f_X9_says_7, by_eq _ (h.1.2.1 (i + k)) (g k) (by omega)]
      by_cases c2 : tb (i + k) = g k
      · rw [if_pos c2]
        simp only [f_X9_says_9, nt_addl]
        refine ok_some ⟨rfl, fun j hj' => ?_⟩
        by_cases c3 : j = k
        · rw [c3]; exact c2
        · exact hj j (by omega)
      · rw [if_neg c2]
        simp only [f_X9_says_8, Option.map_some]
        refine ok_some ?_
        show (_, _, _) = (_, _, _)
        rw [decide_eq_false]
        · rfl
        · intro he
          exact c2 ((nvf_inj s b (fun k hk => qL_le (hL k hk)) (fun k hk => (hg k hk).2) he).2 k hk)
    · rintro t ⟨rfl, hj⟩
      simp (disch := omega) only [b_X9_says_4, f_X9_says_10, nt_clamp, nt_le, nt_lt, nt_eq, lit_le, lit_lt, le_lit, lt_lit, eq_lit, lit_eq, nt_neg, nt_ge, nt_add, nt_mul, nt_addl, lit_add, nt_mull, lit_mul, nt_sub, nt_subl, lit_sub, nt_divl, nt_m1, nt_m2, nt_m1', nt_m2', if_pos, Option.map_some]
      refine ok_some ?_
      show (_, _, _) = (_, _, _)
      rw [decide_eq_true]
      · rfl
      · rw [← c]; exact nvf_ext s hj
  · rw [if_neg (by show ¬ nt s = nt b; rw [nt_eq (by omega) (by omega)]; exact c)]
    rw [decide_eq_false]
    · rfl
    · intro he
      exact c (nvf_inj s b (fun k hk => qL_le (hL k hk)) (fun k hk => (hg k hk).2) he).1
def kwS : List Nat := [115, 116, 97, 116, 101]
def kwI : List Nat := [105, 110, 112, 117, 116, 115]
def kwM : List Nat := [109, 111, 118, 101]
def kwC : List Nat := [99, 111, 100, 101]
def kwO : List Nat := [111, 112, 101, 110]
def key (w : List Nat) : Nat := nvf (fun k => w.getD k 0) w.length
def nm (tb : Nat → Nat) (i : Nat) : Nat := nvf (fun k => tb (i + k)) (te tb i - i)
/-- the kind of the token at i -/
def kd (tb : Nat → Nat) (i : Nat) : Nat := if qD (tb i) = true then (if te tb i - i ≤ 4 then 2 else 0) else if qL (tb i) = true then (if nm tb i = key kwS then 4 else if nm tb i = key kwI then 5 else if nm tb i = key kwM then 6 else if nm tb i = key kwC then 7 else if nm tb i = key kwO then 8 else if te tb i - i ≤ 8 then 1 else 0) else if tb i = 59 then 3 else 0
theorem kd_lt (tb : Nat → Nat) (i : Nat) : kd tb i < 9 := by
  unfold kd
  repeat' split
  all_goals omega
theorem te_L {l : Nat} {tb : Nat → Nat} (T : Tb l tb) {i : Nat} (h : qL (tb i) = true) {k : Nat} (hk : k < te tb i - i) : qL (tb (i + k)) = true := by
  have ee : te tb i = en tb qL (i + 1) := if_pos h
  by_cases c : k = 0
  · rw [c]; exact h
  · exact en_run (i := i + 1) (by omega) (by omega)
theorem te_D {l : Nat} {tb : Nat → Nat} (T : Tb l tb) {i : Nat} (h : qD (tb i) = true) {k : Nat} (hk : k < te tb i - i) : qD (tb (i + k)) = true := by
  have hL : qL (tb i) = false := by
    have := qD_le h
    unfold qL; rw [decide_eq_false (by omega)]; rfl
  have ee : te tb i = en tb qD (i + 1) := by unfold te; rw [hL, h]; rfl
  by_cases c : k = 0
  · rw [c]; exact h
  · exact en_run (i := i + 1) (by omega) (by omega)
theorem kindOf_ok {l : Nat} {tb : Nat → Nat} {I : xI} {J : xJ} (h : Tp l tb I) {i : Nat} (hi : i < l) : f_X10_kindOf (nt i) (nt (te tb i - i)) I J = some (nt (kd tb i), I, J) := by
  have hl := h.1.1
  have h1 := te_gt tb i
  have h2 := te_le h.1 hi
  simp (disch := omega) only [f_X10_kindOf, f_X10_kindOf_0, f_X10_kindOf_1, cisD_ok h (show i < 100000 from by omega), Option.bind_some, bi_0]
  unfold kd
  cases eD : qD (tb i) with
  | true =>
    rw [if_neg (by decide), if_pos rfl]
    simp (disch := omega) only [f_X10_kindOf_2, f_X10_kindOf_3, f_X10_kindOf_4, f_X10_kindOf_5, nt_clamp, nt_le, nt_lt, nt_eq, lit_le, lit_lt, le_lit, lt_lit, eq_lit, lit_eq, nt_neg, nt_ge, nt_add, nt_mul, nt_addl, lit_add, nt_mull, lit_mul, nt_sub, nt_subl, lit_sub, nt_divl, nt_m1, nt_m2, nt_m1', nt_m2']
    by_cases c : te tb i - i ≤ 4
    · rw [if_neg (by omega), if_pos c]; rfl
    · rw [if_pos (by omega), if_neg c]; rfl
  | false =>
    rw [if_pos rfl, if_neg (by decide)]
    simp (disch := omega) only [f_X10_kindOf_6, f_X10_kindOf_7, cisL_ok h (show i < 100000 from by omega), Option.bind_some, bi_0]
    cases eL : qL (tb i) with
    | false =>
      rw [if_pos rfl, if_neg (by decide)]
      simp (disch := omega) only [f_X10_kindOf_8, f_X10_kindOf_9, f_X10_kindOf_10, f_X10_kindOf_11, f_X10_kindOf_12, byteAt_ok h (show i < 100000 from by omega), Option.bind_some, by_e59 _ (h.1.2.1 i)]
      by_cases c : tb i = 59
      · rw [if_pos c, if_pos c]; rfl
      · rw [if_neg c, if_neg c]; rfl
    | true =>
      rw [if_neg (by decide), if_pos rfl]
      have hL : ∀ k, k < te tb i - i → qL (tb (i + k)) = true := fun k hk => te_L h.1 eL hk
      have s1 := says_ok (J := J) h (i := i) (s := te tb i - i) (w := 2001) (b := 5) (g := fun k => kwS.getD k 0) (by omega) hL (by decide) rfl (by omega) (by decide)
      have s2 := says_ok (J := J) h (i := i) (s := te tb i - i) (w := 2002) (b := 6) (g := fun k => kwI.getD k 0) (by omega) hL (by decide) rfl (by omega) (by decide)
      have s3 := says_ok (J := J) h (i := i) (s := te tb i - i) (w := 2003) (b := 4) (g := fun k => kwM.getD k 0) (by omega) hL (by decide) rfl (by omega) (by decide)
      have s4 := says_ok (J := J) h (i := i) (s := te tb i - i) (w := 2004) (b := 4) (g := fun k => kwC.getD k 0) (by omega) hL (by decide) rfl (by omega) (by decide)
      have s5 := says_ok (J := J) h (i := i) (s := te tb i - i) (w := 2005) (b := 4) (g := fun k => kwO.getD k 0) (by omega) hL (by decide) rfl (by omega) (by decide)
      rw [show nvf (fun k => tb (i + k)) (te tb i - i) = nm tb i from rfl] at s1 s2 s3 s4 s5
      rw [show nvf (fun k => kwS.getD k 0) 5 = key kwS from rfl] at s1
      rw [show nvf (fun k => kwI.getD k 0) 6 = key kwI from rfl] at s2
      rw [show nvf (fun k => kwM.getD k 0) 4 = key kwM from rfl] at s3
      rw [show nvf (fun k => kwC.getD k 0) 4 = key kwC from rfl] at s4
      rw [show nvf (fun k => kwO.getD k 0) 4 = key kwO from rfl] at s5
      simp only [f_X10_kindOf_13, s1, Option.bind_some, f_X10_kindOf_14, bi_0]
      by_cases c1 : nm tb i = key kwS
      · rw [decide_eq_true c1, if_pos c1, if_neg (by decide)]; rfl
      rw [decide_eq_false c1, if_neg c1, if_pos rfl]
      simp only [f_X10_kindOf_16, s2, Option.bind_some, f_X10_kindOf_17, bi_0]
      by_cases c2 : nm tb i = key kwI
      · rw [decide_eq_true c2, if_pos c2, if_neg (by decide)]; rfl
      rw [decide_eq_false c2, if_neg c2, if_pos rfl]
      simp only [f_X10_kindOf_19, s3, Option.bind_some, f_X10_kindOf_20, bi_0]
      by_cases c3 : nm tb i = key kwM
      · rw [decide_eq_true c3, if_pos c3, if_neg (by decide)]; rfl
      rw [decide_eq_false c3, if_neg c3, if_pos rfl]
      simp only [f_X10_kindOf_22, s4, Option.bind_some, f_X10_kindOf_23, bi_0]
      by_cases c4 : nm tb i = key kwC
      · rw [decide_eq_true c4, if_pos c4, if_neg (by decide)]; rfl
      rw [decide_eq_false c4, if_neg c4, if_pos rfl]
      simp only [f_X10_kindOf_25, s5, Option.bind_some, f_X10_kindOf_26, bi_0]
      by_cases c5 : nm tb i = key kwO
      · rw [decide_eq_true c5, if_pos c5, if_neg (by decide)]; rfl
      rw [decide_eq_false c5, if_neg c5, if_pos rfl]
      simp (disch := omega) only [f_X10_kindOf_28, f_X10_kindOf_29, f_X10_kindOf_30, f_X10_kindOf_31, nt_clamp, nt_le, nt_lt, nt_eq, lit_le, lit_lt, le_lit, lt_lit, eq_lit, lit_eq, nt_neg, nt_ge, nt_add, nt_mul, nt_addl, lit_add, nt_mull, lit_mul, nt_sub, nt_subl, lit_sub, nt_divl, nt_m1, nt_m2, nt_m1', nt_m2']
      by_cases c6 : te tb i - i ≤ 8
      · rw [if_neg (by omega), if_pos c6]; rfl
      · rw [if_pos (by omega), if_neg c6]; rfl
/-- what a line wants -/
def shp (k : Nat) : List Nat := if k = 4 then [110, 59] else if k = 5 then [105, 59] else if k = 6 then [110, 105, 116, 97, 59] else if k = 7 then [110, 105, 59] else []
def wsh (k : Nat) : Nat := if k = 4 then 2006 else if k = 5 then 2007 else if k = 6 then 2008 else if k = 7 then 2009 else 2000
theorem wsh_ok : ∀ k, k < 9 → zok (wsh k) ∧ zlen (wsh k) = (shp k).length ∧ (shp k).length < 6 ∧ ∀ j, j < (shp k).length → zchr (wsh k) j = nt ((shp k).getD j 0) := by decide
theorem shapeOf_ok {I : xI} {J : xJ} : ∀ k, k < 9 → f_X10_shapeOf (nt k) I J = some (wsh k, I, J) := by
  intro k hk
  simp (disch := omega) only [f_X10_shapeOf, f_X10_shapeOf_0, f_X10_shapeOf_1, f_X10_shapeOf_2, f_X10_shapeOf_3, f_X10_shapeOf_4, f_X10_shapeOf_5, f_X10_shapeOf_6, nt_clamp, nt_le, nt_lt, nt_eq, lit_le, lit_lt, le_lit, lt_lit, eq_lit, lit_eq, nt_neg, nt_ge, nt_add, nt_mul, nt_addl, lit_add, nt_mull, lit_mul, nt_sub, nt_subl, lit_sub, nt_divl, nt_m1, nt_m2, nt_m1', nt_m2']
  unfold wsh
  repeat' split
  all_goals rfl
def fitb (d k : Nat) : Bool := if d = 110 ∨ d = 116 then decide (k = 1) || (decide (d = 116) && decide (k = 8)) else if d = 105 ∨ d = 97 then decide (k = 2) || (decide (d = 97) && decide (k = 8)) else decide (k = 3)
theorem fits_ok {d k : Nat} {I : xI} {J : xJ} (hd : d < 128) (hk : k < 9) : f_X10_fits (nt d) (nt k) I J = some (bi (fitb d k), I, J) := by
  simp (disch := omega) only [f_X10_fits_7, f_X10_fits_5, f_X10_fits_6, f_X10_fits_4, f_X10_fits_3, f_X10_fits_2, f_X10_fits_15, f_X10_fits_13, f_X10_fits_14, f_X10_fits_12, f_X10_fits_11, f_X10_fits_10, f_X10_fits_19, f_X10_fits_18, f_X10_fits_17, f_X10_fits_16, f_X10_fits_9, f_X10_fits_8, f_X10_fits_1, f_X10_fits_0, f_X10_fits, nt_clamp, nt_le, nt_lt, nt_eq, lit_le, lit_lt, le_lit, lt_lit, eq_lit, lit_eq, nt_neg, nt_ge, nt_add, nt_mul, nt_addl, lit_add, nt_mull, lit_mul, nt_sub, nt_subl, lit_sub, nt_divl, nt_m1, nt_m2, nt_m1', nt_m2']
  unfold fitb
  by_cases c1 : d = 110
  · subst c1
    by_cases k1 : k = 1
    · subst k1; rfl
    · simp [k1]; rfl
  by_cases c2 : d = 116
  · subst c2
    by_cases k1 : k = 1
    · subst k1; rfl
    · by_cases k8 : k = 8
      · subst k8; rfl
      · simp [k1, k8]; rfl
  by_cases c3 : d = 105
  · subst c3
    by_cases k1 : k = 2
    · subst k1; rfl
    · simp [k1]; rfl
  by_cases c4 : d = 97
  · subst c4
    by_cases k1 : k = 2
    · subst k1; rfl
    · by_cases k8 : k = 8
      · subst k8; rfl
      · simp [k1, k8]; rfl
  by_cases k1 : k = 3
  · subst k1; simp [c1, c2, c3, c4]; rfl
  · simp [c1, c2, c3, c4, k1]; rfl
