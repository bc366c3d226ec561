/-! the tape as letters; the class's tape -/
def qB (c : Nat) : Bool := decide (c = 9) || decide (c = 10) || decide (c = 13) || decide (c = 32)
def qL (c : Nat) : Bool := decide (97 ≤ c) && decide (c ≤ 122)
def qD (c : Nat) : Bool := decide (48 ≤ c) && decide (c ≤ 57)
theorem by_l : ∀ c, c < 256 → (byt (nt c) < 97 ∧ qL c = false) ∨ (¬ byt (nt c) < 97 ∧ 122 < byt (nt c) ∧ qL c = false) ∨ (¬ byt (nt c) < 97 ∧ ¬ 122 < byt (nt c) ∧ qL c = true) := by decide +kernel
theorem by_d : ∀ c, c < 256 → (byt (nt c) < 48 ∧ qD c = false) ∨ (¬ byt (nt c) < 48 ∧ 57 < byt (nt c) ∧ qD c = false) ∨ (¬ byt (nt c) < 48 ∧ ¬ 57 < byt (nt c) ∧ qD c = true) := by decide +kernel
theorem by_and : ∀ c, c < 256 → byt (nt c) &&& 255 = nt c := by decide +kernel
theorem by_lo : ∀ c, c < 128 → byt (nt c) = nt c := by decide +kernel
theorem by_ii {c d : Nat} (hc : c < 256) (hd : d < 256) : (byt (nt c) = byt (nt d)) = (c = d) := by
  refine propext ⟨fun h => ?_, fun h => by rw [h]⟩
  have e : byt (nt c) &&& 255 = byt (nt d) &&& 255 := by rw [h]
  rw [by_and c hc, by_and d hd, nt_eq (by omega) (by omega)] at e
  exact e
theorem by_eq : ∀ c, c < 256 → ∀ d, d < 128 → (byt (nt c) = nt d) = (c = d) := fun c hc d hd => by
  rw [← by_lo d hd, by_ii hc (by omega)]
theorem qL_le {c : Nat} (h : qL c = true) : 97 ≤ c ∧ c ≤ 122 := by
  unfold qL at h
  rw [Bool.and_eq_true, decide_eq_true_eq, decide_eq_true_eq] at h
  exact h
theorem qD_le {c : Nat} (h : qD c = true) : 48 ≤ c ∧ c ≤ 57 := by
  unfold qD at h
  rw [Bool.and_eq_true, decide_eq_true_eq, decide_eq_true_eq] at h
  exact h
/-- the end of a run -/
def qe (tb : Nat → Nat) (p : Nat → Bool) : Nat → Nat → Nat
  | 0, i => i
  | f + 1, i => if p (tb i) = true then qe tb p f (i + 1) else i
theorem qe_ge (tb : Nat → Nat) (p : Nat → Bool) : ∀ f i, i ≤ qe tb p f i := by
  intro f
  induction f with
  | zero => intro i; exact Nat.le_refl _
  | succ f ih =>
    intro i
    show i ≤ if p (tb i) = true then qe tb p f (i + 1) else i
    split
    · have := ih (i + 1); omega
    · exact Nat.le_refl _
theorem qe_run {tb : Nat → Nat} {p : Nat → Bool} : ∀ f i j, i ≤ j → j < qe tb p f i → p (tb j) = true := by
  intro f
  induction f with
  | zero => intro i j h1 h2; have : j < i := h2; omega
  | succ f ih =>
    intro i j h1 h2
    have h3 : j < if p (tb i) = true then qe tb p f (i + 1) else i := h2
    split at h3
    · rename_i hp
      by_cases c : i = j
      · rw [← c]; exact hp
      · exact ih (i + 1) j (by omega) h3
    · omega
theorem qe_stop {tb : Nat → Nat} {p : Nat → Bool} {l : Nat} (h0 : ∀ k, l ≤ k → p (tb k) = false) : ∀ f i, l ≤ i + f → p (tb (qe tb p f i)) = false := by
  intro f
  induction f with
  | zero => intro i h; exact h0 i (by omega)
  | succ f ih =>
    intro i h
    show p (tb (if p (tb i) = true then qe tb p f (i + 1) else i)) = false
    cases e : p (tb i) with
    | true => rw [if_pos rfl]; exact ih (i + 1) (by omega)
    | false => rw [if_neg (by decide)]; exact e
theorem qe_uniq {tb : Nat → Nat} {p : Nat → Bool} {i e e' : Nat} (h1 : i ≤ e) (h2 : ∀ j, i ≤ j → j < e → p (tb j) = true) (h3 : p (tb e) = false) (g1 : i ≤ e') (g2 : ∀ j, i ≤ j → j < e' → p (tb j) = true) (g3 : p (tb e') = false) : e = e' := by
  rcases Nat.lt_trichotomy e e' with c | c | c
  · have := g2 e h1 c; rw [h3] at this; cases this
  · exact c
  · have := h2 e' g1 c; rw [g3] at this; cases this
/-- a tape of l bytes, none behind them -/
def Tb (l : Nat) (tb : Nat → Nat) : Prop := l ≤ 2000 ∧ (∀ k, tb k < 256) ∧ ∀ k, l ≤ k → tb k = 0
def en (tb : Nat → Nat) (p : Nat → Bool) (i : Nat) : Nat := qe tb p 2001 i
theorem en_ge (tb : Nat → Nat) (p : Nat → Bool) (i : Nat) : i ≤ en tb p i := qe_ge tb p _ i
theorem en_run {tb : Nat → Nat} {p : Nat → Bool} {i j : Nat} (h1 : i ≤ j) (h2 : j < en tb p i) : p (tb j) = true := qe_run _ i j h1 h2
theorem en_stop {l : Nat} {tb : Nat → Nat} {p : Nat → Bool} (T : Tb l tb) (hp : p 0 = false) (i : Nat) : p (tb (en tb p i)) = false := qe_stop (l := l) (fun k hk => by rw [T.2.2 k hk]; exact hp) _ i (by have := T.1; omega)
theorem en_le {l : Nat} {tb : Nat → Nat} {p : Nat → Bool} (T : Tb l tb) (hp : p 0 = false) {i : Nat} (hi : i ≤ l) : en tb p i ≤ l := by
  rcases Nat.lt_or_ge l (en tb p i) with c | c
  · have := en_run (tb := tb) (p := p) hi c
    rw [T.2.2 l (Nat.le_refl _), hp] at this; cases this
  · exact c
theorem en_next {l : Nat} {tb : Nat → Nat} {p : Nat → Bool} (T : Tb l tb) (hp : p 0 = false) {i : Nat} (h : p (tb i) = true) : en tb p (i + 1) = en tb p i := by
  refine qe_uniq (tb := tb) (p := p) (i := i) (by have := en_ge tb p (i + 1); omega) ?_ (en_stop T hp _) (en_ge _ _ _) (fun j h1 h2 => en_run h1 h2) (en_stop T hp _)
  intro j h1 h2
  by_cases c : j = i
  · rw [c]; exact h
  · exact en_run (i := i + 1) (by omega) h2
theorem en_same {l : Nat} {tb : Nat → Nat} {p : Nat → Bool} (T : Tb l tb) (hp : p 0 = false) {i : Nat} (h : p (tb i) = false) : en tb p i = i :=
  qe_uniq (tb := tb) (p := p) (i := i) (en_ge _ _ _) (fun j h1 h2 => en_run h1 h2) (en_stop T hp _) (Nat.le_refl _) (fun j h1 h2 => by omega) h
/-- the end of the token at i -/
def te (tb : Nat → Nat) (i : Nat) : Nat := if qL (tb i) = true then en tb qL (i + 1) else if qD (tb i) = true then en tb qD (i + 1) else i + 1
theorem te_gt (tb : Nat → Nat) (i : Nat) : i < te tb i := by
  unfold te
  have h1 := en_ge tb qL (i + 1)
  have h2 := en_ge tb qD (i + 1)
  split
  · omega
  · split <;> omega
theorem te_le {l : Nat} {tb : Nat → Nat} (T : Tb l tb) {i : Nat} (hi : i < l) : te tb i ≤ l := by
  unfold te
  have h1 := en_le T (p := qL) rfl (i := i + 1) (by omega)
  have h2 := en_le T (p := qD) rfl (i := i + 1) (by omega)
  split
  · exact h1
  · split <;> omega
/-- the class's tape -/
def Tp (l : Nat) (tb : Nat → Nat) (I : xI) : Prop := Tb l tb ∧ I 24 1 = nt l ∧ ∀ k, k < l → I 25 k = byt (nt (tb k))
theorem byt0 : byt (nt 0) = 0 := by decide
theorem byteAt_ok {l : Nat} {tb : Nat → Nat} {I : xI} {J : xJ} (h : Tp l tb I) {k : Nat} (hk : k < 100000) : f_X9_byteAt (nt k) I J = some (byt (nt (tb k)), I, J) := by
  have hl := h.1.1
  by_cases c : k < l
  · simp (disch := omega) only [f_X9_byteAt, f_X9_byteAt_0, f_X9_byteAt_1, f_X9_byteAt_2, f_X9_byteAt_3, f_X9_byteAt_5, h.2.1, nt_clamp, nt_le, nt_lt, nt_eq, lit_le, lit_lt, le_lit, lt_lit, eq_lit, lit_eq, nt_neg, nt_ge, nt_add, nt_mul, nt_addl, lit_add, nt_mull, lit_mul, nt_sub, nt_subl, lit_sub, nt_divl, nt_m1, nt_m2, nt_m1', nt_m2', if_true, if_false, if_pos, if_neg, e01, e10, em12, em21, e0m1, e0m2, e1m1, e1m2, em10, em20, Int32.reduceLT, Int32.reduceLE, eq_self, Option.bind_some, Option.map_some, false_or, or_false, or_self, true_or, or_true, not_true_eq_false, not_false_eq_true, false_and, and_false, true_and, and_true, h.2.2 k c]
  · rw [h.1.2.2 k (by omega), byt0]
    simp (disch := omega) only [f_X9_byteAt, f_X9_byteAt_0, f_X9_byteAt_1, f_X9_byteAt_4, f_X9_byteAt_5, h.2.1, nt_clamp, nt_le, nt_lt, nt_eq, lit_le, lit_lt, le_lit, lt_lit, eq_lit, lit_eq, nt_neg, nt_ge, nt_add, nt_mul, nt_addl, lit_add, nt_mull, lit_mul, nt_sub, nt_subl, lit_sub, nt_divl, nt_m1, nt_m2, nt_m1', nt_m2', if_true, if_false, if_pos, if_neg, e01, e10, em12, em21, e0m1, e0m2, e1m1, e1m2, em10, em20, Int32.reduceLT, Int32.reduceLE, eq_self, Option.bind_some, Option.map_some, false_or, or_false, or_self, true_or, or_true, not_true_eq_false, not_false_eq_true, false_and, and_false, true_and, and_true]
theorem cisL_ok {l : Nat} {tb : Nat → Nat} {I : xI} {J : xJ} (h : Tp l tb I) {k : Nat} (hk : k < 100000) : f_X9_isLetter (nt k) I J = some (bi (qL (tb k)), I, J) := by
  simp only [f_X9_isLetter_6, f_X9_isLetter_5, f_X9_isLetter_4, f_X9_isLetter_3, f_X9_isLetter_2, f_X9_isLetter_1, f_X9_isLetter_0, f_X9_isLetter, byteAt_ok h hk, Option.bind_some]
  rcases by_l (tb k) (h.1.2.1 k) with ⟨a, b⟩ | ⟨a, b, c⟩ | ⟨a, b, c⟩
  · rw [if_pos a, b]; rfl
  · rw [if_neg a, if_pos b, c]; rfl
  · rw [if_neg a, if_neg b, c]; rfl
theorem cisD_ok {l : Nat} {tb : Nat → Nat} {I : xI} {J : xJ} (h : Tp l tb I) {k : Nat} (hk : k < 100000) : f_X9_isDigit (nt k) I J = some (bi (qD (tb k)), I, J) := by
  simp only [f_X9_isDigit_6, f_X9_isDigit_5, f_X9_isDigit_4, f_X9_isDigit_3, f_X9_isDigit_2, f_X9_isDigit_1, f_X9_isDigit_0, f_X9_isDigit, byteAt_ok h hk, Option.bind_some]
  rcases by_d (tb k) (h.1.2.1 k) with ⟨a, b⟩ | ⟨a, b, c⟩ | ⟨a, b, c⟩
  · rw [if_pos a, b]; rfl
  · rw [if_neg a, if_pos b, c]; rfl
  · rw [if_neg a, if_neg b, c]; rfl
theorem by_e9 : ∀ c, c < 256 → (byt (nt c) = 9) = (c = 9) := fun c hc => by_eq c hc 9 (by omega)
theorem by_e10 : ∀ c, c < 256 → (byt (nt c) = 10) = (c = 10) := fun c hc => by_eq c hc 10 (by omega)
theorem by_e13 : ∀ c, c < 256 → (byt (nt c) = 13) = (c = 13) := fun c hc => by_eq c hc 13 (by omega)
theorem by_e32 : ∀ c, c < 256 → (byt (nt c) = 32) = (c = 32) := fun c hc => by_eq c hc 32 (by omega)
theorem by_e59 : ∀ c, c < 256 → (byt (nt c) = 59) = (c = 59) := fun c hc => by_eq c hc 59 (by omega)
theorem cisB_ok {l : Nat} {tb : Nat → Nat} {I : xI} {J : xJ} (h : Tp l tb I) {k : Nat} (hk : k < 100000) : f_X9_isBlank (nt k) I J = some (bi (qB (tb k)), I, J) := by
  have hb := h.1.2.1 k
  simp only [f_X9_isBlank_7, f_X9_isBlank_5, f_X9_isBlank_6, f_X9_isBlank_4, f_X9_isBlank_3, f_X9_isBlank_2, f_X9_isBlank_1, f_X9_isBlank_0, f_X9_isBlank, byteAt_ok h hk, Option.bind_some, by_e9 _ hb, by_e10 _ hb, by_e13 _ hb, by_e32 _ hb, qB]
  by_cases c1 : tb k = 9
  · rw [if_pos c1, decide_eq_true c1]; rfl
  rw [if_neg c1, decide_eq_false c1]
  by_cases c2 : tb k = 10
  · rw [if_pos c2, decide_eq_true c2]; rfl
  rw [if_neg c2, decide_eq_false c2]
  by_cases c3 : tb k = 13
  · rw [if_pos c3, decide_eq_true c3]; rfl
  rw [if_neg c3, decide_eq_false c3]
  by_cases c4 : tb k = 32
  · rw [if_pos c4, decide_eq_true c4]; rfl
  rw [if_neg c4, decide_eq_false c4]; rfl
theorem skip_ok {l : Nat} {tb : Nat → Nat} {I : xI} {J : xJ} (h : Tp l tb I) {i : Nat} (hi : i ≤ l) : f_X9_skipBlanks (nt i) I J = some (nt (en tb qB i), I, J) := by
  apply Ok.eq
  have hl := h.1.1
  have h1 := en_ge tb qB i
  have h2 := en_le h.1 (p := qB) rfl hi
  unfold f_X9_skipBlanks f_X9_skipBlanks_0 f_X9_skipBlanks_1
  refine ok_loop (fun k t => t = (nt i, nt (i + k), I, J)) (en tb qB i - i) ?_ ?_ 5000 0 _ (by omega) (by omega) rfl
  · rintro k hk t rfl
    have hr := en_run (tb := tb) (p := qB) (i := i) (j := i + k) (by omega) (by omega)
    simp (disch := omega) only [b_X9_skipBlanks_1, f_X9_skipBlanks_2, f_X9_skipBlanks_3, f_X9_skipBlanks_4, h.2.1, nt_clamp, nt_le, nt_lt, nt_eq, lit_le, lit_lt, le_lit, lt_lit, eq_lit, lit_eq, nt_neg, nt_ge, nt_add, nt_mul, nt_addl, lit_add, nt_mull, lit_mul, nt_sub, nt_subl, lit_sub, nt_divl, nt_m1, nt_m2, nt_m1', nt_m2', if_neg, cisB_ok h (show i + k < 100000 from by omega), Option.bind_some, hr, bi_0, Bool.true_eq_false, if_false]
    exact ok_some (by rw [Nat.add_assoc]; rfl)
  · rintro t rfl
    have hs := en_stop h.1 (p := qB) rfl i
    rw [show i + (en tb qB i - i) = en tb qB i from by omega]
    by_cases c : l ≤ en tb qB i
    · simp (disch := omega) only [b_X9_skipBlanks_1, f_X9_skipBlanks_5, h.2.1, nt_clamp, nt_le, nt_lt, nt_eq, lit_le, lit_lt, le_lit, lt_lit, eq_lit, lit_eq, nt_neg, nt_ge, nt_add, nt_mul, nt_addl, lit_add, nt_mull, lit_mul, nt_sub, nt_subl, lit_sub, nt_divl, nt_m1, nt_m2, nt_m1', nt_m2', if_pos, Option.map_some]
      exact ok_some rfl
    · simp (disch := omega) only [b_X9_skipBlanks_1, f_X9_skipBlanks_2, f_X9_skipBlanks_3, f_X9_skipBlanks_5, h.2.1, nt_clamp, nt_le, nt_lt, nt_eq, lit_le, lit_lt, le_lit, lt_lit, eq_lit, lit_eq, nt_neg, nt_ge, nt_add, nt_mul, nt_addl, lit_add, nt_mull, lit_mul, nt_sub, nt_subl, lit_sub, nt_divl, nt_m1, nt_m2, nt_m1', nt_m2', if_neg, cisB_ok h (show en tb qB i < 100000 from by omega), Option.bind_some, hs, bi_0, if_true, Option.map_some]
      exact ok_some rfl
theorem endRun_ok {l : Nat} {tb : Nat → Nat} {I : xI} {J : xJ} (h : Tp l tb I) {i : Nat} (hi : i < l) : f_X9_endOfRun (nt i) I J = some (nt (te tb i), I, J) := by
  apply Ok.eq
  have hl := h.1.1
  simp (disch := omega) only [f_X9_endOfRun, f_X9_endOfRun_0, cisL_ok h (show i < 100000 from by omega), Option.bind_some, f_X9_endOfRun_1, bi_0, nt_addl]
  cases eL : qL (tb i) with
  | true =>
    have ee : te tb i = en tb qL (i + 1) := if_pos eL
    rw [ee]
    have h1 := en_ge tb qL (i + 1)
    have h2 := en_le h.1 (p := qL) rfl (show i + 1 ≤ l from hi)
    rw [if_neg (by decide)]
    unfold f_X9_endOfRun_2
    refine ok_loop (fun k t => t = (nt i, nt (i + 1 + k), I, J)) (en tb qL (i + 1) - (i + 1)) ?_ ?_ 5000 0 _ (by omega) (by omega) rfl
    · rintro k hk t rfl
      have hr := en_run (tb := tb) (p := qL) (i := i + 1) (j := i + 1 + k) (by omega) (by omega)
      simp (disch := omega) only [b_X9_endOfRun_2, f_X9_endOfRun_3, f_X9_endOfRun_4, f_X9_endOfRun_5, h.2.1, nt_clamp, nt_le, nt_lt, nt_eq, lit_le, lit_lt, le_lit, lt_lit, eq_lit, lit_eq, nt_neg, nt_ge, nt_add, nt_mul, nt_addl, lit_add, nt_mull, lit_mul, nt_sub, nt_subl, lit_sub, nt_divl, nt_m1, nt_m2, nt_m1', nt_m2', if_neg, cisL_ok h (show i + 1 + k < 100000 from by omega), Option.bind_some, hr, bi_0, Bool.true_eq_false, if_false]
      exact ok_some (by rw [Nat.add_assoc (i + 1)]; rfl)
    · rintro t rfl
      have hs := en_stop h.1 (p := qL) rfl (i + 1)
      rw [show i + 1 + (en tb qL (i + 1) - (i + 1)) = en tb qL (i + 1) from by omega]
      by_cases c : l ≤ en tb qL (i + 1)
      · simp (disch := omega) only [b_X9_endOfRun_2, f_X9_endOfRun_12, h.2.1, nt_clamp, nt_le, nt_lt, nt_eq, lit_le, lit_lt, le_lit, lt_lit, eq_lit, lit_eq, nt_neg, nt_ge, nt_add, nt_mul, nt_addl, lit_add, nt_mull, lit_mul, nt_sub, nt_subl, lit_sub, nt_divl, nt_m1, nt_m2, nt_m1', nt_m2', if_pos, Option.map_some]
        exact ok_some rfl
      · simp (disch := omega) only [b_X9_endOfRun_2, f_X9_endOfRun_3, f_X9_endOfRun_4, f_X9_endOfRun_12, h.2.1, nt_clamp, nt_le, nt_lt, nt_eq, lit_le, lit_lt, le_lit, lt_lit, eq_lit, lit_eq, nt_neg, nt_ge, nt_add, nt_mul, nt_addl, lit_add, nt_mull, lit_mul, nt_sub, nt_subl, lit_sub, nt_divl, nt_m1, nt_m2, nt_m1', nt_m2', if_neg, cisL_ok h (show en tb qL (i + 1) < 100000 from by omega), Option.bind_some, hs, bi_0, if_true, Option.map_some]
        exact ok_some rfl
  | false =>
    rw [if_pos rfl]
    simp (disch := omega) only [f_X9_endOfRun_6, f_X9_endOfRun_7, cisD_ok h (show i < 100000 from by omega), Option.bind_some, bi_0]
    cases eD : qD (tb i) with
    | true =>
      have ee : te tb i = en tb qD (i + 1) := by unfold te; rw [eL, eD]; rfl
      rw [ee]
      have h1 := en_ge tb qD (i + 1)
      have h2 := en_le h.1 (p := qD) rfl (show i + 1 ≤ l from hi)
      rw [if_neg (by decide)]
      unfold f_X9_endOfRun_8
      refine ok_loop (fun k t => t = (nt i, nt (i + 1 + k), I, J)) (en tb qD (i + 1) - (i + 1)) ?_ ?_ 5000 0 _ (by omega) (by omega) rfl
      · rintro k hk t rfl
        have hr := en_run (tb := tb) (p := qD) (i := i + 1) (j := i + 1 + k) (by omega) (by omega)
        simp (disch := omega) only [b_X9_endOfRun_8, f_X9_endOfRun_9, f_X9_endOfRun_10, f_X9_endOfRun_11, h.2.1, nt_clamp, nt_le, nt_lt, nt_eq, lit_le, lit_lt, le_lit, lt_lit, eq_lit, lit_eq, nt_neg, nt_ge, nt_add, nt_mul, nt_addl, lit_add, nt_mull, lit_mul, nt_sub, nt_subl, lit_sub, nt_divl, nt_m1, nt_m2, nt_m1', nt_m2', if_neg, cisD_ok h (show i + 1 + k < 100000 from by omega), Option.bind_some, hr, bi_0, Bool.true_eq_false, if_false]
        exact ok_some (by rw [Nat.add_assoc (i + 1)]; rfl)
      · rintro t rfl
        have hs := en_stop h.1 (p := qD) rfl (i + 1)
        rw [show i + 1 + (en tb qD (i + 1) - (i + 1)) = en tb qD (i + 1) from by omega]
        by_cases c : l ≤ en tb qD (i + 1)
        · simp (disch := omega) only [b_X9_endOfRun_8, f_X9_endOfRun_12, h.2.1, nt_clamp, nt_le, nt_lt, nt_eq, lit_le, lit_lt, le_lit, lt_lit, eq_lit, lit_eq, nt_neg, nt_ge, nt_add, nt_mul, nt_addl, lit_add, nt_mull, lit_mul, nt_sub, nt_subl, lit_sub, nt_divl, nt_m1, nt_m2, nt_m1', nt_m2', if_pos, Option.map_some]
          exact ok_some rfl
        · simp (disch := omega) only [b_X9_endOfRun_8, f_X9_endOfRun_9, f_X9_endOfRun_10, f_X9_endOfRun_12, h.2.1, nt_clamp, nt_le, nt_lt, nt_eq, lit_le, lit_lt, le_lit, lt_lit, eq_lit, lit_eq, nt_neg, nt_ge, nt_add, nt_mul, nt_addl, lit_add, nt_mull, lit_mul, nt_sub, nt_subl, lit_sub, nt_divl, nt_m1, nt_m2, nt_m1', nt_m2', if_neg, cisD_ok h (show en tb qD (i + 1) < 100000 from by omega), Option.bind_some, hs, bi_0, if_true, Option.map_some]
          exact ok_some rfl
    | false =>
      have ee : te tb i = i + 1 := by unfold te; rw [eL, eD]; rfl
      rw [ee, if_pos rfl]
      exact ok_some rfl
