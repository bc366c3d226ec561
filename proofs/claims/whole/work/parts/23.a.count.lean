/-! count: what it counts -/
def opn (n m : Nat) (w : aT) : Nat := ssum n (fun s => ssum m (fun x => if w.1 s x = none then 1 else 0))
def tld (n m : Nat) (w : aT) : Nat := ssum n (fun s => ssum m (fun x => if w.2.1 s x = none then 0 else 1))
theorem ss24 {f : Nat → Nat → Nat} {n m : Nat} (hn : n ≤ 6) (hm : m ≤ 4) (h : ∀ s x, f s x ≤ 1) : ∀ s, s ≤ n → ssum s (fun s => ssum m (fun x => f s x)) ≤ 24 := by
  intro s hs
  have h1 : ∀ s, ssum m (fun x => f s x) ≤ m * 1 := fun s => ssum_le (fun x => h s x) m
  have h2 := ssum_le h1 s
  have h3 : s * (m * 1) ≤ 6 * (4 * 1) := Nat.mul_le_mul (by omega) (Nat.mul_le_mul hm (Nat.le_refl _))
  omega
theorem ss4 {f : Nat → Nat} {m : Nat} (hm : m ≤ 4) (h : ∀ x, f x ≤ 1) : ∀ x, x ≤ m → ssum x f ≤ 4 := by
  intro x hx
  have := ssum_le h x
  omega
theorem if01 (p : Prop) [Decidable p] : (if p then 1 else 0) ≤ 1 := by split <;> omega
theorem if10 (p : Prop) [Decidable p] : (if p then 0 else 1) ≤ 1 := by split <;> omega
theorem copen_ok {n m : Nat} {w : aT} {I : xI} {J : xJ} (hn : n ≤ 6) (hm : m ≤ 4) (V : Vd n m w) (h : cMa n m w (I 1 0) (I 1 1) (I 2) (I 3) (I 4)) : f_X5_openMoves I J = some (nt (opn n m w), I, J) := by
  apply Ok.eq
  unfold f_X5_openMoves f_X5_openMoves_0 f_X5_openMoves_1
  have b24 := ss24 (f := fun s x => if w.1 s x = none then 1 else 0) hn hm (fun s x => if01 _)
  refine ok_loop (fun s t => ∃ z, t = (nt (ssum s (fun s => ssum m (fun x => if w.1 s x = none then 1 else 0))), nt s, z, I, J)) n ?_ ?_ 5000 0 _ (by omega) (by omega) ⟨none, rfl⟩
  · rintro s hs t ⟨z, rfl⟩
    have bs := b24 s (by omega)
    simp (disch := omega) only [b_X5_openMoves_1, f_X5_openMoves_2, h.1, nt_clamp, nt_le, nt_lt, nt_eq, lit_le, lit_lt, le_lit, lt_lit, eq_lit, lit_eq, nt_neg, nt_ge, nt_add, nt_mul, nt_addl, lit_add, nt_mull, lit_mul, nt_sub, nt_subl, lit_sub, nt_divl, nt_m1, nt_m2, nt_m1', nt_m2', if_neg]
    unfold f_X5_openMoves_3
    have b4 := ss4 (f := fun x => if w.1 s x = none then 1 else 0) hm (fun x => if01 _)
    refine ok_loop (fun x t => t = (nt (ssum s (fun s => ssum m (fun x => if w.1 s x = none then 1 else 0)) + ssum x (fun x => if w.1 s x = none then 1 else 0)), nt s, nt x, I, J)) m ?_ ?_ 5000 0 _ (by omega) (by omega) rfl
    · rintro x hx t rfl
      have bx := b4 x (by omega)
      simp (disch := omega) only [b_X5_openMoves_3, f_X5_openMoves_4, h.2.1, nt_clamp, nt_le, nt_lt, nt_eq, lit_le, lit_lt, le_lit, lt_lit, eq_lit, lit_eq, nt_neg, nt_ge, nt_add, nt_mul, nt_addl, lit_add, nt_mull, lit_mul, nt_sub, nt_subl, lit_sub, nt_divl, nt_m1, nt_m2, nt_m1', nt_m2', if_neg, targetOf_ok hn hm V h, Option.bind_some, f_X5_openMoves_5]
      have hst : ssum (x + 1) (fun x => if w.1 s x = none then 1 else 0) = ssum x (fun x => if w.1 s x = none then 1 else 0) + (if w.1 s x = none then 1 else 0) := rfl
      rw [hst]
      cases e : w.1 s x with
      | none =>
        simp only [ov_n, if_true, f_X5_openMoves_6, f_X5_openMoves_8, nt_addl]
        exact ok_some (by rw [Nat.add_assoc]; rfl)
      | some u =>
        have hu := (V.1 _ _ _ e).2.2
        simp (disch := omega) only [ov_s, nt_clamp, nt_le, nt_lt, nt_eq, lit_le, lit_lt, le_lit, lt_lit, eq_lit, lit_eq, nt_neg, nt_ge, nt_add, nt_mul, nt_addl, lit_add, nt_mull, lit_mul, nt_sub, nt_subl, lit_sub, nt_divl, nt_m1, nt_m2, nt_m1', nt_m2', if_false, f_X5_openMoves_7, f_X5_openMoves_8]
        exact ok_some rfl
    · rintro t rfl
      simp (disch := omega) only [b_X5_openMoves_3, f_X5_openMoves_9, h.2.1, nt_clamp, nt_le, nt_lt, nt_eq, lit_le, lit_lt, le_lit, lt_lit, eq_lit, lit_eq, nt_neg, nt_ge, nt_add, nt_mul, nt_addl, lit_add, nt_mull, lit_mul, nt_sub, nt_subl, lit_sub, nt_divl, nt_m1, nt_m2, nt_m1', nt_m2', if_pos, Option.map_some]
      exact ok_some ⟨_, rfl⟩
  · rintro t ⟨z, rfl⟩
    simp (disch := omega) only [b_X5_openMoves_1, f_X5_openMoves_10, h.1, nt_clamp, nt_le, nt_lt, nt_eq, lit_le, lit_lt, le_lit, lt_lit, eq_lit, lit_eq, nt_neg, nt_ge, nt_add, nt_mul, nt_addl, lit_add, nt_mull, lit_mul, nt_sub, nt_subl, lit_sub, nt_divl, nt_m1, nt_m2, nt_m1', nt_m2', if_pos, Option.map_some]
    exact ok_some rfl
theorem ctold_ok {n m : Nat} {w : aT} {I : xI} {J : xJ} (hn : n ≤ 6) (hm : m ≤ 4) (V : Vd n m w) (h : cMa n m w (I 1 0) (I 1 1) (I 2) (I 3) (I 4)) : f_X5_toldAnswers I J = some (nt (tld n m w), I, J) := by
  apply Ok.eq
  unfold f_X5_toldAnswers f_X5_toldAnswers_0 f_X5_toldAnswers_1
  have b24 := ss24 (f := fun s x => if w.2.1 s x = none then 0 else 1) hn hm (fun s x => if10 _)
  refine ok_loop (fun s t => ∃ z, t = (nt (ssum s (fun s => ssum m (fun x => if w.2.1 s x = none then 0 else 1))), nt s, z, I, J)) n ?_ ?_ 5000 0 _ (by omega) (by omega) ⟨none, rfl⟩
  · rintro s hs t ⟨z, rfl⟩
    have bs := b24 s (by omega)
    simp (disch := omega) only [b_X5_toldAnswers_1, f_X5_toldAnswers_2, h.1, nt_clamp, nt_le, nt_lt, nt_eq, lit_le, lit_lt, le_lit, lt_lit, eq_lit, lit_eq, nt_neg, nt_ge, nt_add, nt_mul, nt_addl, lit_add, nt_mull, lit_mul, nt_sub, nt_subl, lit_sub, nt_divl, nt_m1, nt_m2, nt_m1', nt_m2', if_neg]
    unfold f_X5_toldAnswers_3
    have b4 := ss4 (f := fun x => if w.2.1 s x = none then 0 else 1) hm (fun x => if10 _)
    refine ok_loop (fun x t => t = (nt (ssum s (fun s => ssum m (fun x => if w.2.1 s x = none then 0 else 1)) + ssum x (fun x => if w.2.1 s x = none then 0 else 1)), nt s, nt x, I, J)) m ?_ ?_ 5000 0 _ (by omega) (by omega) rfl
    · rintro x hx t rfl
      have bx := b4 x (by omega)
      simp (disch := omega) only [b_X5_toldAnswers_3, f_X5_toldAnswers_4, h.2.1, nt_clamp, nt_le, nt_lt, nt_eq, lit_le, lit_lt, le_lit, lt_lit, eq_lit, lit_eq, nt_neg, nt_ge, nt_add, nt_mul, nt_addl, lit_add, nt_mull, lit_mul, nt_sub, nt_subl, lit_sub, nt_divl, nt_m1, nt_m2, nt_m1', nt_m2', if_neg, answerOf_ok hn hm V h, Option.bind_some, f_X5_toldAnswers_5]
      have hst : ssum (x + 1) (fun x => if w.2.1 s x = none then 0 else 1) = ssum x (fun x => if w.2.1 s x = none then 0 else 1) + (if w.2.1 s x = none then 0 else 1) := rfl
      rw [hst]
      cases e : w.2.1 s x with
      | none =>
        simp only [ov_n, if_true, f_X5_toldAnswers_6, f_X5_toldAnswers_8, nt_addl]
        exact ok_some rfl
      | some u =>
        have hu := (V.2.1 _ _ _ e).2.2
        simp (disch := omega) only [ov_s, nt_clamp, nt_le, nt_lt, nt_eq, lit_le, lit_lt, le_lit, lt_lit, eq_lit, lit_eq, nt_neg, nt_ge, nt_add, nt_mul, nt_addl, lit_add, nt_mull, lit_mul, nt_sub, nt_subl, lit_sub, nt_divl, nt_m1, nt_m2, nt_m1', nt_m2', if_false, f_X5_toldAnswers_7, f_X5_toldAnswers_8]
        exact ok_some (by rw [Nat.add_assoc]; rfl)
    · rintro t rfl
      simp (disch := omega) only [b_X5_toldAnswers_3, f_X5_toldAnswers_9, h.2.1, nt_clamp, nt_le, nt_lt, nt_eq, lit_le, lit_lt, le_lit, lt_lit, eq_lit, lit_eq, nt_neg, nt_ge, nt_add, nt_mul, nt_addl, lit_add, nt_mull, lit_mul, nt_sub, nt_subl, lit_sub, nt_divl, nt_m1, nt_m2, nt_m1', nt_m2', if_pos, Option.map_some]
      exact ok_some ⟨_, rfl⟩
  · rintro t ⟨z, rfl⟩
    simp (disch := omega) only [b_X5_toldAnswers_1, f_X5_toldAnswers_10, h.1, nt_clamp, nt_le, nt_lt, nt_eq, lit_le, lit_lt, le_lit, lt_lit, eq_lit, lit_eq, nt_neg, nt_ge, nt_add, nt_mul, nt_addl, lit_add, nt_mull, lit_mul, nt_sub, nt_subl, lit_sub, nt_divl, nt_m1, nt_m2, nt_m1', nt_m2', if_pos, Option.map_some]
    exact ok_some rfl
/-- untold of the reference -/
theorem untold_ok {n m off : Nat} {f : Nat → Nat → Option Nat} {I : xI} {J : xJ} (hn : n ≤ 6) (hm : m ≤ 4) (ho : off ≤ 24) (h0 : I 61 17 = nt n) (h1 : I 61 18 = nt m) (h : ∀ s x, s < n → x < m → I 70 (off + 4 * s + x) = ov (f s x)) (hf : ∀ s x u, f s x = some u → u < 100) : f_X12_untold (nt off) I J = some (nt (ssum n (fun s => ssum m (fun x => if f s x = none then 1 else 0))), I, J) := by
  apply Ok.eq
  unfold f_X12_untold f_X12_untold_0 f_X12_untold_1
  have b24 := ss24 (f := fun s x => if f s x = none then 1 else 0) hn hm (fun s x => if01 _)
  refine ok_loop (fun s t => ∃ z, t = (nt off, nt (ssum s (fun s => ssum m (fun x => if f s x = none then 1 else 0))), nt s, z, I, J)) n ?_ ?_ 5000 0 _ (by omega) (by omega) ⟨none, rfl⟩
  · rintro s hs t ⟨z, rfl⟩
    have bs := b24 s (by omega)
    simp (disch := omega) only [b_X12_untold_1, f_X12_untold_2, h0, nt_clamp, nt_le, nt_lt, nt_eq, lit_le, lit_lt, le_lit, lt_lit, eq_lit, lit_eq, nt_neg, nt_ge, nt_add, nt_mul, nt_addl, lit_add, nt_mull, lit_mul, nt_sub, nt_subl, lit_sub, nt_divl, nt_m1, nt_m2, nt_m1', nt_m2', if_neg]
    unfold f_X12_untold_3
    have b4 := ss4 (f := fun x => if f s x = none then 1 else 0) hm (fun x => if01 _)
    refine ok_loop (fun x t => t = (nt off, nt (ssum s (fun s => ssum m (fun x => if f s x = none then 1 else 0)) + ssum x (fun x => if f s x = none then 1 else 0)), nt s, nt x, I, J)) m ?_ ?_ 5000 0 _ (by omega) (by omega) rfl
    · rintro x hx t rfl
      have bx := b4 x (by omega)
      simp (disch := omega) only [b_X12_untold_3, f_X12_untold_4, h1, nt_clamp, nt_le, nt_lt, nt_eq, lit_le, lit_lt, le_lit, lt_lit, eq_lit, lit_eq, nt_neg, nt_ge, nt_add, nt_mul, nt_addl, lit_add, nt_mull, lit_mul, nt_sub, nt_subl, lit_sub, nt_divl, nt_m1, nt_m2, nt_m1', nt_m2', false_or, if_neg, h s x hs hx]
      have hst : ssum (x + 1) (fun x => if f s x = none then 1 else 0) = ssum x (fun x => if f s x = none then 1 else 0) + (if f s x = none then 1 else 0) := rfl
      rw [hst]
      cases e : f s x with
      | none =>
        simp only [ov_n, Int32.reduceLE, if_false, f_X12_untold_5, f_X12_untold_6, nt_addl]
        exact ok_some (by rw [Nat.add_assoc]; rfl)
      | some u =>
        have hu := hf _ _ _ e
        simp (disch := omega) only [ov_s, nt_clamp, nt_le, nt_lt, nt_eq, lit_le, lit_lt, le_lit, lt_lit, eq_lit, lit_eq, nt_neg, nt_ge, nt_add, nt_mul, nt_addl, lit_add, nt_mull, lit_mul, nt_sub, nt_subl, lit_sub, nt_divl, nt_m1, nt_m2, nt_m1', nt_m2', if_true, f_X12_untold_6]
        exact ok_some rfl
    · rintro t rfl
      simp (disch := omega) only [b_X12_untold_3, f_X12_untold_7, h1, nt_clamp, nt_le, nt_lt, nt_eq, lit_le, lit_lt, le_lit, lt_lit, eq_lit, lit_eq, nt_neg, nt_ge, nt_add, nt_mul, nt_addl, lit_add, nt_mull, lit_mul, nt_sub, nt_subl, lit_sub, nt_divl, nt_m1, nt_m2, nt_m1', nt_m2', if_pos, Option.map_some]
      exact ok_some ⟨_, rfl⟩
  · rintro t ⟨z, rfl⟩
    simp (disch := omega) only [b_X12_untold_1, f_X12_untold_8, h0, nt_clamp, nt_le, nt_lt, nt_eq, lit_le, lit_lt, le_lit, lt_lit, eq_lit, lit_eq, nt_neg, nt_ge, nt_add, nt_mul, nt_addl, lit_add, nt_mull, lit_mul, nt_sub, nt_subl, lit_sub, nt_divl, nt_m1, nt_m2, nt_m1', nt_m2', if_pos, Option.map_some]
    exact ok_some rfl
theorem tld_sub {n m : Nat} (w : aT) : ssum n (fun s => ssum m (fun x => if w.2.1 s x = none then 1 else 0)) + tld n m w = n * m := by
  unfold tld
  rw [← ssum_add]
  have h1 : ∀ s, ssum m (fun x => if w.2.1 s x = none then 1 else 0) + ssum m (fun x => if w.2.1 s x = none then 0 else 1) = m := by
    intro s
    rw [← ssum_add]
    have : ∀ k, ssum k (fun i => (if w.2.1 s i = none then 1 else 0) + (if w.2.1 s i = none then 0 else 1)) = k := by
      intro k
      induction k with
      | zero => rfl
      | succ k ih =>
        show ssum k _ + ((if w.2.1 s k = none then 1 else 0) + (if w.2.1 s k = none then 0 else 1)) = k + 1
        rw [ih]
        split <;> omega
    exact this m
  rw [ssum_ext (g := fun _ => m) n (fun i _ => h1 i)]
  induction n with
  | zero => rw [Nat.zero_mul]; rfl
  | succ n ih =>
    show ssum n (fun _ => m) + m = (n + 1) * m
    rw [ih, Nat.succ_mul]
/-- codes as one number -/
def cdn (c : Nat → Nat) (k : Nat) : Nat := ssum k (fun i => c i * 2 ^ (3 * i))
theorem cdn_lt {c : Nat → Nat} (h : ∀ s, c s < 8) : ∀ k, cdn c k < 2 ^ (3 * k) := by
  intro k
  induction k with
  | zero => show 0 < 1; omega
  | succ k ih =>
    show cdn c k + c k * 2 ^ (3 * k) < 2 ^ (3 * (k + 1))
    have h8 := h k
    have e : 2 ^ (3 * (k + 1)) = 8 * 2 ^ (3 * k) := by rw [show 3 * (k + 1) = 3 * k + 3 from by omega, Nat.pow_add]; omega
    have h2 : c k * 2 ^ (3 * k) ≤ 7 * 2 ^ (3 * k) := Nat.mul_le_mul (by omega) (Nat.le_refl _)
    omega
theorem or_put {a c s : Nat} (hs : s < 10) (ha : a < 2 ^ (3 * s)) : nt a ||| (nt c <<< nt (3 * s)) = nt (a + c * 2 ^ (3 * s)) := by
  have h1 : a + c * 2 ^ (3 * s) = c <<< (3 * s) ||| a := by
    rw [← Nat.shiftLeft_add_eq_or_of_lt ha, Nat.shiftLeft_eq, Nat.add_comm]
  rw [h1]
  apply bt_ext
  intro q hq
  rw [bt_or, bt_shl (by omega) hq, bt_nt, bt_nt, bt_nt, decide_eq_true hq, decide_eq_true (show q - 3 * s < 32 from by omega), Bool.true_and, Bool.true_and, Bool.true_and, Nat.testBit_or, Nat.testBit_shiftLeft, Bool.or_comm]
theorem ccodeN_ok {n m : Nat} {w : aT} {I : xI} {J : xJ} (hn : n ≤ 6) (V : Vd n m w) (h : cMa n m w (I 1 0) (I 1 1) (I 2) (I 3) (I 4)) : f_X5_codeNumber I J = some (nt (cdn w.2.2 n), I, J) := by
  apply Ok.eq
  unfold f_X5_codeNumber f_X5_codeNumber_0 f_X5_codeNumber_1
  refine ok_loop (fun s t => t = (nt (cdn w.2.2 s), nt s, I, J)) n ?_ ?_ 5000 0 _ (by omega) (by omega) rfl
  · rintro s hs t rfl
    simp (disch := omega) only [b_X5_codeNumber_1, f_X5_codeNumber_2, h.1, nt_clamp, nt_le, nt_lt, nt_eq, lit_le, lit_lt, le_lit, lt_lit, eq_lit, lit_eq, nt_neg, nt_ge, nt_add, nt_mul, nt_addl, lit_add, nt_mull, lit_mul, nt_sub, nt_subl, lit_sub, nt_divl, nt_m1, nt_m2, nt_m1', nt_m2', false_or, if_neg, h.2.2.2.2 s (by omega), nt_31, or_put (show s < 10 from by omega) (cdn_lt V.2.2 s)]
    exact ok_some rfl
  · rintro t rfl
    simp (disch := omega) only [b_X5_codeNumber_1, f_X5_codeNumber_3, h.1, nt_clamp, nt_le, nt_lt, nt_eq, lit_le, lit_lt, le_lit, lt_lit, eq_lit, lit_eq, nt_neg, nt_ge, nt_add, nt_mul, nt_addl, lit_add, nt_mull, lit_mul, nt_sub, nt_subl, lit_sub, nt_divl, nt_m1, nt_m2, nt_m1', nt_m2', if_pos, Option.map_some]
    exact ok_some rfl
def cdh (n : Nat) (c : Nat → Nat) : Nat → Nat
  | 0 => 0
  | j + 1 => 8 * cdh n c j + c (n - 1 - j)
theorem cdh_lt {n : Nat} {c : Nat → Nat} (h : ∀ s, c s < 8) : ∀ j, cdh n c j < 8 ^ j := by
  intro j
  induction j with
  | zero => show 0 < 1; omega
  | succ j ih =>
    show 8 * cdh n c j + c (n - 1 - j) < 8 ^ (j + 1)
    have := h (n - 1 - j)
    rw [Nat.pow_succ]; omega
theorem cdh_eq {n : Nat} {c : Nat → Nat} : ∀ j, j ≤ n → cdn c n = cdn c (n - j) + 2 ^ (3 * (n - j)) * cdh n c j := by
  intro j
  induction j with
  | zero => intro _; rw [Nat.sub_zero]; show cdn c n = cdn c n + 2 ^ (3 * n) * 0; rw [Nat.mul_zero, Nat.add_zero]
  | succ j ih =>
    intro hj
    rw [ih (by omega)]
    have e1 : n - j = (n - (j + 1)) + 1 := by omega
    have e2 : n - 1 - j = n - (j + 1) := by omega
    show _ = cdn c (n - (j + 1)) + 2 ^ (3 * (n - (j + 1))) * (8 * cdh n c j + c (n - 1 - j))
    rw [e1, e2]
    show cdn c (n - (j + 1)) + c (n - (j + 1)) * 2 ^ (3 * (n - (j + 1))) + 2 ^ (3 * (n - (j + 1) + 1)) * cdh n c j = _
    rw [show 3 * (n - (j + 1) + 1) = 3 * (n - (j + 1)) + 3 from by omega, Nat.pow_add, Nat.mul_add, Nat.mul_comm (c (n - (j + 1))), ← Nat.mul_assoc (2 ^ (3 * (n - (j + 1)))) 8, show (2 : Nat) ^ 3 = 8 from rfl]
    omega
