/-! shown: words that tell all apart -/
def tl (w : aT) : Nat → (Nat → Nat) → Nat → Nat → Bool
  | 0, _, _, _ => false
  | k + 1, q, a, b => unl w a b (q 0) || tl w k (fun i => q (i + 1)) ((w.1 a (q 0)).getD 7) ((w.1 b (q 0)).getD 7)
theorem w7 {n m : Nat} {w : aT} (hn : n ≤ 6) (V : Vd n m w) (x : Nat) : w.1 7 x = none ∧ w.2.1 7 x = none := by
  constructor
  · cases e : w.1 7 x with
    | none => rfl
    | some t => have := (V.1 7 x t e).1; omega
  · cases e : w.2.1 7 x with
    | none => rfl
    | some t => have := (V.2.1 7 x t e).1; omega
theorem unl_7 {n m : Nat} {w : aT} (hn : n ≤ 6) (V : Vd n m w) (b x : Nat) : unl w 7 b x = false ∧ unl w b 7 x = false := by
  have h : unl w 7 b x = false := by
    unfold unl
    rw [(w7 hn V x).2]
  exact ⟨h, by rw [unl_comm]; exact h⟩
theorem tl_7 {n m : Nat} {w : aT} (hn : n ≤ 6) (V : Vd n m w) : ∀ k q b, tl w k q 7 b = false ∧ tl w k q b 7 = false := by
  intro k
  induction k with
  | zero => intro q b; exact ⟨rfl, rfl⟩
  | succ k ih =>
    intro q b
    have h := unl_7 hn V b (q 0)
    have h7 := (w7 hn V (q 0)).1
    constructor
    · show (unl w 7 b (q 0) || tl w k (fun i => q (i + 1)) ((w.1 7 (q 0)).getD 7) ((w.1 b (q 0)).getD 7)) = false
      rw [h.1, h7]; exact (ih _ _).1
    · show (unl w b 7 (q 0) || tl w k (fun i => q (i + 1)) ((w.1 b (q 0)).getD 7) ((w.1 7 (q 0)).getD 7)) = false
      rw [h.2, h7]; exact (ih _ _).2
theorem tl_ext {w : aT} : ∀ (k : Nat) (q q' : Nat → Nat) (a b : Nat), (∀ i, i < k → q i = q' i) → tl w k q a b = tl w k q' a b := by
  intro k
  induction k with
  | zero => intro q q' a b _; rfl
  | succ k ih =>
    intro q q' a b h
    show (unl w a b (q 0) || tl w k (fun i => q (i + 1)) ((w.1 a (q 0)).getD 7) ((w.1 b (q 0)).getD 7)) = (unl w a b (q' 0) || tl w k (fun i => q' (i + 1)) ((w.1 a (q' 0)).getD 7) ((w.1 b (q' 0)).getD 7))
    rw [h 0 (by omega), ih (fun i => q (i + 1)) (fun i => q' (i + 1)) _ _ (fun i hi => h (i + 1) (by omega))]
theorem tl_comm {w : aT} : ∀ (k : Nat) (q : Nat → Nat) (a b : Nat), tl w k q a b = tl w k q b a := by
  intro k
  induction k with
  | zero => intro q a b; rfl
  | succ k ih =>
    intro q a b
    show (unl w a b (q 0) || tl w k (fun i => q (i + 1)) ((w.1 a (q 0)).getD 7) ((w.1 b (q 0)).getD 7)) = (unl w b a (q 0) || tl w k (fun i => q (i + 1)) ((w.1 b (q 0)).getD 7) ((w.1 a (q 0)).getD 7))
    rw [unl_comm, ih]
theorem rd_0 {m : Nat} {w : aT} {a b x : Nat} (hx : x < m) (h : unl w a b x = true) : rd m w a b = some 0 := by
  have h0 : rdk m w 0 a b = some 0 := by
    unfold rdk
    rw [if_pos (ex_iff.mpr ⟨x, hx, h⟩)]
  exact rdk_up m w h0 15
theorem rd_up {n m : Nat} {w : aT} (hn : n ≤ 6) (V : Vd n m w) {a b x p q r : Nat} (hx : x < m) (hp : w.1 a x = some p) (hq : w.1 b x = some q) (h : rd m w p q = some r) : ∃ r', rd m w a b = some r' ∧ r' ≤ r + 1 := by
  have h14 := rdk_14 V hn h
  have hd := rdk_down m w h
  cases e : rdk m w r a b with
  | some r' =>
    have := rdk_le m w e
    have h2 := rdk_up m w e (15 - r)
    rw [show r + (15 - r) = 15 from by omega] at h2
    exact ⟨r', h2, by omega⟩
  | none =>
    have h1 : rdk m w (r + 1) a b = some (r + 1) := by
      show (match rdk m w r a b with
        | some r => some r
        | none => if ex m (fun x => hit (rdk m w r) w a b x r) = true then some (r + 1) else none) = some (r + 1)
      rw [e]
      have hh : ex m (fun x => hit (rdk m w r) w a b x r) = true := ex_iff.mpr ⟨x, hx, hit_iff.mpr ⟨p, q, hp, hq, hd⟩⟩
      exact if_pos hh
    have h2 := rdk_up m w h1 (14 - r)
    rw [show r + 1 + (14 - r) = 15 from by omega] at h2
    exact ⟨r + 1, h2, Nat.le_refl _⟩
theorem tl_rd {n m : Nat} {w : aT} (hn : n ≤ 6) (V : Vd n m w) : ∀ (L : Nat) (q : Nat → Nat) (a b : Nat), (∀ i, i < L → q i < m) → tl w L q a b = true → ∃ r, rd m w a b = some r ∧ r < L := by
  intro L
  induction L with
  | zero => intro q a b _ h; cases h
  | succ L ih =>
    intro q a b hq h
    have h : (unl w a b (q 0) || tl w L (fun i => q (i + 1)) ((w.1 a (q 0)).getD 7) ((w.1 b (q 0)).getD 7)) = true := h
    cases e : unl w a b (q 0) with
    | true => exact ⟨0, rd_0 (hq 0 (by omega)) e, by omega⟩
    | false =>
      rw [e, Bool.false_or] at h
      cases e1 : w.1 a (q 0) with
      | none =>
        rw [e1] at h
        rw [show tl w L (fun i => q (i + 1)) ((none : Option Nat).getD 7) ((w.1 b (q 0)).getD 7) = false from (tl_7 hn V L _ _).1] at h
        cases h
      | some p =>
        cases e2 : w.1 b (q 0) with
        | none =>
          rw [e2] at h
          rw [show tl w L (fun i => q (i + 1)) ((w.1 a (q 0)).getD 7) ((none : Option Nat).getD 7) = false from (tl_7 hn V L _ _).2] at h
          cases h
        | some r =>
          rw [e1, e2] at h
          obtain ⟨u, u1, u2⟩ := ih (fun i => q (i + 1)) p r (fun i hi => hq (i + 1) (by omega)) h
          obtain ⟨u', v1, v2⟩ := rd_up hn V (hq 0 (by omega)) e1 e2 u1
          exact ⟨u', v1, by omega⟩
/-- those that are still to be told apart are told so -/
def UT (n m : Nat) (w : aT) (T : Int32) (L : Nat) (q st : Nat → Nat) : Prop := ∀ a b, a < b → b < n → (rd m w a b).isSome = true → bt T (pX a b) = false → tl w L q (st a) (st b) = true
def stx (w : aT) (st : Nat → Nat) (x s : Nat) : Nat := (w.1 (st s) x).getD 7
theorem UT_step {n m L x : Nat} {w : aT} {T B : Int32} {q st : Nat → Nat} (hB : ∀ a b, a < b → b < n → bt B (pX a b) = unl w (st a) (st b) x) (hx : q 0 = x) : UT n m w T (L + 1) q st ↔ UT n m w (T ||| B) L (fun i => q (i + 1)) (stx w st x) := by
  subst hx
  constructor
  · intro h a b hab hb hr ht
    rw [bt_or, hB a b hab hb, Bool.or_eq_false_iff] at ht
    have h2 : (unl w (st a) (st b) (q 0) || tl w L (fun i => q (i + 1)) ((w.1 (st a) (q 0)).getD 7) ((w.1 (st b) (q 0)).getD 7)) = true := h a b hab hb hr ht.1
    rw [ht.2, Bool.false_or] at h2
    exact h2
  · intro h a b hab hb hr ht
    show (unl w (st a) (st b) (q 0) || tl w L (fun i => q (i + 1)) ((w.1 (st a) (q 0)).getD 7) ((w.1 (st b) (q 0)).getD 7)) = true
    cases e : unl w (st a) (st b) (q 0) with
    | true => rfl
    | false =>
      rw [Bool.false_or]
      exact h a b hab hb hr (by rw [bt_or, ht, hB a b hab hb, e]; rfl)
theorem UT_ext {n m L : Nat} {w : aT} {T : Int32} {q q' st : Nat → Nat} (h : ∀ i, i < L → q i = q' i) (hu : UT n m w T L q st) : UT n m w T L q' st := by
  intro a b hab hb hr ht
  rw [← tl_ext L q q' _ _ h]; exact hu a b hab hb hr ht
def CT (n m : Nat) (w : aT) (T : Int32) (L : Nat) (st : Nat → Nat) : Prop := ∀ a b, a < b → b < n → (rd m w a b).isSome = true → bt T (pX a b) = false → ∃ r, rd m w (st a) (st b) = some r ∧ r < L
theorem UT_CT {n m L : Nat} {w : aT} {T : Int32} {q st : Nat → Nat} (hn : n ≤ 6) (V : Vd n m w) (hq : ∀ i, i < L → q i < m) (h : UT n m w T L q st) : CT n m w T L st := fun a b hab hb hr ht => tl_rd hn V L q _ _ hq (h a b hab hb hr ht)
/-- where all stand -/
def SD (n : Nat) (X : Int32) (st : Nat → Nat) : Prop := ∀ s, s < n → (st s < n ∨ st s = 7) ∧ ∀ r, r < 3 → bt X (3 * s + r) = (st s).testBit r
theorem bt_7 : ∀ k, k < 32 → bt 7 k = decide (k < 3) := by decide
theorem tb8 {v k : Nat} (hv : v < 8) (hk : 3 ≤ k) : v.testBit k = false := Nat.testBit_lt_two_pow (Nat.lt_of_lt_of_le hv (Nat.pow_le_pow_right (n := 2) (by omega) hk))
theorem sd_ok {n s : Nat} {X : Int32} {st : Nat → Nat} (hn : n ≤ 6) (h : SD n X st) (hs : s < n) : (X >>> (nt (3 * s) &&& 31)) &&& 7 = nt (st s) := by
  have h8 : st s < 8 := by rcases (h s hs).1 with c | c <;> omega
  rw [nt_31 _ (by omega)]
  apply bt_ext
  intro k hk
  rw [bt_and, bt_7 k hk, bt_nt, decide_eq_true hk, Bool.true_and]
  by_cases c : k < 3
  · rw [bt_shr (by omega) (by omega), (h s hs).2 k c, decide_eq_true c, Bool.and_true]
  · rw [decide_eq_false c, Bool.and_false, tb8 h8 (by omega)]
theorem rd_7 {n m : Nat} {w : aT} (hn : n ≤ 6) (V : Vd n m w) (b : Nat) : rd m w 7 b = none ∧ rd m w b 7 = none := by
  constructor
  · cases e : rd m w 7 b with
    | none => rfl
    | some r => have := (rdk_rng V e).1; omega
  · cases e : rd m w b 7 with
    | none => rfl
    | some r => have := (rdk_rng V e).2; omega
theorem roundB_ok {n m a b : Nat} {w : aT} {I : xI} {J : xJ} (hn : n ≤ 6) (V : Vd n m w) (hp : cPa m w (I 32 3) (I 33) (I 34)) (ha : a < n ∨ a = 7) (hb : b < n ∨ b = 7) : f_X6_roundBetween (nt a) (nt b) I J = some (ov (rd m w a b), I, J) := by
  rcases ha with ha | rfl
  · rcases hb with hb | rfl
    · simp (disch := omega) only [f_X6_roundBetween, f_X6_roundBetween_0, f_X6_roundBetween_1, f_X6_roundBetween_3, f_X6_roundBetween_4, f_X6_roundBetween_5, nt_clamp, nt_le, nt_lt, nt_eq, lit_le, lit_lt, le_lit, lt_lit, eq_lit, lit_eq, nt_neg, nt_ge, nt_add, nt_mul, nt_addl, lit_add, nt_mull, lit_mul, nt_sub, nt_subl, lit_sub, nt_divl, nt_m1, nt_m2, nt_m1', nt_m2', if_neg, pairOf_ok, Option.bind_some, roundIn_ok hp]
    · rw [(rd_7 hn V a).2]
      simp (disch := omega) only [f_X6_roundBetween, f_X6_roundBetween_0, f_X6_roundBetween_1, f_X6_roundBetween_2, f_X6_roundBetween_5, nt_clamp, nt_le, nt_lt, nt_eq, lit_le, lit_lt, le_lit, lt_lit, eq_lit, lit_eq, nt_neg, nt_ge, nt_add, nt_mul, nt_addl, lit_add, nt_mull, lit_mul, nt_sub, nt_subl, lit_sub, nt_divl, nt_m1, nt_m2, nt_m1', nt_m2', if_neg, if_true]
      rfl
  · rw [(rd_7 hn V b).1]
    simp (disch := omega) only [f_X6_roundBetween, f_X6_roundBetween_0, f_X6_roundBetween_2, f_X6_roundBetween_5, nt_clamp, nt_le, nt_lt, nt_eq, lit_le, lit_lt, le_lit, lt_lit, eq_lit, lit_eq, nt_neg, nt_ge, nt_add, nt_mul, nt_addl, lit_add, nt_mull, lit_mul, nt_sub, nt_subl, lit_sub, nt_divl, nt_m1, nt_m2, nt_m1', nt_m2', if_true]
    rfl
theorem msk_ok {m a b : Nat} {w : aT} {v T : Int32} {c33 c34 : Nat → Int32} (hp : cPa m w v c33 c34) (hab : a < b) (hb : b < 6) : ((v &&& (T ^^^ -1)) &&& pm a b = 0) ↔ ¬ ((rd m w a b).isSome = true ∧ bt T (pX a b) = false) := by
  have hpx := pX_lt a (by omega) b hb
  have el := pX_inv a (by omega) b hb hab
  have hv : bt v (pX a b) = (rd m w a b).isSome := by
    rw [hp.2.2 _ (by omega), decide_eq_true hpx, el.1, el.2]; rfl
  rw [bt_0]
  constructor
  · rintro h ⟨h1, h2⟩
    have := h (pX a b) (by omega)
    rw [bt_and, bt_and, bt_xor, m1_bt (by omega), hv, h1, h2, pm_bt (by omega) hb (by omega), decide_eq_false (show ¬ a = b from by omega), decide_eq_true rfl] at this
    cases this
  · intro h q hq
    rw [bt_and, bt_and, bt_xor, m1_bt hq, pm_bt (by omega) hb hq, decide_eq_false (show ¬ a = b from by omega)]
    by_cases e : q = pX a b
    · rw [e, hv, decide_eq_true rfl]
      cases e1 : (rd m w a b).isSome with
      | false => rfl
      | true =>
        cases e2 : bt T (pX a b) with
        | true => rfl
        | false => exact absurd ⟨e1, e2⟩ h
    · rw [decide_eq_false e, Bool.and_false, Bool.and_false]
theorem canTell_ok {n m L : Nat} {w : aT} {X T : Int32} {st : Nat → Nat} {I : xI} {J : xJ} (hn : n ≤ 6) (V : Vd n m w) (h10 : I 1 0 = nt n) (hp : cPa m w (I 32 3) (I 33) (I 34)) (hX : SD n X st) (hL : L ≤ 6) : Ok (f_X6_canTell X T (nt L) I J) (fun o => o.2 = (I, J) ∧ ((o.1 = 1 ∧ CT n m w T L st) ∨ (o.1 = 0 ∧ ¬ CT n m w T L st))) := by
  unfold f_X6_canTell f_X6_canTell_0 f_X6_canTell_1
  refine ok_loop (fun a s => ∃ z5 z6, s = (X, T, nt L, nt a, z5, z6, I, J) ∧ ∀ a' b', a' < b' → b' < n → a' < a → (rd m w a' b').isSome = true → bt T (pX a' b') = false → ∃ r, rd m w (st a') (st b') = some r ∧ r < L) n ?_ ?_ 5000 0 _ (by omega) (by omega) ⟨none, none, rfl, fun a' b' _ _ h => absurd h (by omega)⟩
  · rintro a ha s ⟨z5, z6, rfl, g1⟩
    simp (disch := omega) only [b_X6_canTell_1, f_X6_canTell_2, h10, nt_clamp, nt_le, nt_lt, nt_eq, lit_le, lit_lt, le_lit, lt_lit, eq_lit, lit_eq, nt_neg, nt_ge, nt_add, nt_mul, nt_addl, lit_add, nt_mull, lit_mul, nt_sub, nt_subl, lit_sub, nt_divl, nt_m1, nt_m2, nt_m1', nt_m2', if_neg]
    unfold f_X6_canTell_3
    refine ok_loop (fun b s => ∃ z6, s = (X, T, nt L, nt a, nt b, z6, I, J) ∧ a < b ∧ ∀ a' b', a' < b' → b' < n → (a' < a ∨ (a' = a ∧ b' < b)) → (rd m w a' b').isSome = true → bt T (pX a' b') = false → ∃ r, rd m w (st a') (st b') = some r ∧ r < L) n ?_ ?_ 5000 (a + 1) _ (by omega) (by omega) ⟨z6, rfl, by omega, fun a' b' h1 h2 h3 => g1 a' b' h1 h2 (by omega)⟩
    · rintro b hb s ⟨z6, rfl, hab, g2⟩
      have next : ∀ z6, ((rd m w a b).isSome = true → bt T (pX a b) = false → ∃ r, rd m w (st a) (st b) = some r ∧ r < L) → ∃ z6', ((X, T, nt L, nt a, nt (b + 1), z6, I, J) : Int32 × Int32 × Int32 × Int32 × Int32 × Option Value × xI × xJ) = (X, T, nt L, nt a, nt (b + 1), z6', I, J) ∧ a < b + 1 ∧ ∀ a' b', a' < b' → b' < n → (a' < a ∨ (a' = a ∧ b' < b + 1)) → (rd m w a' b').isSome = true → bt T (pX a' b') = false → ∃ r, rd m w (st a') (st b') = some r ∧ r < L := by
        intro z6 hh
        refine ⟨z6, rfl, by omega, ?_⟩
        intro a' b' h1 h2 h3
        by_cases e : a' = a ∧ b' = b
        · rw [e.1, e.2]; exact hh
        · exact g2 a' b' h1 h2 (by omega)
      simp (disch := omega) only [b_X6_canTell_3, f_X6_canTell_4, f_X6_canTell_5, h10, nt_clamp, nt_le, nt_lt, nt_eq, lit_le, lit_lt, le_lit, lt_lit, eq_lit, lit_eq, nt_neg, nt_ge, nt_add, nt_mul, nt_addl, lit_add, nt_mull, lit_mul, nt_sub, nt_subl, lit_sub, nt_divl, nt_m1, nt_m2, nt_m1', nt_m2', if_neg, pairOf_ok, Option.bind_some]
      by_cases hz : ((I 32 3 &&& (T ^^^ -1)) &&& pm a b) = 0
      · rw [if_pos hz]
        simp only [f_X6_canTell_10, nt_addl]
        refine ok_some (next z6 ?_)
        intro h1 h2
        exact absurd ⟨h1, h2⟩ ((msk_ok hp hab (by omega)).mp hz)
      · rw [if_neg hz]
        have hz2 : (rd m w a b).isSome = true ∧ bt T (pX a b) = false := by
          by_cases q : (rd m w a b).isSome = true ∧ bt T (pX a b) = false
          · exact q
          · exact absurd ((msk_ok hp hab (by omega)).mpr q) hz
        have hbad : ∀ o : Int32, (¬ ∃ r, rd m w (st a) (st b) = some r ∧ r < L) → ((0 : Int32), I, J).2 = (I, J) ∧ ((((0 : Int32), I, J).1 = 1 ∧ CT n m w T L st) ∨ (((0 : Int32), I, J).1 = 0 ∧ ¬ CT n m w T L st)) := fun _ hh => ⟨rfl, Or.inr ⟨rfl, fun hc => hh (hc a b hab hb hz2.1 hz2.2)⟩⟩
        simp (disch := omega) only [f_X6_canTell_6, nt_clamp, nt_le, nt_lt, nt_eq, lit_le, lit_lt, le_lit, lt_lit, eq_lit, lit_eq, nt_neg, nt_ge, nt_add, nt_mul, nt_addl, lit_add, nt_mull, lit_mul, nt_sub, nt_subl, lit_sub, nt_divl, nt_m1, nt_m2, nt_m1', nt_m2', sd_ok hn hX ha, sd_ok hn hX hb, roundB_ok hn V hp (hX a ha).1 (hX b hb).1, Option.bind_some]
        cases er : rd m w (st a) (st b) with
        | none =>
          simp only [f_X6_canTell_7, ov_n, if_true, f_X6_canTell_9, Option.map_some]
          refine ok_some (hbad 0 ?_)
          rw [er]
          rintro ⟨r, h1, _⟩
          cases h1
        | some r =>
          have h14 := rdk_14 V hn er
          simp (disch := omega) only [f_X6_canTell_7, f_X6_canTell_8, ov_s, nt_clamp, nt_le, nt_lt, nt_eq, lit_le, lit_lt, le_lit, lt_lit, eq_lit, lit_eq, nt_neg, nt_ge, nt_add, nt_mul, nt_addl, lit_add, nt_mull, lit_mul, nt_sub, nt_subl, lit_sub, nt_divl, nt_m1, nt_m2, nt_m1', nt_m2', if_false]
          by_cases cr : r < L
          · rw [if_pos cr]
            simp only [f_X6_canTell_10, nt_addl]
            refine ok_some (next _ ?_)
            intro _ _
            exact ⟨r, er, cr⟩
          · rw [if_neg cr]
            simp only [f_X6_canTell_9, Option.map_some]
            refine ok_some (hbad 0 ?_)
            rw [er]
            rintro ⟨r', h1, h2⟩
            cases h1
            exact cr h2
    · rintro s ⟨z6, rfl, hab, g2⟩
      simp (disch := omega) only [b_X6_canTell_3, f_X6_canTell_11, h10, nt_clamp, nt_le, nt_lt, nt_eq, lit_le, lit_lt, le_lit, lt_lit, eq_lit, lit_eq, nt_neg, nt_ge, nt_add, nt_mul, nt_addl, lit_add, nt_mull, lit_mul, nt_sub, nt_subl, lit_sub, nt_divl, nt_m1, nt_m2, nt_m1', nt_m2', if_pos, Option.map_some]
      exact ok_some ⟨_, _, rfl, fun a' b' h1 h2 h3 => g2 a' b' h1 h2 (by omega)⟩
  · rintro s ⟨z5, z6, rfl, g1⟩
    simp (disch := omega) only [b_X6_canTell_1, f_X6_canTell_12, h10, nt_clamp, nt_le, nt_lt, nt_eq, lit_le, lit_lt, le_lit, lt_lit, eq_lit, lit_eq, nt_neg, nt_ge, nt_add, nt_mul, nt_addl, lit_add, nt_mull, lit_mul, nt_sub, nt_subl, lit_sub, nt_divl, nt_m1, nt_m2, nt_m1', nt_m2', if_pos, Option.map_some]
    exact ok_some ⟨rfl, Or.inl ⟨rfl, fun a b h1 h2 => g1 a b h1 h2 (by omega)⟩⟩
theorem put3 {v : Int32} {s u : Nat} {f : Nat → Nat} (hs : s < 6) (hu : u < 8) (hf : f s = u) (h : ∀ q, q < 32 → bt v q = (decide (q < 3 * s) && (f (q / 3)).testBit (q % 3))) : ∀ q, q < 32 → bt (v ||| (nt u <<< (nt (3 * s) &&& 31))) q = (decide (q < 3 * (s + 1)) && (f (q / 3)).testBit (q % 3)) := by
  intro q hq
  rw [nt_31 _ (by omega), bt_or, h q hq, bt_shl (by omega) hq, bt_nt, decide_eq_true (show q - 3 * s < 32 from by omega), Bool.true_and]
  by_cases c1 : q < 3 * s
  · rw [decide_eq_true c1, decide_eq_false (show ¬ 3 * s ≤ q from by omega), decide_eq_true (show q < 3 * (s + 1) from by omega), Bool.false_and, Bool.or_false]
  · rw [decide_eq_false c1, decide_eq_true (show 3 * s ≤ q from by omega), Bool.false_and, Bool.false_or, Bool.true_and]
    by_cases c2 : q < 3 * (s + 1)
    · rw [decide_eq_true c2, Bool.true_and, show q / 3 = s from by omega, show q % 3 = q - 3 * s from by omega, hf]
    · rw [decide_eq_false c2, Bool.false_and, tb8 hu (by omega)]
theorem standB_ok {n m x : Nat} {w : aT} {X : Int32} {st : Nat → Nat} {I : xI} {J : xJ} (hn : n ≤ 6) (hm : m ≤ 4) (V : Vd n m w) (h : cMa n m w (I 1 0) (I 1 1) (I 2) (I 3) (I 4)) (hX : SD n X st) (hx : x < m) : Ok (f_X6_standBehind X (nt x) I J) (fun o => o.2 = (I, J) ∧ SD n o.1 (stx w st x)) := by
  have h7 : ∀ s, stx w st x s < n ∨ stx w st x s = 7 := by
    intro s
    unfold stx
    cases e : w.1 (st s) x with
    | none => exact Or.inr rfl
    | some t => exact Or.inl (V.1 _ _ _ e).2.2
  unfold f_X6_standBehind f_X6_standBehind_0 f_X6_standBehind_1
  refine ok_loop (fun s t => ∃ v z, t = (X, nt x, v, nt s, z, I, J) ∧ ∀ q, q < 32 → bt v q = (decide (q < 3 * s) && (stx w st x (q / 3)).testBit (q % 3))) n ?_ ?_ 5000 0 _ (by omega) (by omega) ⟨0, none, rfl, fun q _ => by rw [bt_zero, decide_eq_false (by omega)]; rfl⟩
  · rintro s hs t ⟨v, z, rfl, g⟩
    have hs8 : st s < 8 := by rcases (hX s hs).1 with c | c <;> omega
    have hu8 : stx w st x s < 8 := by rcases h7 s with c | c <;> omega
    have hp := put3 (show s < 6 from by omega) hu8 rfl g
    simp (disch := omega) only [b_X6_standBehind_1, f_X6_standBehind_2, h.1, nt_clamp, nt_le, nt_lt, nt_eq, lit_le, lit_lt, le_lit, lt_lit, eq_lit, lit_eq, nt_neg, nt_ge, nt_add, nt_mul, nt_addl, lit_add, nt_mull, lit_mul, nt_sub, nt_subl, lit_sub, nt_divl, nt_m1, nt_m2, nt_m1', nt_m2', if_neg, sd_ok hn hX hs, targetOf_ok hn hm V h, Option.bind_some]
    cases e : w.1 (st s) x with
    | none =>
      have e2 : stx w st x s = 7 := by unfold stx; rw [e]; rfl
      rw [e2] at hp
      simp (disch := omega) only [f_X6_standBehind_3, ov_n, Int32.reduceLE, if_false, f_X6_standBehind_4, f_X6_standBehind_6, nt_clamp, nt_le, nt_lt, nt_eq, lit_le, lit_lt, le_lit, lt_lit, eq_lit, lit_eq, nt_neg, nt_ge, nt_add, nt_mul, nt_addl, lit_add, nt_mull, lit_mul, nt_sub, nt_subl, lit_sub, nt_divl, nt_m1, nt_m2, nt_m1', nt_m2']
      exact ok_some ⟨_, _, rfl, hp⟩
    | some u =>
      have hu := (V.1 _ _ _ e).2.2
      have e2 : stx w st x s = u := by unfold stx; rw [e]; rfl
      rw [e2] at hp
      simp (disch := omega) only [f_X6_standBehind_3, ov_s, if_true, f_X6_standBehind_5, f_X6_standBehind_6, nt_clamp, nt_le, nt_lt, nt_eq, lit_le, lit_lt, le_lit, lt_lit, eq_lit, lit_eq, nt_neg, nt_ge, nt_add, nt_mul, nt_addl, lit_add, nt_mull, lit_mul, nt_sub, nt_subl, lit_sub, nt_divl, nt_m1, nt_m2, nt_m1', nt_m2']
      exact ok_some ⟨_, _, rfl, hp⟩
  · rintro t ⟨v, z, rfl, g⟩
    simp (disch := omega) only [b_X6_standBehind_1, f_X6_standBehind_7, h.1, nt_clamp, nt_le, nt_lt, nt_eq, lit_le, lit_lt, le_lit, lt_lit, eq_lit, lit_eq, nt_neg, nt_ge, nt_add, nt_mul, nt_addl, lit_add, nt_mull, lit_mul, nt_sub, nt_subl, lit_sub, nt_divl, nt_m1, nt_m2, nt_m1', nt_m2', if_pos, Option.map_some]
    refine ok_some ⟨rfl, fun s hs => ⟨h7 s, ?_⟩⟩
    intro r hr
    show bt v (3 * s + r) = _
    rw [g _ (by omega), decide_eq_true (by omega), Bool.true_and, show (3 * s + r) / 3 = s from by omega, show (3 * s + r) % 3 = r from by omega]
