/-! rounds of the reference -/
theorem ov_s (k : Nat) : ov (some k) = nt k := rfl
theorem ov_n : ov none = -2 := rfl
theorem areUnlike_ok {n m : Nat} {w : aT} {I : xI} {J : xJ} (hn : n ≤ 6) (hm : m ≤ 4) (V : Vd n m w) (h : rMa n m w (I 70) 0) {a b x : Nat} (ha : a < n) (hb : b < n) (hx : x < m) : f_X12_areUnlike (nt a) (nt b) (nt x) I J = some (bi (unl w a b x), I, J) := by
  simp (disch := omega) only [f_X12_areUnlike_9, f_X12_areUnlike_8, f_X12_areUnlike_7, f_X12_areUnlike_6, f_X12_areUnlike_5, f_X12_areUnlike_4, f_X12_areUnlike_3, f_X12_areUnlike_2, f_X12_areUnlike_1, f_X12_areUnlike_0, f_X12_areUnlike, answer_ok hn hm h ha hx, answer_ok hn hm h hb hx, if_true, if_false, if_pos, if_neg, e01, e10, em12, em21, e0m1, e0m2, e1m1, e1m2, em10, em20, Int32.reduceLT, Int32.reduceLE, eq_self, Option.bind_some, Option.map_some, false_or, or_false, or_self, true_or, or_true, not_true_eq_false, not_false_eq_true, false_and, and_false, true_and, and_true]
  unfold unl
  cases ea : w.2.1 a x with
  | none => rfl
  | some p =>
    have hp := (V.2.1 a x p ea).2.2
    cases eb : w.2.1 b x with
    | none =>
      simp (disch := omega) only [ov_s, ov_n, nt_clamp, nt_le, nt_lt, nt_eq, lit_le, lit_lt, le_lit, lt_lit, eq_lit, lit_eq, nt_neg, nt_ge, nt_add, nt_mul, nt_addl, lit_add, nt_mull, lit_mul, nt_sub, nt_subl, lit_sub, nt_divl, nt_m1, nt_m2, nt_m1', nt_m2', if_true, if_false, if_pos, if_neg, e01, e10, em12, em21, e0m1, e0m2, e1m1, e1m2, em10, em20, Int32.reduceLT, Int32.reduceLE, eq_self, Option.bind_some, Option.map_some, false_or, or_false, or_self, true_or, or_true, not_true_eq_false, not_false_eq_true, false_and, and_false, true_and, and_true]
      rfl
    | some q =>
      have hq := (V.2.1 b x q eb).2.2
      simp (disch := omega) only [ov_s, ov_n, nt_clamp, nt_le, nt_lt, nt_eq, lit_le, lit_lt, le_lit, lt_lit, eq_lit, lit_eq, nt_neg, nt_ge, nt_add, nt_mul, nt_addl, lit_add, nt_mull, lit_mul, nt_sub, nt_subl, lit_sub, nt_divl, nt_m1, nt_m2, nt_m1', nt_m2', if_true, if_false, if_pos, if_neg, e01, e10, em12, em21, e0m1, e0m2, e1m1, e1m2, em10, em20, Int32.reduceLT, Int32.reduceLE, eq_self, Option.bind_some, Option.map_some, false_or, or_false, or_self, true_or, or_true, not_true_eq_false, not_false_eq_true, false_and, and_false, true_and, and_true]
      by_cases e : p = q
      · rw [if_pos e, decide_eq_true e]; rfl
      · rw [if_neg e, decide_eq_false e]; rfl
/-- the reference's rounds, as a table -/
def cR (R : Nat → Nat → Option Nat) (c : Nat → Int32) : Prop := ∀ a b, a < 6 → b < 6 → c (6 * a + b) = ov (R a b)
theorem cR_up {R : Nat → Nat → Option Nat} {c c' : Nat → Int32} {a b : Nat} {o : Option Nat} (ha : a < 6) (hb : b < 6) (h : cR R c) (hc : ∀ j, c' j = if j = 6 * a + b then ov o else c j) : cR (aup R a b o) c' := by
  intro a' b' ha' hb'
  rw [hc]
  unfold aup
  by_cases e : a' = a ∧ b' = b
  · rw [if_pos e, if_pos (by omega)]
  · rw [if_neg e, if_neg (by omega)]; exact h a' b' ha' hb'
theorem aup_same {α : Type} {f : Nat → Nat → α} {s x : Nat} {v : α} (h : f s x = v) : aup f s x v = f := by
  funext s' x'
  unfold aup
  by_cases e : s' = s ∧ x' = x
  · rw [if_pos e, e.1, e.2, h]
  · rw [if_neg e]
theorem aup_aup {α : Type} (f : Nat → Nat → α) (s x : Nat) (v v' : α) : aup (aup f s x v) s x v' = aup f s x v' := by
  funext s' x'
  unfold aup
  by_cases e : s' = s ∧ x' = x
  · rw [if_pos e, if_pos e]
  · rw [if_neg e, if_neg e, if_neg e]
theorem fin24_ok {n m k : Nat} {w : aT} {I : xI} {J : xJ} (hn : n ≤ 6) (hm : m ≤ 4) (hk : k < 1000) (V : Vd n m w) (h1 : I 61 18 = nt m) (h : rMa n m w (I 70) 0) {a b : Nat} (ha : a < n) (hb : b < n) {R : Nat → Nat → Option Nat} (hR : cR R (I 76)) (hRk : ∀ p q, R p q = some k ↔ rdk m w k p q = some k) (hRb : ∀ p q r, R p q = some r → r ≤ k + 1) (hab : R a b = none) (mr : Bool) : Ok (f_X12_finds_24 (bi mr) (nt (k + 1)) (nt a) (nt b) 0 I J) (fun o => ∃ z5 I', o = .inl (bi (mr || ex m (fun x => hit (rdk m w k) w a b x k)), nt (k + 1), nt a, nt (b + 1), z5, I', J) ∧ cR (aup R a b (if ex m (fun x => hit (rdk m w k) w a b x k) = true then some (k + 1) else none)) (I' 76) ∧ ∀ c j, ¬ c = 76 → I' c j = I c j) := by
  unfold f_X12_finds_24
  refine ok_loop (fun i s => ∃ I', s = (bi (mr || ex i (fun x => hit (rdk m w k) w a b x k)), nt (k + 1), nt a, nt b, nt i, I', J) ∧ cR (aup R a b (if ex i (fun x => hit (rdk m w k) w a b x k) = true then some (k + 1) else none)) (I' 76) ∧ ∀ c j, ¬ c = 76 → I' c j = I c j) m ?_ ?_ 5000 0 _ (by omega) (by omega) ⟨I, by rw [ex, Bool.or_false]; rfl, ?_, fun _ _ _ => rfl⟩
  · rintro i hi s ⟨I', rfl, g1, g2⟩
    have e70 : I' 70 = I 70 := funext fun j => g2 70 j (by omega)
    have h' : rMa n m w (I' 70) 0 := by rw [e70]; exact h
    have h1' : I' 61 18 = nt m := (g2 61 18 (by omega)).trans h1
    simp (disch := omega) only [b_X12_finds_24, f_X12_finds_25, f_X12_finds_26, f_X12_finds_27, f_X12_finds_28, f_X12_finds_29, f_X12_finds_30, h1', nt_clamp, nt_le, nt_lt, nt_eq, lit_le, lit_lt, le_lit, lt_lit, eq_lit, lit_eq, nt_neg, nt_ge, nt_add, nt_mul, nt_addl, lit_add, nt_mull, lit_mul, nt_sub, nt_subl, lit_sub, nt_divl, nt_m1, nt_m2, nt_m1', nt_m2', if_true, if_false, if_pos, if_neg, e01, e10, em12, em21, e0m1, e0m2, e1m1, e1m2, em10, em20, Int32.reduceLT, Int32.reduceLE, eq_self, Option.bind_some, Option.map_some, false_or, or_false, or_self, true_or, or_true, not_true_eq_false, not_false_eq_true, false_and, and_false, true_and, and_true, to_ok hn hm h' ha hi, to_ok hn hm h' hb hi]
    have skip : hit (rdk m w k) w a b i k = false → Ok (f_X12_finds_34 (bi (mr || ex i (fun x => hit (rdk m w k) w a b x k))) (nt (k + 1)) (nt a) (nt b) (nt i) I' J) (Sum.elim (fun s => ∃ I', s = (bi (mr || ex (i + 1) (fun x => hit (rdk m w k) w a b x k)), nt (k + 1), nt a, nt b, nt (i + 1), I', J) ∧ cR (aup R a b (if ex (i + 1) (fun x => hit (rdk m w k) w a b x k) = true then some (k + 1) else none)) (I' 76) ∧ ∀ c j, ¬ c = 76 → I' c j = I c j) (fun o => ∃ z5 I', o = .inl (bi (mr || ex m (fun x => hit (rdk m w k) w a b x k)), nt (k + 1), nt a, nt (b + 1), z5, I', J) ∧ cR (aup R a b (if ex m (fun x => hit (rdk m w k) w a b x k) = true then some (k + 1) else none)) (I' 76) ∧ ∀ c j, ¬ c = 76 → I' c j = I c j)) := by
      intro hh
      simp only [f_X12_finds_34, nt_addl]
      refine ok_some ⟨I', ?_, ?_, g2⟩
      · rw [ex, hh, Bool.or_false]
      · rw [ex, hh, Bool.or_false]; exact g1
    cases ea : w.1 a i with
    | none =>
      simp only [ov_s, ov_n, Int32.reduceLT, if_true]
      exact skip (by unfold hit; rw [ea])
    | some p =>
      have hp := (V.1 a i p ea).2.2
      cases eb : w.1 b i with
      | none =>
        simp (disch := omega) only [ov_s, ov_n, nt_clamp, nt_le, nt_lt, nt_eq, lit_le, lit_lt, le_lit, lt_lit, eq_lit, lit_eq, nt_neg, nt_ge, nt_add, nt_mul, nt_addl, lit_add, nt_mull, lit_mul, nt_sub, nt_subl, lit_sub, nt_divl, nt_m1, nt_m2, nt_m1', nt_m2', if_true, if_false, if_pos, if_neg, e01, e10, em12, em21, e0m1, e0m2, e1m1, e1m2, em10, em20, Int32.reduceLT, Int32.reduceLE, eq_self, Option.bind_some, Option.map_some, false_or, or_false, or_self, true_or, or_true, not_true_eq_false, not_false_eq_true, false_and, and_false, true_and, and_true]
        exact skip (by unfold hit; rw [ea, eb])
      | some q =>
        have hq := (V.1 b i q eb).2.2
        have hc := g1 p q (by omega) (by omega)
        simp (disch := omega) only [ov_s, ov_n, nt_clamp, nt_le, nt_lt, nt_eq, lit_le, lit_lt, le_lit, lt_lit, eq_lit, lit_eq, nt_neg, nt_ge, nt_add, nt_mul, nt_addl, lit_add, nt_mull, lit_mul, nt_sub, nt_subl, lit_sub, nt_divl, nt_m1, nt_m2, nt_m1', nt_m2', if_true, if_false, if_pos, if_neg, e01, e10, em12, em21, e0m1, e0m2, e1m1, e1m2, em10, em20, Int32.reduceLT, Int32.reduceLE, eq_self, Option.bind_some, Option.map_some, false_or, or_false, or_self, true_or, or_true, not_true_eq_false, not_false_eq_true, false_and, and_false, true_and, and_true, f_X12_finds_31, hc]
        have eh : hit (rdk m w k) w a b i k = decide (rdk m w k p q = some k) := by unfold hit; rw [ea, eb]
        have key : (ov (aup R a b (if ex i (fun x => hit (rdk m w k) w a b x k) = true then some (k + 1) else none) p q) = nt (k + 1 - 1)) = (rdk m w k p q = some k) := by
          rw [show nt (k + 1 - 1) = ov (some k) from rfl, ov_eq]
          · unfold aup
            by_cases e : p = a ∧ q = b
            · rw [if_pos e, e.1, e.2]
              apply propext
              constructor
              · intro h3
                split at h3
                · have := Option.some.inj h3; omega
                · cases h3
              · intro h3
                have := (hRk a b).mpr h3
                rw [hab] at this; cases this
            · rw [if_neg e]
              exact propext (hRk p q)
          · intro r hr
            unfold aup at hr
            split at hr
            · split at hr
              · cases hr; omega
              · cases hr
            · have := hRb p q r hr; omega
          · intro r hr; cases hr; omega
        simp only [key]
        by_cases ck : rdk m w k p q = some k
        · rw [if_pos ck]
          simp (disch := omega) only [f_X12_finds_33, f_X12_finds_34, nt_clamp, nt_le, nt_lt, nt_eq, lit_le, lit_lt, le_lit, lt_lit, eq_lit, lit_eq, nt_neg, nt_ge, nt_add, nt_mul, nt_addl, lit_add, nt_mull, lit_mul, nt_sub, nt_subl, lit_sub, nt_divl, nt_m1, nt_m2, nt_m1', nt_m2', if_true, if_false, if_pos, if_neg, e01, e10, em12, em21, e0m1, e0m2, e1m1, e1m2, em10, em20, Int32.reduceLT, Int32.reduceLE, eq_self, Option.bind_some, Option.map_some, false_or, or_false, or_self, true_or, or_true, not_true_eq_false, not_false_eq_true, false_and, and_false, true_and, and_true]
          have hh : hit (rdk m w k) w a b i k = true := by rw [eh]; exact decide_eq_true ck
          refine ok_some ⟨xup I' 76 (6 * a + b) (nt (k + 1)), ?_, ?_, ?_⟩
          · rw [ex, hh, Bool.or_true, Bool.or_true]; rfl
          · rw [ex, hh, Bool.or_true, if_pos rfl]
            have := cR_up (c' := (xup I' 76 (6 * a + b) (nt (k + 1))) 76) (o := some (k + 1)) (by omega) (by omega) g1 (fun j => xup_if _ _ _ _ _)
            rw [aup_aup] at this
            exact this
          · intro c j hc
            rw [xup_bj _ _ _ _ _ hc, g2 c j hc]
        · rw [if_neg ck]
          unfold f_X12_finds_32
          exact skip (by rw [eh]; exact decide_eq_false ck)
  · rintro s ⟨I', rfl, g1, g2⟩
    have h1' : I' 61 18 = nt m := (g2 61 18 (by omega)).trans h1
    simp (disch := omega) only [b_X12_finds_24, f_X12_finds_35, h1', nt_clamp, nt_le, nt_lt, nt_eq, lit_le, lit_lt, le_lit, lt_lit, eq_lit, lit_eq, nt_neg, nt_ge, nt_add, nt_mul, nt_addl, lit_add, nt_mull, lit_mul, nt_sub, nt_subl, lit_sub, nt_divl, nt_m1, nt_m2, nt_m1', nt_m2', if_true, if_false, if_pos, if_neg, e01, e10, em12, em21, e0m1, e0m2, e1m1, e1m2, em10, em20, Int32.reduceLT, Int32.reduceLE, eq_self, Option.bind_some, Option.map_some, false_or, or_false, or_self, true_or, or_true, not_true_eq_false, not_false_eq_true, false_and, and_false, true_and, and_true]
    exact ok_some ⟨_, I', rfl, g1, g2⟩
  · rw [ex, if_neg (by decide), aup_same hab]; exact hR
/-- the rows of a round so far -/
def don (a b a' b' : Nat) : Bool := decide (a' < a) || (decide (a' = a) && decide (b' < b))
def rR (m : Nat) (w : aT) (k : Nat) (d : Nat → Nat → Bool) (a b : Nat) : Option Nat := rdk m w (if d a b = true then k + 1 else k) a b
theorem rR_k {m : Nat} {w : aT} {k : Nat} {d : Nat → Nat → Bool} (p q : Nat) : rR m w k d p q = some k ↔ rdk m w k p q = some k := by
  unfold rR
  by_cases c : d p q = true
  · rw [if_pos c]
    constructor
    · intro h
      exact rdk_down m w h
    · intro h; exact rdk_up m w h 1
  · rw [if_neg c]
theorem rR_le {m : Nat} {w : aT} {k : Nat} {d : Nat → Nat → Bool} (p q r : Nat) (h : rR m w k d p q = some r) : r ≤ k + 1 := by
  unfold rR at h
  have := rdk_le m w h
  split at this <;> omega
/-- whether the round has found one yet -/
def Mo (m : Nat) (w : aT) (k : Nat) (d : Nat → Nat → Bool) (mr : Bool) : Prop := (mr = true → ∃ a b, rdk m w (k + 1) a b = some (k + 1)) ∧ (mr = false → ∀ a b, d a b = true → ¬ rdk m w (k + 1) a b = some (k + 1))
theorem Mo_hi {n m : Nat} {w : aT} (V : Vd n m w) {k : Nat} {d d' : Nat → Nat → Bool} {mr : Bool} (h : Mo m w k d mr) (e : ∀ a b, a < n → b < n → d' a b = d a b) : Mo m w k d' mr := by
  refine ⟨h.1, fun hm a b hd hc => ?_⟩
  have hr := rdk_rng V hc
  rw [e a b hr.1 hr.2] at hd
  exact h.2 hm a b hd hc
theorem rR_hi {n m : Nat} {w : aT} (V : Vd n m w) {k : Nat} {d d' : Nat → Nat → Bool} (e : ∀ a b, a < n → b < n → d' a b = d a b) : rR m w k d' = rR m w k d := by
  funext a b
  unfold rR
  by_cases c : a < n ∧ b < n
  · rw [e a b c.1 c.2]
  · have hno : ∀ K, rdk m w K a b = none := by
      intro K
      cases ee : rdk m w K a b with
      | none => rfl
      | some r => exact absurd (rdk_rng V ee) c
    rw [hno, hno]
theorem fin20_ok {n m k : Nat} {w : aT} {I : xI} {J : xJ} (hn : n ≤ 6) (hm : m ≤ 4) (hk : k < 1000) (V : Vd n m w) (h0 : I 61 17 = nt n) (h1 : I 61 18 = nt m) (h : rMa n m w (I 70) 0) {a : Nat} (ha : a < n) (hR : cR (rR m w k (don a 0)) (I 76)) {mr : Bool} (hM : Mo m w k (don a 0) mr) (z : Option Value) : Ok (f_X12_finds_20 (bi mr) (nt (k + 1)) (nt a) 0 z I J) (fun o => ∃ mr' z4 z5 I', o = .inl (bi mr', nt (k + 1), nt (a + 1), z4, z5, I', J) ∧ cR (rR m w k (don (a + 1) 0)) (I' 76) ∧ Mo m w k (don (a + 1) 0) mr' ∧ ∀ c j, ¬ c = 76 → I' c j = I c j) := by
  unfold f_X12_finds_20
  refine ok_loop (fun b s => ∃ mr z5 I', s = (bi mr, nt (k + 1), nt a, nt b, z5, I', J) ∧ cR (rR m w k (don a b)) (I' 76) ∧ Mo m w k (don a b) mr ∧ ∀ c j, ¬ c = 76 → I' c j = I c j) n ?_ ?_ 5000 0 _ (by omega) (by omega) ⟨mr, z, I, rfl, hR, hM, fun _ _ _ => rfl⟩
  · rintro b hb s ⟨mr, z5, I', rfl, g1, gM, g2⟩
    have e70 : I' 70 = I 70 := funext fun j => g2 70 j (by omega)
    have h' : rMa n m w (I' 70) 0 := by rw [e70]; exact h
    have h0' : I' 61 17 = nt n := (g2 61 17 (by omega)).trans h0
    have h1' : I' 61 18 = nt m := (g2 61 18 (by omega)).trans h1
    have hc := g1 a b (by omega) (by omega)
    have en : don a b a b = false := by unfold don; simp
    have eR : rR m w k (don a b) a b = rdk m w k a b := by unfold rR; rw [en]; rfl
    have dstep : ∀ a' b', don a (b + 1) a' b' = (don a b a' b' || (decide (a' = a) && decide (b' = b))) := by
      intro a' b'
      unfold don
      by_cases c1 : a' = a
      · by_cases c2 : b' = b
        · rw [decide_eq_true (show b' < b + 1 from by omega)]; simp [c1, c2]
        · by_cases c3 : b' < b
          · simp [c1, c3, Nat.lt_succ_of_lt c3]
          · have : ¬ b' < b + 1 := by omega
            simp [c1, c2, c3, this]
      · simp [c1]
    have eS : ∀ o, o = rdk m w (k + 1) a b → aup (rR m w k (don a b)) a b o = rR m w k (don a (b + 1)) := by
      intro o ho
      funext a' b'
      unfold aup rR
      rw [dstep]
      by_cases e : a' = a ∧ b' = b
      · rw [if_pos e, e.1, e.2, decide_eq_true rfl, decide_eq_true rfl, ho]; simp
      · rw [if_neg e]
        have : (decide (a' = a) && decide (b' = b)) = false := by
          by_cases c1 : a' = a
          · have c2 : ¬ b' = b := fun c2 => e ⟨c1, c2⟩
            rw [decide_eq_false c2, Bool.and_false]
          · rw [decide_eq_false c1, Bool.false_and]
        rw [this, Bool.or_false]
    simp (disch := omega) only [b_X12_finds_20, f_X12_finds_21, h0', nt_clamp, nt_le, nt_lt, nt_eq, lit_le, lit_lt, le_lit, lt_lit, eq_lit, lit_eq, nt_neg, nt_ge, nt_add, nt_mul, nt_addl, lit_add, nt_mull, lit_mul, nt_sub, nt_subl, lit_sub, nt_divl, nt_m1, nt_m2, nt_m1', nt_m2', if_true, if_false, if_pos, if_neg, e01, e10, em12, em21, e0m1, e0m2, e1m1, e1m2, em10, em20, Int32.reduceLT, Int32.reduceLE, eq_self, Option.bind_some, Option.map_some, false_or, or_false, or_self, true_or, or_true, not_true_eq_false, not_false_eq_true, false_and, and_false, true_and, and_true, hc, eR]
    cases er : rdk m w k a b with
    | some r =>
      have hr := rdk_le m w er
      have er1 := rdk_up m w er 1
      simp (disch := omega) only [ov_s, ov_n, nt_clamp, nt_le, nt_lt, nt_eq, lit_le, lit_lt, le_lit, lt_lit, eq_lit, lit_eq, nt_neg, nt_ge, nt_add, nt_mul, nt_addl, lit_add, nt_mull, lit_mul, nt_sub, nt_subl, lit_sub, nt_divl, nt_m1, nt_m2, nt_m1', nt_m2', if_true, if_false, if_pos, if_neg, e01, e10, em12, em21, e0m1, e0m2, e1m1, e1m2, em10, em20, Int32.reduceLT, Int32.reduceLE, eq_self, Option.bind_some, Option.map_some, false_or, or_false, or_self, true_or, or_true, not_true_eq_false, not_false_eq_true, false_and, and_false, true_and, and_true, f_X12_finds_22, f_X12_finds_35]
      refine ok_some ⟨mr, z5, I', rfl, ?_, ?_, g2⟩
      · rw [← eS (some r) er1.symm, aup_same (eR.trans er)]; exact g1
      · refine ⟨gM.1, fun hm2 a' b' hd => ?_⟩
        rw [dstep, Bool.or_eq_true] at hd
        rcases hd with hd | hd
        · exact gM.2 hm2 a' b' hd
        · rw [Bool.and_eq_true] at hd
          rw [of_decide_eq_true hd.1, of_decide_eq_true hd.2, er1]
          intro hc
          have := Option.some.inj hc
          omega
    | none =>
      simp only [ov_s, ov_n, Int32.reduceLT, if_true, f_X12_finds_23]
      refine (fin24_ok hn hm hk V h1' h' ha hb g1 (fun p q => rR_k p q) (fun p q r hh => rR_le p q r hh) (eR.trans er) mr).imp ?_
      rintro o ⟨z5', I1, rfl, q1, q2⟩
      have e1 : rdk m w (k + 1) a b = if ex m (fun x => hit (rdk m w k) w a b x k) = true then some (k + 1) else none := by
        show (match rdk m w k a b with
          | some r => some r
          | none => if ex m (fun x => hit (rdk m w k) w a b x k) = true then some (k + 1) else none) = _
        rw [er]
      refine ⟨_, z5', I1, rfl, ?_, ?_, ?_⟩
      · rw [← eS _ e1.symm]; exact q1
      · refine ⟨fun hm2 => ?_, fun hm2 a' b' hd => ?_⟩
        · rw [Bool.or_eq_true] at hm2
          rcases hm2 with hm2 | hm2
          · exact gM.1 hm2
          · exact ⟨a, b, by rw [e1, if_pos hm2]⟩
        · rw [Bool.or_eq_false_iff] at hm2
          rw [dstep, Bool.or_eq_true] at hd
          rcases hd with hd | hd
          · exact gM.2 hm2.1 a' b' hd
          · rw [Bool.and_eq_true] at hd
            rw [of_decide_eq_true hd.1, of_decide_eq_true hd.2, e1, hm2.2, if_neg (by decide)]
            intro hc; cases hc
      · intro c j hc
        rw [q2 c j hc, g2 c j hc]
  · rintro s ⟨mr, z5, I', rfl, g1, gM, g2⟩
    have h0' : I' 61 17 = nt n := (g2 61 17 (by omega)).trans h0
    have ed : ∀ a' b', a' < n → b' < n → don (a + 1) 0 a' b' = don a n a' b' := by
      intro a' b' ha' hb'
      unfold don
      rw [decide_eq_true hb', decide_eq_false (show ¬ b' < 0 from by omega), Bool.and_false, Bool.or_false, Bool.and_true]
      by_cases c1 : a' < a
      · rw [decide_eq_true c1, decide_eq_true (show a' < a + 1 from by omega)]; rfl
      · by_cases c2 : a' = a
        · rw [decide_eq_true c2, decide_eq_true (show a' < a + 1 from by omega), Bool.or_true]
        · rw [decide_eq_false c1, decide_eq_false c2, decide_eq_false (show ¬ a' < a + 1 from by omega)]; rfl
    simp (disch := omega) only [b_X12_finds_20, f_X12_finds_36, h0', nt_clamp, nt_le, nt_lt, nt_eq, lit_le, lit_lt, le_lit, lt_lit, eq_lit, lit_eq, nt_neg, nt_ge, nt_add, nt_mul, nt_addl, lit_add, nt_mull, lit_mul, nt_sub, nt_subl, lit_sub, nt_divl, nt_m1, nt_m2, nt_m1', nt_m2', if_true, if_false, if_pos, if_neg, e01, e10, em12, em21, e0m1, e0m2, e1m1, e1m2, em10, em20, Int32.reduceLT, Int32.reduceLE, eq_self, Option.bind_some, Option.map_some, false_or, or_false, or_self, true_or, or_true, not_true_eq_false, not_false_eq_true, false_and, and_false, true_and, and_true]
    refine ok_some ⟨mr, _, z5, I', rfl, ?_, Mo_hi V gM ed, g2⟩
    rw [rR_hi V ed]; exact g1
theorem fin18_ok {n m k : Nat} {w : aT} {I : xI} {J : xJ} (hn : n ≤ 6) (hm : m ≤ 4) (hk : k < 1000) (V : Vd n m w) (h0 : I 61 17 = nt n) (h1 : I 61 18 = nt m) (h : rMa n m w (I 70) 0) (hR : cR (rdk m w k) (I 76)) (z4 z5 : Option Value) : Ok (f_X12_finds_18 0 (nt (k + 1)) 0 z4 z5 I J) (fun o => ∃ mr' z3 z4 z5 I', o = .inl (bi mr', nt (k + 1 + 1), z3, z4, z5, I', J) ∧ cR (rdk m w (k + 1)) (I' 76) ∧ (mr' = true → ∃ a b, rdk m w (k + 1) a b = some (k + 1)) ∧ (mr' = false → ∀ a b, ¬ rdk m w (k + 1) a b = some (k + 1)) ∧ ∀ c j, ¬ c = 76 → I' c j = I c j) := by
  have d0 : ∀ a b, don 0 0 a b = false := by intro a b; unfold don; simp
  have r0 : rR m w k (don 0 0) = rdk m w k := by
    funext a b; unfold rR; rw [d0]; rfl
  unfold f_X12_finds_18
  refine ok_loop (fun a s => ∃ mr z4 z5 I', s = (bi mr, nt (k + 1), nt a, z4, z5, I', J) ∧ cR (rR m w k (don a 0)) (I' 76) ∧ Mo m w k (don a 0) mr ∧ ∀ c j, ¬ c = 76 → I' c j = I c j) n ?_ ?_ 5000 0 _ (by omega) (by omega) ⟨false, z4, z5, I, rfl, by rw [r0]; exact hR, ⟨fun h => absurd h (by decide), fun _ a b hd => by rw [d0] at hd; cases hd⟩, fun _ _ _ => rfl⟩
  · rintro a ha s ⟨mr, z4, z5, I', rfl, g1, gM, g2⟩
    have e70 : I' 70 = I 70 := funext fun j => g2 70 j (by omega)
    have h' : rMa n m w (I' 70) 0 := by rw [e70]; exact h
    have h0' : I' 61 17 = nt n := (g2 61 17 (by omega)).trans h0
    have h1' : I' 61 18 = nt m := (g2 61 18 (by omega)).trans h1
    simp (disch := omega) only [b_X12_finds_18, f_X12_finds_19, h0', nt_clamp, nt_le, nt_lt, nt_eq, lit_le, lit_lt, le_lit, lt_lit, eq_lit, lit_eq, nt_neg, nt_ge, nt_add, nt_mul, nt_addl, lit_add, nt_mull, lit_mul, nt_sub, nt_subl, lit_sub, nt_divl, nt_m1, nt_m2, nt_m1', nt_m2', if_true, if_false, if_pos, if_neg, e01, e10, em12, em21, e0m1, e0m2, e1m1, e1m2, em10, em20, Int32.reduceLT, Int32.reduceLE, eq_self, Option.bind_some, Option.map_some, false_or, or_false, or_self, true_or, or_true, not_true_eq_false, not_false_eq_true, false_and, and_false, true_and, and_true]
    refine (fin20_ok hn hm hk V h0' h1' h' ha g1 gM z5).imp ?_
    rintro o ⟨mr', z4', z5', I1, rfl, q1, qM, q2⟩
    exact ⟨mr', z4', z5', I1, rfl, q1, qM, fun c j hc => (q2 c j hc).trans (g2 c j hc)⟩
  · rintro s ⟨mr, z4, z5, I', rfl, g1, gM, g2⟩
    have h0' : I' 61 17 = nt n := (g2 61 17 (by omega)).trans h0
    have ed : ∀ a b, a < n → b < n → don n 0 a b = true := by
      intro a b ha hb
      unfold don; rw [decide_eq_true ha]; rfl
    simp (disch := omega) only [b_X12_finds_18, f_X12_finds_37, h0', nt_clamp, nt_le, nt_lt, nt_eq, lit_le, lit_lt, le_lit, lt_lit, eq_lit, lit_eq, nt_neg, nt_ge, nt_add, nt_mul, nt_addl, lit_add, nt_mull, lit_mul, nt_sub, nt_subl, lit_sub, nt_divl, nt_m1, nt_m2, nt_m1', nt_m2', if_true, if_false, if_pos, if_neg, e01, e10, em12, em21, e0m1, e0m2, e1m1, e1m2, em10, em20, Int32.reduceLT, Int32.reduceLE, eq_self, Option.bind_some, Option.map_some, false_or, or_false, or_self, true_or, or_true, not_true_eq_false, not_false_eq_true, false_and, and_false, true_and, and_true]
    have r1 : rR m w k (don n 0) = rdk m w (k + 1) := by
      rw [rR_hi V (d := don n 0) (d' := fun _ _ => true) (fun a b ha hb => (ed a b ha hb).symm) |>.symm]
      funext a b; rfl
    rw [r1] at g1
    refine ok_some ⟨mr, _, z4, z5, I', rfl, g1, gM.1, ?_, g2⟩
    intro hm2 a b hc
    have hr := rdk_rng V hc
    exact gM.2 hm2 a b (ed a b hr.1 hr.2) hc
theorem fin15_ok {n m : Nat} {w : aT} {I : xI} {J : xJ} (hn : n ≤ 6) (hm : m ≤ 4) (V : Vd n m w) (h0 : I 61 17 = nt n) (h1 : I 61 18 = nt m) (h : rMa n m w (I 70) 0) (hR : cR (rdk m w 0) (I 76)) (x1 : Int32) (z2 z3 : Option Value) : Ok (f_X12_finds_15 x1 z2 z3 I J) (fun o => o.2.2 = J ∧ cR (rd m w) (o.2.1 76) ∧ ∀ c j, ¬ c = 76 → o.2.1 c j = I c j) := by
  unfold f_X12_finds_15 f_X12_finds_16
  have ending : ∀ (k : Nat) (I' : xI), cR (rdk m w k) (I' 76) → (∃ k', k = k' + 1 ∧ ∀ a b, ¬ rdk m w k a b = some k) → cR (rd m w) (I' 76) := by
    rintro k I' g1 ⟨k', rfl, hno⟩
    have hs := rdk_stable hno
    intro a b ha hb
    rw [g1 a b ha hb, hs 1 a b, ← hs 14 a b, rd_of V hn (by omega)]
  refine ok_loop (fun k s => ∃ mr z3 z4 z5 I', s = (bi mr, nt (k + 1), z3, z4, z5, I', J) ∧ cR (rdk m w k) (I' 76) ∧ (mr = true → k = 0 ∨ ∃ a b, rdk m w k a b = some k) ∧ (mr = false → ∃ k', k = k' + 1 ∧ ∀ a b, ¬ rdk m w k a b = some k) ∧ ∀ c j, ¬ c = 76 → I' c j = I c j) 15 ?_ ?_ 5000 0 _ (by omega) (by omega) ⟨true, z3, none, none, I, rfl, hR, fun _ => Or.inl rfl, fun h => absurd h (by decide), fun _ _ _ => rfl⟩
  · rintro k hk s ⟨mr, z3, z4, z5, I', rfl, g1, g3, g4, g2⟩
    have e70 : I' 70 = I 70 := funext fun j => g2 70 j (by omega)
    have h' : rMa n m w (I' 70) 0 := by rw [e70]; exact h
    have h0' : I' 61 17 = nt n := (g2 61 17 (by omega)).trans h0
    have h1' : I' 61 18 = nt m := (g2 61 18 (by omega)).trans h1
    simp (disch := omega) only [b_X12_finds_16, f_X12_finds_17, bi_0]
    cases mr with
    | false =>
      simp only [if_true, f_X12_finds_38, Option.map_some]
      exact ok_some ⟨rfl, ending k I' g1 (g4 rfl), g2⟩
    | true =>
      simp only [Bool.true_eq_false, if_false]
      refine (fin18_ok hn hm (by omega) V h0' h1' h' g1 z4 z5).imp ?_
      rintro o ⟨mr', z3', z4', z5', I1, rfl, q1, q3, q4, q2⟩
      exact ⟨mr', z3', z4', z5', I1, rfl, q1, fun e => Or.inr (q3 e), fun e => ⟨k, rfl, q4 e⟩, fun c j hc => (q2 c j hc).trans (g2 c j hc)⟩
  · rintro s ⟨mr, z3, z4, z5, I', rfl, g1, g3, g4, g2⟩
    cases mr with
    | false =>
      simp (disch := omega) only [b_X12_finds_16, bi_0, if_true, f_X12_finds_38, Option.map_some]
      exact ok_some ⟨rfl, ending 15 I' g1 (g4 rfl), g2⟩
    | true =>
      exfalso
      rcases g3 rfl with hh | ⟨a, b, hh⟩
      · omega
      · have := rdk_14 V hn hh; omega
theorem fin8_ok {n m : Nat} {w : aT} {I : xI} {J : xJ} (hn : n ≤ 6) (hm : m ≤ 4) (V : Vd n m w) (h1 : I 61 18 = nt m) (h : rMa n m w (I 70) 0) {a b : Nat} (ha : a < n) (hb : b < n) {R : Nat → Nat → Option Nat} (hR : cR R (I 76)) (hab : R a b = none) : Ok (f_X12_finds_8 (nt a) (nt b) 0 I J) (fun o => ∃ z3 I', o = .inl (nt a, nt (b + 1), z3, I', J) ∧ cR (aup R a b (rdk m w 0 a b)) (I' 76) ∧ ∀ c j, ¬ c = 76 → I' c j = I c j) := by
  unfold f_X12_finds_8
  refine ok_loop (fun i s => ∃ I', s = (nt a, nt b, nt i, I', J) ∧ cR (aup R a b (if ex i (fun x => unl w a b x) = true then some 0 else none)) (I' 76) ∧ ∀ c j, ¬ c = 76 → I' c j = I c j) m ?_ ?_ 5000 0 _ (by omega) (by omega) ⟨I, rfl, ?_, fun _ _ _ => rfl⟩
  · rintro i hi s ⟨I', rfl, g1, g2⟩
    have e70 : I' 70 = I 70 := funext fun j => g2 70 j (by omega)
    have h' : rMa n m w (I' 70) 0 := by rw [e70]; exact h
    have h1' : I' 61 18 = nt m := (g2 61 18 (by omega)).trans h1
    simp (disch := omega) only [b_X12_finds_8, f_X12_finds_9, f_X12_finds_10, h1', nt_clamp, nt_le, nt_lt, nt_eq, lit_le, lit_lt, le_lit, lt_lit, eq_lit, lit_eq, nt_neg, nt_ge, nt_add, nt_mul, nt_addl, lit_add, nt_mull, lit_mul, nt_sub, nt_subl, lit_sub, nt_divl, nt_m1, nt_m2, nt_m1', nt_m2', if_true, if_false, if_pos, if_neg, e01, e10, em12, em21, e0m1, e0m2, e1m1, e1m2, em10, em20, Int32.reduceLT, Int32.reduceLE, eq_self, Option.bind_some, Option.map_some, false_or, or_false, or_self, true_or, or_true, not_true_eq_false, not_false_eq_true, false_and, and_false, true_and, and_true, areUnlike_ok hn hm V h' ha hb hi, bi_0]
    cases hu : unl w a b i with
    | false =>
      simp only [if_true, f_X12_finds_12, nt_addl]
      refine ok_some ⟨I', rfl, ?_, g2⟩
      rw [ex, hu, Bool.or_false]; exact g1
    | true =>
      simp (disch := omega) only [Bool.true_eq_false, if_false, f_X12_finds_11, f_X12_finds_12, nt_clamp, nt_le, nt_lt, nt_eq, lit_le, lit_lt, le_lit, lt_lit, eq_lit, lit_eq, nt_neg, nt_ge, nt_add, nt_mul, nt_addl, lit_add, nt_mull, lit_mul, nt_sub, nt_subl, lit_sub, nt_divl, nt_m1, nt_m2, nt_m1', nt_m2', if_true, if_false, if_pos, if_neg, e01, e10, em12, em21, e0m1, e0m2, e1m1, e1m2, em10, em20, Int32.reduceLT, Int32.reduceLE, eq_self, Option.bind_some, Option.map_some, false_or, or_false, or_self, true_or, or_true, not_true_eq_false, not_false_eq_true, false_and, and_false, true_and, and_true]
      refine ok_some ⟨xup I' 76 (6 * a + b) 0, rfl, ?_, ?_⟩
      · rw [ex, hu, Bool.or_true, if_pos rfl]
        have := cR_up (c' := (xup I' 76 (6 * a + b) 0) 76) (o := some 0) (by omega) (by omega) g1 (fun j => xup_if _ _ _ _ _)
        rw [aup_aup] at this
        exact this
      · intro c j hc
        rw [xup_bj _ _ _ _ _ hc, g2 c j hc]
  · rintro s ⟨I', rfl, g1, g2⟩
    have h1' : I' 61 18 = nt m := (g2 61 18 (by omega)).trans h1
    simp (disch := omega) only [b_X12_finds_8, f_X12_finds_13, h1', nt_clamp, nt_le, nt_lt, nt_eq, lit_le, lit_lt, le_lit, lt_lit, eq_lit, lit_eq, nt_neg, nt_ge, nt_add, nt_mul, nt_addl, lit_add, nt_mull, lit_mul, nt_sub, nt_subl, lit_sub, nt_divl, nt_m1, nt_m2, nt_m1', nt_m2', if_true, if_false, if_pos, if_neg, e01, e10, em12, em21, e0m1, e0m2, e1m1, e1m2, em10, em20, Int32.reduceLT, Int32.reduceLE, eq_self, Option.bind_some, Option.map_some, false_or, or_false, or_self, true_or, or_true, not_true_eq_false, not_false_eq_true, false_and, and_false, true_and, and_true]
    exact ok_some ⟨_, I', rfl, g1, g2⟩
  · rw [ex, if_neg (by decide), aup_same hab]; exact hR
def rR0 (m : Nat) (w : aT) (d : Nat → Nat → Bool) (a b : Nat) : Option Nat := if d a b = true then rdk m w 0 a b else none
theorem rR0_hi {n m : Nat} {w : aT} (V : Vd n m w) {d d' : Nat → Nat → Bool} (e : ∀ a b, a < n → b < n → d' a b = d a b) : rR0 m w d' = rR0 m w d := by
  funext a b
  unfold rR0
  by_cases c : a < n ∧ b < n
  · rw [e a b c.1 c.2]
  · have hno : rdk m w 0 a b = none := by
      cases ee : rdk m w 0 a b with
      | none => rfl
      | some r => exact absurd (rdk_rng V ee) c
    rw [hno]
    split <;> split <;> rfl
theorem don_step (a b a' b' : Nat) : don a (b + 1) a' b' = (don a b a' b' || (decide (a' = a) && decide (b' = b))) := by
  unfold don
  by_cases c1 : a' = a
  · by_cases c2 : b' = b
    · rw [decide_eq_true (show b' < b + 1 from by omega)]; simp [c1, c2]
    · by_cases c3 : b' < b
      · simp [c1, c3, Nat.lt_succ_of_lt c3]
      · have : ¬ b' < b + 1 := by omega
        simp [c1, c2, c3, this]
  · simp [c1]
theorem don_row {n a a' b' : Nat} (hb' : b' < n) : don (a + 1) 0 a' b' = don a n a' b' := by
  unfold don
  rw [decide_eq_true hb', decide_eq_false (show ¬ b' < 0 from by omega), Bool.and_false, Bool.or_false, Bool.and_true]
  by_cases c1 : a' < a
  · rw [decide_eq_true c1, decide_eq_true (show a' < a + 1 from by omega)]; rfl
  · by_cases c2 : a' = a
    · rw [decide_eq_true c2, decide_eq_true (show a' < a + 1 from by omega), Bool.or_true]
    · rw [decide_eq_false c1, decide_eq_false c2, decide_eq_false (show ¬ a' < a + 1 from by omega)]; rfl
theorem fin6_ok {n m : Nat} {w : aT} {I : xI} {J : xJ} (hn : n ≤ 6) (hm : m ≤ 4) (V : Vd n m w) (h0 : I 61 17 = nt n) (h1 : I 61 18 = nt m) (h : rMa n m w (I 70) 0) {a : Nat} (ha : a < n) (hR : cR (rR0 m w (don a 0)) (I 76)) (z : Option Value) : Ok (f_X12_finds_6 (nt a) 0 z I J) (fun o => ∃ z2 z3 I', o = .inl (nt (a + 1), z2, z3, I', J) ∧ cR (rR0 m w (don (a + 1) 0)) (I' 76) ∧ ∀ c j, ¬ c = 76 → I' c j = I c j) := by
  unfold f_X12_finds_6
  refine ok_loop (fun b s => ∃ z3 I', s = (nt a, nt b, z3, I', J) ∧ cR (rR0 m w (don a b)) (I' 76) ∧ ∀ c j, ¬ c = 76 → I' c j = I c j) n ?_ ?_ 5000 0 _ (by omega) (by omega) ⟨z, I, rfl, hR, fun _ _ _ => rfl⟩
  · rintro b hb s ⟨z3, I', rfl, g1, g2⟩
    have e70 : I' 70 = I 70 := funext fun j => g2 70 j (by omega)
    have h' : rMa n m w (I' 70) 0 := by rw [e70]; exact h
    have h0' : I' 61 17 = nt n := (g2 61 17 (by omega)).trans h0
    have h1' : I' 61 18 = nt m := (g2 61 18 (by omega)).trans h1
    have en : don a b a b = false := by unfold don; simp
    have eR : rR0 m w (don a b) a b = none := by unfold rR0; rw [en]; rfl
    have eS : aup (rR0 m w (don a b)) a b (rdk m w 0 a b) = rR0 m w (don a (b + 1)) := by
      funext a' b'
      unfold aup rR0
      rw [don_step]
      by_cases e : a' = a ∧ b' = b
      · rw [if_pos e, e.1, e.2, decide_eq_true rfl, decide_eq_true rfl]; simp
      · rw [if_neg e]
        have : (decide (a' = a) && decide (b' = b)) = false := by
          by_cases c1 : a' = a
          · have c2 : ¬ b' = b := fun c2 => e ⟨c1, c2⟩
            rw [decide_eq_false c2, Bool.and_false]
          · rw [decide_eq_false c1, Bool.false_and]
        rw [this, Bool.or_false]
    simp (disch := omega) only [b_X12_finds_6, f_X12_finds_7, h0', nt_clamp, nt_le, nt_lt, nt_eq, lit_le, lit_lt, le_lit, lt_lit, eq_lit, lit_eq, nt_neg, nt_ge, nt_add, nt_mul, nt_addl, lit_add, nt_mull, lit_mul, nt_sub, nt_subl, lit_sub, nt_divl, nt_m1, nt_m2, nt_m1', nt_m2', if_true, if_false, if_pos, if_neg, e01, e10, em12, em21, e0m1, e0m2, e1m1, e1m2, em10, em20, Int32.reduceLT, Int32.reduceLE, eq_self, Option.bind_some, Option.map_some, false_or, or_false, or_self, true_or, or_true, not_true_eq_false, not_false_eq_true, false_and, and_false, true_and, and_true]
    refine (fin8_ok hn hm V h1' h' ha hb g1 eR).imp ?_
    rintro o ⟨z3', I1, rfl, q1, q2⟩
    exact ⟨z3', I1, rfl, by rw [← eS]; exact q1, fun c j hc => (q2 c j hc).trans (g2 c j hc)⟩
  · rintro s ⟨z3, I', rfl, g1, g2⟩
    have h0' : I' 61 17 = nt n := (g2 61 17 (by omega)).trans h0
    simp (disch := omega) only [b_X12_finds_6, f_X12_finds_14, h0', nt_clamp, nt_le, nt_lt, nt_eq, lit_le, lit_lt, le_lit, lt_lit, eq_lit, lit_eq, nt_neg, nt_ge, nt_add, nt_mul, nt_addl, lit_add, nt_mull, lit_mul, nt_sub, nt_subl, lit_sub, nt_divl, nt_m1, nt_m2, nt_m1', nt_m2', if_true, if_false, if_pos, if_neg, e01, e10, em12, em21, e0m1, e0m2, e1m1, e1m2, em10, em20, Int32.reduceLT, Int32.reduceLE, eq_self, Option.bind_some, Option.map_some, false_or, or_false, or_self, true_or, or_true, not_true_eq_false, not_false_eq_true, false_and, and_false, true_and, and_true]
    refine ok_some ⟨_, z3, I', rfl, ?_, g2⟩
    rw [rR0_hi V (d := don a n) (fun a' b' _ hb' => don_row hb')]; exact g1
theorem finds_ok {n m : Nat} {w : aT} {I : xI} {J : xJ} (hn : n ≤ 6) (hm : m ≤ 4) (V : Vd n m w) (h0 : I 61 17 = nt n) (h1 : I 61 18 = nt m) (h : rMa n m w (I 70) 0) : Ok (f_X12_finds I J) (fun o => o.2.2 = J ∧ cR (rd m w) (o.2.1 76) ∧ ∀ c j, ¬ c = 76 → o.2.1 c j = I c j) := by
  unfold f_X12_finds f_X12_finds_0 f_X12_finds_1
  refine ok_loop (fun k s => ∃ I', s = (nt k, I', J) ∧ (∀ j, j < k → I' 76 j = -2) ∧ ∀ c j, ¬ c = 76 → I' c j = I c j) 36 ?_ ?_ 5000 0 _ (by omega) (by omega) ⟨I, rfl, fun j hj => absurd hj (by omega), fun _ _ _ => rfl⟩
  · rintro k hk s ⟨I', rfl, g1, g2⟩
    simp (disch := omega) only [b_X12_finds_1, f_X12_finds_2, nt_clamp, nt_le, nt_lt, nt_eq, lit_le, lit_lt, le_lit, lt_lit, eq_lit, lit_eq, nt_neg, nt_ge, nt_add, nt_mul, nt_addl, lit_add, nt_mull, lit_mul, nt_sub, nt_subl, lit_sub, nt_divl, nt_m1, nt_m2, nt_m1', nt_m2', if_true, if_false, if_pos, if_neg, e01, e10, em12, em21, e0m1, e0m2, e1m1, e1m2, em10, em20, Int32.reduceLT, Int32.reduceLE, eq_self, Option.bind_some, Option.map_some, false_or, or_false, or_self, true_or, or_true, not_true_eq_false, not_false_eq_true, false_and, and_false, true_and, and_true]
    refine ok_some ⟨_, rfl, ?_, ?_⟩
    · intro j hj
      rw [xup_if]
      by_cases c : j = k
      · rw [if_pos c]
      · rw [if_neg c]; exact g1 j (by omega)
    · intro c j hc
      rw [xup_bj _ _ _ _ _ hc, g2 c j hc]
  · rintro s ⟨I1, rfl, f1, f2⟩
    simp (disch := omega) only [b_X12_finds_1, f_X12_finds_3, nt_clamp, nt_le, nt_lt, nt_eq, lit_le, lit_lt, le_lit, lt_lit, eq_lit, lit_eq, nt_neg, nt_ge, nt_add, nt_mul, nt_addl, lit_add, nt_mull, lit_mul, nt_sub, nt_subl, lit_sub, nt_divl, nt_m1, nt_m2, nt_m1', nt_m2', if_true, if_false, if_pos, if_neg, e01, e10, em12, em21, e0m1, e0m2, e1m1, e1m2, em10, em20, Int32.reduceLT, Int32.reduceLE, eq_self, Option.bind_some, Option.map_some, false_or, or_false, or_self, true_or, or_true, not_true_eq_false, not_false_eq_true, false_and, and_false, true_and, and_true]
    apply ok_map
    unfold f_X12_finds_4
    have d0 : ∀ a b, don 0 0 a b = false := by intro a b; unfold don; simp
    refine ok_loop (fun a s => ∃ z2 z3 I', s = (nt a, z2, z3, I', J) ∧ cR (rR0 m w (don a 0)) (I' 76) ∧ ∀ c j, ¬ c = 76 → I' c j = I c j) n ?_ ?_ 5000 0 _ (by omega) (by omega) ⟨none, none, I1, rfl, ?_, f2⟩
    · rintro a ha s ⟨z2, z3, I', rfl, g1, g2⟩
      have e70 : I' 70 = I 70 := funext fun j => g2 70 j (by omega)
      have h' : rMa n m w (I' 70) 0 := by rw [e70]; exact h
      have h0' : I' 61 17 = nt n := (g2 61 17 (by omega)).trans h0
      have h1' : I' 61 18 = nt m := (g2 61 18 (by omega)).trans h1
      simp (disch := omega) only [b_X12_finds_4, f_X12_finds_5, h0', nt_clamp, nt_le, nt_lt, nt_eq, lit_le, lit_lt, le_lit, lt_lit, eq_lit, lit_eq, nt_neg, nt_ge, nt_add, nt_mul, nt_addl, lit_add, nt_mull, lit_mul, nt_sub, nt_subl, lit_sub, nt_divl, nt_m1, nt_m2, nt_m1', nt_m2', if_true, if_false, if_pos, if_neg, e01, e10, em12, em21, e0m1, e0m2, e1m1, e1m2, em10, em20, Int32.reduceLT, Int32.reduceLE, eq_self, Option.bind_some, Option.map_some, false_or, or_false, or_self, true_or, or_true, not_true_eq_false, not_false_eq_true, false_and, and_false, true_and, and_true]
      refine (fin6_ok hn hm V h0' h1' h' ha g1 z3).imp ?_
      rintro o ⟨z2', z3', I2, rfl, q1, q2⟩
      exact ⟨z2', z3', I2, rfl, q1, fun c j hc => (q2 c j hc).trans (g2 c j hc)⟩
    · rintro s ⟨z2, z3, I', rfl, g1, g2⟩
      have e70 : I' 70 = I 70 := funext fun j => g2 70 j (by omega)
      have h' : rMa n m w (I' 70) 0 := by rw [e70]; exact h
      have h0' : I' 61 17 = nt n := (g2 61 17 (by omega)).trans h0
      have h1' : I' 61 18 = nt m := (g2 61 18 (by omega)).trans h1
      simp (disch := omega) only [b_X12_finds_4, h0', nt_clamp, nt_le, nt_lt, nt_eq, lit_le, lit_lt, le_lit, lt_lit, eq_lit, lit_eq, nt_neg, nt_ge, nt_add, nt_mul, nt_addl, lit_add, nt_mull, lit_mul, nt_sub, nt_subl, lit_sub, nt_divl, nt_m1, nt_m2, nt_m1', nt_m2', if_true, if_false, if_pos, if_neg, e01, e10, em12, em21, e0m1, e0m2, e1m1, e1m2, em10, em20, Int32.reduceLT, Int32.reduceLE, eq_self, Option.bind_some, Option.map_some, false_or, or_false, or_self, true_or, or_true, not_true_eq_false, not_false_eq_true, false_and, and_false, true_and, and_true]
      apply ok_map
      have r1 : rR0 m w (don n 0) = rdk m w 0 := by
        rw [← rR0_hi V (d := don n 0) (d' := fun _ _ => true) (fun a b ha hb => by unfold don; rw [decide_eq_true ha]; rfl)]
        funext a b; rfl
      rw [r1] at g1
      refine (fin15_ok hn hm V h0' h1' h' g1 (nt n) z2 z3).imp ?_
      rintro ⟨_, I2, J2⟩ ⟨rfl, q1, q2⟩
      exact ⟨rfl, q1, fun c j hc => (q2 c j hc).trans (g2 c j hc)⟩
    · intro a b ha hb
      rw [f1 _ (by omega)]
      unfold rR0; rw [d0]; rfl
