/-! rounds of the class -/
theorem bt_0 {x : Int32} : x = 0 ↔ ∀ q, q < 32 → bt x q = false := by
  constructor
  · intro h q _; rw [h, bt_zero]
  · intro h; apply bt_ext; intro q hq; rw [h q hq, bt_zero]
theorem rdk_px (m : Nat) (w : aT) (K : Nat) {a b : Nat} (ha : a < 6) (hb : b < 6) (hne : ¬ a = b) : rdk m w K (pL (pX a b)) (pH (pX a b)) = rdk m w K a b := by
  rcases Nat.lt_or_gt_of_ne hne with hl | hl
  · rw [(pX_inv a ha b hb hl).1, (pX_inv a ha b hb hl).2]
  · rw [pX_comm a ha b hb, (pX_inv b hb a ha hl).1, (pX_inv b hb a ha hl).2, rdk_comm]
theorem kn_ok {n m : Nat} {w : aT} (hn : n ≤ 6) (V : Vd n m w) {K : Nat} {v : Int32} {c33 c34 : Nat → Int32} (h : cPk m w K v c33 c34) {p : Nat} (hp : p < 15) (h0 : rdk m w K (pL p) (pH p) = none) : (c33 p &&& v = 0) = (ex m (fun x => hit (rdk m w K) w (pL p) (pH p) x K) = false) := by
  obtain ⟨h1, h2, h3⟩ := h
  apply propext
  rw [bt_0]
  constructor
  · intro hz
    cases e : ex m (fun x => hit (rdk m w K) w (pL p) (pH p) x K) with
    | false => rfl
    | true =>
      exfalso
      obtain ⟨x, hx, hh⟩ := ex_iff.mp e
      obtain ⟨a, b, ea, eb, er⟩ := hit_iff.mp hh
      have ha := (V.1 _ _ _ ea).2.2
      have hb := (V.1 _ _ _ eb).2.2
      have hne : ¬ a = b := by intro e; rw [e, rdk_self] at er; cases er
      have hq := pX_lt a (by omega) b (by omega)
      have hz := hz (pX a b) (by omega)
      have b1 : bt (c33 p) (pX a b) = true := by
        rw [h1 p hp _ (by omega)]
        exact ex_iff.mpr ⟨x, hx, (sp_bt hn V (by omega)).mpr ⟨a, b, ea, eb, hne, rfl⟩⟩
      have b2 : bt v (pX a b) = true := by
        rw [h3 _ (by omega), decide_eq_true hq, rdk_px m w K (by omega) (by omega) hne, er]; rfl
      rw [bt_and, b1, b2] at hz
      cases hz
  · intro he q hq
    rw [bt_and]
    cases e1 : bt (c33 p) q with
    | false => rfl
    | true =>
      cases e2 : bt v q with
      | false => rfl
      | true =>
        exfalso
        rw [h1 p hp q hq] at e1
        rw [h3 q hq, Bool.and_eq_true] at e2
        obtain ⟨x, hx, hs⟩ := ex_iff.mp e1
        obtain ⟨a, b, ea, eb, hne, rfl⟩ := (sp_bt hn V hq).mp hs
        have ha := (V.1 _ _ _ ea).2.2
        have hb := (V.1 _ _ _ eb).2.2
        rw [rdk_px m w K (by omega) (by omega) hne] at e2
        cases er : rdk m w K a b with
        | none => rw [er] at e2; exact absurd e2.2 (by decide)
        | some j =>
          have hj := rdk_next m w hx ea eb er h0
          rw [hj] at er
          have := ex_false.mp he x hx
          rw [hit_iff.mpr ⟨a, b, ea, eb, er⟩] at this
          cases this
theorem goRound_ok {n m : Nat} {w : aT} {I : xI} {J : xJ} (hn : n ≤ 6) (V : Vd n m w) {K : Nat} (hK : K < 1000) (h : cPk m w K (I 32 3) (I 33) (I 34)) : Ok (f_X6_goRound (nt (K + 1)) I J) (fun o => o.2.2 = J ∧ cPk m w (K + 1) (o.2.1 32 3) (o.2.1 33) (o.2.1 34) ∧ ∀ c j, ¬ c = 34 → ¬ (c = 32 ∧ j = 3) → o.2.1 c j = I c j) := by
  have hk := h
  obtain ⟨h1, h2, h3⟩ := h
  unfold f_X6_goRound f_X6_goRound_0 f_X6_goRound_1
  refine ok_loop (fun k s => ∃ I', s = (nt (K + 1), I 32 3, nt k, I', J) ∧ (∀ p, p < 15 → I' 34 p = ov (rdk m w (if p < k then K + 1 else K) (pL p) (pH p))) ∧ (∀ q, q < 32 → bt (I' 32 3) q = (decide (q < 15) && (rdk m w (if q < k then K + 1 else K) (pL q) (pH q)).isSome)) ∧ ∀ c j, ¬ c = 34 → ¬ (c = 32 ∧ j = 3) → I' c j = I c j) 15 ?_ ?_ 5000 0 _ (by omega) (by omega) ⟨I, rfl, ?_, ?_, fun _ _ _ _ => rfl⟩
  · rintro k hk15 s ⟨I', rfl, g1, g2, g3⟩
    have e33 : I' 33 k = I 33 k := g3 33 k (by omega) (by omega)
    have hb : bt (I 32 3) k = (rdk m w K (pL k) (pH k)).isSome := by
      rw [h3 k (by omega), decide_eq_true hk15, Bool.true_and]
    simp (disch := omega) only [b_X6_goRound_1, f_X6_goRound_2, f_X6_goRound_3, nt_clamp, nt_le, nt_lt, nt_eq, lit_le, lit_lt, le_lit, lt_lit, eq_lit, lit_eq, nt_neg, nt_ge, nt_add, nt_mul, nt_addl, lit_add, nt_mull, lit_mul, nt_sub, nt_subl, lit_sub, nt_divl, nt_m1, nt_m2, nt_m1', nt_m2', if_true, if_false, if_pos, if_neg, e01, e10, em12, em21, e0m1, e0m2, e1m1, e1m2, em10, em20, Int32.reduceLT, Int32.reduceLE, eq_self, Option.bind_some, Option.map_some, false_or, or_false, or_self, true_or, or_true, not_true_eq_false, not_false_eq_true, false_and, and_false, true_and, and_true, nt_31, has_bi, bi_0, hb, e33]
    have same : rdk m w (K + 1) (pL k) (pH k) = rdk m w K (pL k) (pH k) → Ok (some (Sum.inl (nt (K + 1), I 32 3, nt (k + 1), I', J)) : Option ((Int32 × Int32 × Int32 × xI × xJ) ⊕ (Unit × xI × xJ))) (Sum.elim (fun s => ∃ I', s = (nt (K + 1), I 32 3, nt (k + 1), I', J) ∧ (∀ p, p < 15 → I' 34 p = ov (rdk m w (if p < k + 1 then K + 1 else K) (pL p) (pH p))) ∧ (∀ q, q < 32 → bt (I' 32 3) q = (decide (q < 15) && (rdk m w (if q < k + 1 then K + 1 else K) (pL q) (pH q)).isSome)) ∧ ∀ c j, ¬ c = 34 → ¬ (c = 32 ∧ j = 3) → I' c j = I c j) (fun o => o.2.2 = J ∧ cPk m w (K + 1) (o.2.1 32 3) (o.2.1 33) (o.2.1 34) ∧ ∀ c j, ¬ c = 34 → ¬ (c = 32 ∧ j = 3) → o.2.1 c j = I c j)) := by
      intro hs
      have hs2 : ∀ p, rdk m w (if p < k + 1 then K + 1 else K) (pL p) (pH p) = rdk m w (if p < k then K + 1 else K) (pL p) (pH p) := by
        intro p
        by_cases e : p = k
        · rw [e, if_pos (by omega), if_neg (by omega), hs]
        · by_cases c : p < k
          · rw [if_pos c, if_pos (by omega)]
          · rw [if_neg c, if_neg (by omega)]
      refine ok_some ⟨I', rfl, ?_, ?_, g3⟩
      · intro p hp; rw [hs2]; exact g1 p hp
      · intro q hq; rw [hs2]; exact g2 q hq
    cases e : rdk m w K (pL k) (pH k) with
    | some r =>
      simp only [Option.isSome_some, Bool.true_eq_false, if_false, f_X6_goRound_5, nt_addl]
      exact same (by rw [e]; exact rdk_up m w e 1)
    | none =>
      simp only [Option.isSome_none, if_true, kn_ok hn V hk hk15 e]
      cases ee : ex m (fun x => hit (rdk m w K) w (pL k) (pH k) x K) with
      | false =>
        rw [if_pos rfl]
        simp only [f_X6_goRound_5, nt_addl]
        refine same ?_
        rw [e]; unfold rdk; rw [e]; dsimp only; rw [ee]; rfl
      | true =>
        have er : rdk m w (K + 1) (pL k) (pH k) = some (K + 1) := by
          unfold rdk; rw [e]; dsimp only; rw [ee]; rfl
        rw [if_neg (by decide)]
        simp (disch := omega) only [f_X6_goRound_4, f_X6_goRound_5, nt_clamp, nt_le, nt_lt, nt_eq, lit_le, lit_lt, le_lit, lt_lit, eq_lit, lit_eq, nt_neg, nt_ge, nt_add, nt_mul, nt_addl, lit_add, nt_mull, lit_mul, nt_sub, nt_subl, lit_sub, nt_divl, nt_m1, nt_m2, nt_m1', nt_m2', if_true, if_false, if_pos, if_neg, e01, e10, em12, em21, e0m1, e0m2, e1m1, e1m2, em10, em20, Int32.reduceLT, Int32.reduceLE, eq_self, Option.bind_some, Option.map_some, false_or, or_false, or_self, true_or, or_true, not_true_eq_false, not_false_eq_true, false_and, and_false, true_and, and_true, xup_bj, nt_31]
        refine ok_some ⟨_, rfl, ?_, ?_, ?_⟩
        · intro p hp
          rw [xup_bj _ _ _ _ _ (by omega), xup_if]
          by_cases c : p = k
          · rw [if_pos c, c, if_pos (by omega), er]; rfl
          · rw [if_neg c, g1 p hp]
            by_cases c2 : p < k
            · rw [if_pos c2, if_pos (by omega)]
            · rw [if_neg c2, if_neg (by omega)]
        · intro q hq
          rw [xup_at, bt_or, one_shl (by omega) hq, g2 q hq]
          by_cases c : q = k
          · rw [c, decide_eq_true rfl, Bool.or_true, if_pos (show k < k + 1 from by omega), er, decide_eq_true hk15]; rfl
          · rw [decide_eq_false c, Bool.or_false]
            by_cases c2 : q < k
            · rw [if_pos c2, if_pos (by omega)]
            · rw [if_neg c2, if_neg (by omega)]
        · intro c j q1 q2
          rw [xup_no _ _ _ _ q2, xup_bj _ _ _ _ _ q1, g3 c j q1 q2]
  · rintro s ⟨I', rfl, g1, g2, g3⟩
    simp (disch := omega) only [b_X6_goRound_1, f_X6_goRound_6, nt_clamp, nt_le, nt_lt, nt_eq, lit_le, lit_lt, le_lit, lt_lit, eq_lit, lit_eq, nt_neg, nt_ge, nt_add, nt_mul, nt_addl, lit_add, nt_mull, lit_mul, nt_sub, nt_subl, lit_sub, nt_divl, nt_m1, nt_m2, nt_m1', nt_m2', if_true, if_false, if_pos, if_neg, e01, e10, em12, em21, e0m1, e0m2, e1m1, e1m2, em10, em20, Int32.reduceLT, Int32.reduceLE, eq_self, Option.bind_some, Option.map_some, false_or, or_false, or_self, true_or, or_true, not_true_eq_false, not_false_eq_true, false_and, and_false, true_and, and_true]
    refine ok_some ⟨rfl, ⟨?_, ?_, ?_⟩, g3⟩
    · intro p hp q hq
      have := g3 33 p (by omega) (by omega)
      dsimp only
      rw [this]; exact h1 p hp q hq
    · intro p hp
      have := g1 p hp
      rw [if_pos hp] at this
      exact this
    · intro q hq
      have := g2 q hq
      dsimp only
      rw [this]
      by_cases c : q < 15
      · rw [if_pos c]
      · rw [decide_eq_false c, Bool.false_and, Bool.false_and]
  · intro p hp; rw [if_neg (by omega)]; exact h2 p hp
  · intro q hq; rw [if_neg (by omega)]; exact h3 q hq
theorem refr11_ok {n m : Nat} {w : aT} {I : xI} {J : xJ} (hn : n ≤ 6) (V : Vd n m w) (h : cPk m w 0 (I 32 3) (I 33) (I 34)) (x1 : Int32) (z : Option Value) : Ok (f_X6_refresh_11 x1 z I J) (fun o => o.2.2 = J ∧ cPk m w 15 (o.2.1 32 3) (o.2.1 33) (o.2.1 34) ∧ ∀ c j, ¬ c = 34 → ¬ (c = 32 ∧ j = 3) → o.2.1 c j = I c j) := by
  unfold f_X6_refresh_11 f_X6_refresh_12
  refine ok_loop (fun k s => ∃ I', s = (nt (k + 1), z, I', J) ∧ cPk m w k (I' 32 3) (I' 33) (I' 34) ∧ ∀ c j, ¬ c = 34 → ¬ (c = 32 ∧ j = 3) → I' c j = I c j) 15 ?_ ?_ 5000 0 _ (by omega) (by omega) ⟨I, rfl, h, fun _ _ _ _ => rfl⟩
  · rintro k hk s ⟨I', rfl, g1, g2⟩
    simp (disch := omega) only [b_X6_refresh_12, f_X6_refresh_13, nt_clamp, nt_le, nt_lt, nt_eq, lit_le, lit_lt, le_lit, lt_lit, eq_lit, lit_eq, nt_neg, nt_ge, nt_add, nt_mul, nt_addl, lit_add, nt_mull, lit_mul, nt_sub, nt_subl, lit_sub, nt_divl, nt_m1, nt_m2, nt_m1', nt_m2', if_true, if_false, if_pos, if_neg, e01, e10, em12, em21, e0m1, e0m2, e1m1, e1m2, em10, em20, Int32.reduceLT, Int32.reduceLE, eq_self, Option.bind_some, Option.map_some, false_or, or_false, or_self, true_or, or_true, not_true_eq_false, not_false_eq_true, false_and, and_false, true_and, and_true]
    apply ok_bind
    refine (goRound_ok hn V (by omega) g1).imp ?_
    rintro ⟨_, I1, J1⟩ ⟨rfl, q1, q2⟩
    simp only [f_X6_refresh_14, nt_addl]
    refine ok_some ⟨I1, rfl, q1, ?_⟩
    intro c j c1 c2
    exact (q2 c j c1 c2).trans (g2 c j c1 c2)
  · rintro s ⟨I', rfl, g1, g2⟩
    simp (disch := omega) only [b_X6_refresh_12, f_X6_refresh_15, nt_clamp, nt_le, nt_lt, nt_eq, lit_le, lit_lt, le_lit, lt_lit, eq_lit, lit_eq, nt_neg, nt_ge, nt_add, nt_mul, nt_addl, lit_add, nt_mull, lit_mul, nt_sub, nt_subl, lit_sub, nt_divl, nt_m1, nt_m2, nt_m1', nt_m2', if_true, if_false, if_pos, if_neg, e01, e10, em12, em21, e0m1, e0m2, e1m1, e1m2, em10, em20, Int32.reduceLT, Int32.reduceLE, eq_self, Option.bind_some, Option.map_some, false_or, or_false, or_self, true_or, or_true, not_true_eq_false, not_false_eq_true, false_and, and_false, true_and, and_true]
    exact ok_some ⟨rfl, g1, g2⟩
def dn (a b p : Nat) : Bool := decide (pL p < a) || (decide (pL p = a) && decide (pH p < b))
theorem dn_step : ∀ a, a < 6 → ∀ b, b < 6 → a < b → ∀ p, p < 15 → dn a (b + 1) p = (dn a b p || decide (p = pX a b)) := by decide
theorem dn_first : ∀ a, a < 6 → ∀ p, p < 15 → dn a (a + 1) p = dn a 0 p := by decide
theorem unl_hi {n m : Nat} {w : aT} (V : Vd n m w) {a b x : Nat} (h : n ≤ b) : unl w a b x = false := by
  unfold unl
  cases eb : w.2.1 b x with
  | none => cases w.2.1 a x <;> rfl
  | some q => have := (V.2.1 b x q eb).1; omega
theorem sp_hi {n m : Nat} {w : aT} (V : Vd n m w) {a b x q : Nat} (h : n ≤ b) : bt (sp w a b x) q = false := by
  unfold sp
  cases eb : w.1 b x with
  | none => cases w.1 a x <;> exact bt_zero q
  | some r => have := (V.1 b x r eb).1; omega
/-- the pairs of which dn speaks are looked at -/
def cLk (m : Nat) (w : aT) (d : Nat → Bool) (v : Int32) (c33 c34 : Nat → Int32) : Prop := (∀ p, p < 15 → ∀ q, q < 32 → bt (c33 p) q = (d p && ex m (fun x => bt (sp w (pL p) (pH p) x) q))) ∧ (∀ p, p < 15 → c34 p = if d p = true ∧ ex m (unl w (pL p) (pH p)) = true then 0 else -2) ∧ ∀ q, q < 32 → bt v q = (decide (q < 15) && (d q && ex m (unl w (pL q) (pH q))))
theorem cLk_congr {m : Nat} {w : aT} {d d' : Nat → Bool} {v : Int32} {c33 c34 : Nat → Int32} (h : cLk m w d v c33 c34) (e : ∀ p, p < 15 → d' p = d p) : cLk m w d' v c33 c34 := by
  obtain ⟨h1, h2, h3⟩ := h
  refine ⟨?_, ?_, ?_⟩
  · intro p hp q hq; rw [e p hp]; exact h1 p hp q hq
  · intro p hp; rw [e p hp]; exact h2 p hp
  · intro q hq
    rw [h3 q hq]
    by_cases c : q < 15
    · rw [e q c]
    · rw [decide_eq_false c, Bool.false_and, Bool.false_and]
theorem cLk_hi {n m : Nat} {w : aT} (V : Vd n m w) {d d' : Nat → Bool} {v : Int32} {c33 c34 : Nat → Int32} (h : cLk m w d v c33 c34) (e : ∀ p, p < 15 → pH p < n → d' p = d p) : cLk m w d' v c33 c34 := by
  have eu : ∀ p, p < 15 → (d' p && ex m (unl w (pL p) (pH p))) = (d p && ex m (unl w (pL p) (pH p))) := by
    intro p hp
    by_cases c : pH p < n
    · rw [e p hp c]
    · rw [ex_false.mpr (fun x _ => unl_hi V (by omega)), Bool.and_false, Bool.and_false]
  obtain ⟨h1, h2, h3⟩ := h
  refine ⟨?_, ?_, ?_⟩
  · intro p hp q hq
    rw [h1 p hp q hq]
    by_cases c : pH p < n
    · rw [e p hp c]
    · rw [ex_false.mpr (fun x _ => sp_hi V (by omega)), Bool.and_false, Bool.and_false]
  · intro p hp
    rw [h2 p hp]
    simp only [← Bool.and_eq_true, eu p hp]
  · intro q hq
    rw [h3 q hq]
    by_cases c : q < 15
    · rw [eu q c]
    · rw [decide_eq_false c, Bool.false_and, Bool.false_and]
theorem cLk_all {n m : Nat} {w : aT} (V : Vd n m w) {d : Nat → Bool} {v : Int32} {c33 c34 : Nat → Int32} (h : cLk m w d v c33 c34) (e : ∀ p, p < 15 → pH p < n → d p = true) : cPk m w 0 v c33 c34 := by
  have h := cLk_hi V (d' := fun _ => true) h (fun p hp hh => (e p hp hh).symm)
  obtain ⟨h1, h2, h3⟩ := h
  refine ⟨?_, ?_, ?_⟩
  · intro p hp q hq; rw [h1 p hp q hq, Bool.true_and]
  · intro p hp
    rw [h2 p hp]
    unfold rdk
    cases c : ex m (fun x => unl w (pL p) (pH p) x) with
    | true => rw [if_pos ⟨rfl, rfl⟩, if_pos rfl]; rfl
    | false => rw [if_neg (by simp), if_neg (by decide)]; rfl
  · intro q hq
    rw [h3 q hq, Bool.true_and]
    unfold rdk
    cases c : ex m (fun x => unl w (pL q) (pH q) x) with
    | true => rfl
    | false => rfl
theorem cLk_look {m : Nat} {w : aT} {a b : Nat} (ha : a < 6) (hb : b < 6) (hab : a < b) {v v' : Int32} {c33 c34 e33 e34 : Nat → Int32} (h : cLk m w (dn a b) v c33 c34) (h1 : ∀ j q, q < 32 → bt (e33 j) q = (bt (c33 j) q || (decide (j = pX a b) && ex m (fun x => bt (sp w a b x) q)))) (h2 : ∀ j, e34 j = if j = pX a b ∧ ex m (unl w a b) = true then 0 else c34 j) (h3 : ∀ q, q < 32 → bt v' q = (bt v q || (decide (q = pX a b) && ex m (unl w a b)))) : cLk m w (dn a (b + 1)) v' e33 e34 := by
  obtain ⟨g1, g2, g3⟩ := h
  have el := pX_inv a ha b hb hab
  refine ⟨?_, ?_, ?_⟩
  · intro p hp q hq
    rw [h1 p q hq, g1 p hp q hq, dn_step a ha b hb hab p hp]
    by_cases c : p = pX a b
    · rw [c, el.1, el.2, decide_eq_true rfl, Bool.true_and, Bool.or_true, Bool.true_and]
      cases ex m (fun x => bt (sp w a b x) q) <;> simp
    · rw [decide_eq_false c, Bool.false_and, Bool.or_false, Bool.or_false]
  · intro p hp
    rw [h2 p, g2 p hp, dn_step a ha b hb hab p hp]
    by_cases c : p = pX a b
    · rw [c, el.1, el.2, decide_eq_true rfl]
      cases ex m (unl w a b) <;> simp
    · rw [decide_eq_false c, Bool.or_false, if_neg (fun e => c e.1)]
  · intro q hq
    rw [h3 q hq, g3 q hq]
    by_cases c15 : q < 15
    · rw [dn_step a ha b hb hab q c15, decide_eq_true c15, Bool.true_and, Bool.true_and]
      by_cases c : q = pX a b
      · rw [c, el.1, el.2, decide_eq_true rfl, Bool.true_and, Bool.or_true, Bool.true_and]
        cases ex m (unl w a b) <;> simp
      · rw [decide_eq_false c, Bool.false_and, Bool.or_false, Bool.or_false]
    · have c : ¬ q = pX a b := by have := pX_lt a ha b hb; omega
      rw [decide_eq_false c15, decide_eq_false c]; rfl
/-- what the class's pairs hold -/
def cPa (m : Nat) (w : aT) (v : Int32) (c33 c34 : Nat → Int32) : Prop := cPk m w 15 v c33 c34
theorem refresh_ok {n m : Nat} {w : aT} {I : xI} {J : xJ} (hn : n ≤ 6) (hm : m ≤ 4) (V : Vd n m w) (h : cMa n m w (I 1 0) (I 1 1) (I 2) (I 3) (I 4)) (hc : I 32 4 = I 1 2 → cPa m w (I 32 3) (I 33) (I 34)) : Ok (f_X6_refresh I J) (fun o => o.2.2 = J ∧ cPa m w (o.2.1 32 3) (o.2.1 33) (o.2.1 34) ∧ o.2.1 32 4 = I 1 2 ∧ ∀ c j, ¬ c = 33 → ¬ c = 34 → ¬ (c = 32 ∧ (j = 3 ∨ j = 4)) → o.2.1 c j = I c j) := by
  unfold f_X6_refresh f_X6_refresh_0
  by_cases hs : I 32 4 = I 1 2
  · rw [if_pos hs]
    exact ok_some ⟨rfl, hc hs, hs, fun _ _ _ _ _ => rfl⟩
  · rw [if_neg hs]
    unfold f_X6_refresh_2
    apply ok_bind
    refine (fill33_ok 0).imp ?_
    rintro ⟨_, I1, J1⟩ ⟨rfl, a1, a2⟩
    dsimp only at a1 a2 ⊢
    unfold f_X6_refresh_3
    apply ok_bind
    refine (fill34_ok (-2)).imp ?_
    rintro ⟨_, I2, J2⟩ ⟨rfl, b1, b2⟩
    dsimp only at b1 b2 ⊢
    have fr : ∀ c j, ¬ c = 33 → ¬ c = 34 → ¬ (c = 32 ∧ (j = 3 ∨ j = 4)) → I2 c j = I c j := by
      intro c j c1 c2 c3
      rw [b2 c j c2, a2 c j c1]
      simp (disch := omega) only [xup_no]
    have f4 : I2 32 4 = I 1 2 := by
      rw [b2 32 4 (by omega), a2 32 4 (by omega), xup_j _ _ _ _ (by omega), xup_at]
    have L0 : cLk m w (dn 0 0) (I2 32 3) (I2 33) (I2 34) := by
      have d0 : ∀ p, dn 0 0 p = false := by
        intro p; unfold dn; simp
      refine ⟨?_, ?_, ?_⟩
      · intro p hp q hq
        rw [b2 33 p (by omega), a1 p, if_pos hp, bt_zero, d0, Bool.false_and]
      · intro p hp
        rw [b1 p, if_pos hp, d0, if_neg (by simp)]
      · intro q hq
        rw [b2 32 3 (by omega), a2 32 3 (by omega), xup_at, bt_zero, d0, Bool.false_and, Bool.and_false]
    unfold f_X6_refresh_4 f_X6_refresh_5
    have cm : ∀ I' : xI, (∀ c j, ¬ c = 33 → ¬ c = 34 → ¬ (c = 32 ∧ (j = 3 ∨ j = 4)) → I' c j = I c j) → cMa n m w (I' 1 0) (I' 1 1) (I' 2) (I' 3) (I' 4) := by
      intro I' hf
      have e : ∀ c, ¬ c = 33 → ¬ c = 34 → ¬ c = 32 → I' c = I c := fun c g1 g2 g3 => funext fun j => hf c j g1 g2 (by omega)
      rw [e 1 (by omega) (by omega) (by omega), e 2 (by omega) (by omega) (by omega), e 3 (by omega) (by omega) (by omega), e 4 (by omega) (by omega) (by omega)]
      exact h
    refine ok_loop (fun k s => ∃ z I', s = (nt k, z, I', J2) ∧ cLk m w (dn k 0) (I' 32 3) (I' 33) (I' 34) ∧ I' 32 4 = I 1 2 ∧ ∀ c j, ¬ c = 33 → ¬ c = 34 → ¬ (c = 32 ∧ (j = 3 ∨ j = 4)) → I' c j = I c j) n ?_ ?_ 5000 0 _ (by omega) (by omega) ⟨none, I2, rfl, L0, f4, fr⟩
    · rintro k hk s ⟨z, I', rfl, g1, g2, g3⟩
      have i0 : I' 1 0 = nt n := (cm I' g3).1
      simp (disch := omega) only [b_X6_refresh_5, f_X6_refresh_6, i0, nt_clamp, nt_le, nt_lt, nt_eq, lit_le, lit_lt, le_lit, lt_lit, eq_lit, lit_eq, nt_neg, nt_ge, nt_add, nt_mul, nt_addl, lit_add, nt_mull, lit_mul, nt_sub, nt_subl, lit_sub, nt_divl, nt_m1, nt_m2, nt_m1', nt_m2', if_true, if_false, if_pos, if_neg, e01, e10, em12, em21, e0m1, e0m2, e1m1, e1m2, em10, em20, Int32.reduceLT, Int32.reduceLE, eq_self, Option.bind_some, Option.map_some, false_or, or_false, or_self, true_or, or_true, not_true_eq_false, not_false_eq_true, false_and, and_false, true_and, and_true]
      unfold f_X6_refresh_7
      refine ok_loop (fun l s => ∃ I', s = (nt k, nt l, I', J2) ∧ k < l ∧ cLk m w (dn k l) (I' 32 3) (I' 33) (I' 34) ∧ I' 32 4 = I 1 2 ∧ ∀ c j, ¬ c = 33 → ¬ c = 34 → ¬ (c = 32 ∧ (j = 3 ∨ j = 4)) → I' c j = I c j) n ?_ ?_ 5000 (k + 1) _ (by omega) (by omega) ⟨I', rfl, by omega, cLk_congr g1 (fun p hp => dn_first k (by omega) p hp), g2, g3⟩
      · rintro l hl s ⟨I', rfl, hkl, q1, q2, q3⟩
        have i0 : I' 1 0 = nt n := (cm I' q3).1
        simp (disch := omega) only [b_X6_refresh_7, f_X6_refresh_8, i0, nt_clamp, nt_le, nt_lt, nt_eq, lit_le, lit_lt, le_lit, lt_lit, eq_lit, lit_eq, nt_neg, nt_ge, nt_add, nt_mul, nt_addl, lit_add, nt_mull, lit_mul, nt_sub, nt_subl, lit_sub, nt_divl, nt_m1, nt_m2, nt_m1', nt_m2', if_true, if_false, if_pos, if_neg, e01, e10, em12, em21, e0m1, e0m2, e1m1, e1m2, em10, em20, Int32.reduceLT, Int32.reduceLE, eq_self, Option.bind_some, Option.map_some, false_or, or_false, or_self, true_or, or_true, not_true_eq_false, not_false_eq_true, false_and, and_false, true_and, and_true]
        apply ok_bind
        refine (look_ok hn hm V (cm I' q3) hkl hl).imp ?_
        rintro ⟨_, I3, J3⟩ ⟨rfl, r1, r2, r3, r4⟩
        dsimp only at r1 r2 r3 r4 ⊢
        simp only [f_X6_refresh_9, nt_addl]
        refine ok_some ⟨I3, rfl, by omega, cLk_look (by omega) (by omega) hkl q1 r1 r2 r3, ?_, ?_⟩
        · rw [r4 32 4 (by omega) (by omega) (by omega)]; exact q2
        · intro c j c1 c2 c3
          rw [r4 c j c1 c2 (by omega)]; exact q3 c j c1 c2 c3
      · rintro s ⟨I', rfl, hkl, q1, q2, q3⟩
        have i0 : I' 1 0 = nt n := (cm I' q3).1
        simp (disch := omega) only [b_X6_refresh_7, f_X6_refresh_10, i0, nt_clamp, nt_le, nt_lt, nt_eq, lit_le, lit_lt, le_lit, lt_lit, eq_lit, lit_eq, nt_neg, nt_ge, nt_add, nt_mul, nt_addl, lit_add, nt_mull, lit_mul, nt_sub, nt_subl, lit_sub, nt_divl, nt_m1, nt_m2, nt_m1', nt_m2', if_true, if_false, if_pos, if_neg, e01, e10, em12, em21, e0m1, e0m2, e1m1, e1m2, em10, em20, Int32.reduceLT, Int32.reduceLE, eq_self, Option.bind_some, Option.map_some, false_or, or_false, or_self, true_or, or_true, not_true_eq_false, not_false_eq_true, false_and, and_false, true_and, and_true]
        refine ok_some ⟨_, I', rfl, cLk_hi V q1 ?_, q2, q3⟩
        intro p hp hh
        unfold dn
        have hlh := (pX_lh p hp).2.1
        by_cases c1 : pL p < k
        · rw [decide_eq_true c1, decide_eq_true (show pL p < k + 1 from by omega)]; rfl
        · by_cases c2 : pL p = k
          · rw [decide_eq_true (show pL p < k + 1 from by omega), decide_eq_true c2, decide_eq_true hh, Bool.true_and, Bool.or_true, Bool.true_or]
          · rw [decide_eq_false c1, decide_eq_false (show ¬ pL p < k + 1 from by omega), decide_eq_false c2, decide_eq_false (show ¬ pH p < 0 from by omega), Bool.and_false]
            rfl
    · rintro s ⟨z, I', rfl, g1, g2, g3⟩
      have i0 : I' 1 0 = nt n := (cm I' g3).1
      simp (disch := omega) only [b_X6_refresh_5, i0, nt_clamp, nt_le, nt_lt, nt_eq, lit_le, lit_lt, le_lit, lt_lit, eq_lit, lit_eq, nt_neg, nt_ge, nt_add, nt_mul, nt_addl, lit_add, nt_mull, lit_mul, nt_sub, nt_subl, lit_sub, nt_divl, nt_m1, nt_m2, nt_m1', nt_m2', if_true, if_false, if_pos, if_neg, e01, e10, em12, em21, e0m1, e0m2, e1m1, e1m2, em10, em20, Int32.reduceLT, Int32.reduceLE, eq_self, Option.bind_some, Option.map_some, false_or, or_false, or_self, true_or, or_true, not_true_eq_false, not_false_eq_true, false_and, and_false, true_and, and_true]
      apply ok_map
      have p0 : cPk m w 0 (I' 32 3) (I' 33) (I' 34) := by
        refine cLk_all V g1 ?_
        intro p hp hh
        have hlh := (pX_lh p hp).2.1
        unfold dn
        rw [decide_eq_true (show pL p < n from by omega)]; rfl
      refine (refr11_ok hn V p0 (nt n) z).imp ?_
      rintro ⟨_, I3, J3⟩ ⟨rfl, r1, r2⟩
      dsimp only at r1 r2 ⊢
      refine ⟨rfl, r1, ?_, ?_⟩
      · exact (r2 32 4 (by omega) (by omega)).trans g2
      · intro c j c1 c2 c3
        exact (r2 c j c2 (by omega)).trans (g3 c j c1 c2 c3)
