/-! cubes: the class chooses -/
def Sx (B off fr j R : Nat) (q : Nat → Nat) : Prop := (∀ i, i < j → fr ≤ q i ∧ q i < B) ∧ (∀ i i', i < i' → i' < j → q i < q i') ∧ cvp off R j q
def consf (c : Nat) (q : Nat → Nat) (i : Nat) : Nat := if i = 0 then c else q (i - 1)
theorem Sx_cons {B off fr j R : Nat} {t : Nat → Nat} (hR : R < 256) (h : Sx B off fr (j + 1) R t) : okc off (t 0) = true ∧ fr ≤ t 0 ∧ t 0 < B ∧ Sx B off (t 0 + 1) j (dif R (hh (t 0))) (fun i => t (i + 1)) := by
  obtain ⟨h1, h2, h3, h4⟩ := h
  have h0 := h1 0 (by omega)
  refine ⟨h3 0 (by omega), h0.1, h0.2, ?_, ?_, ?_, ?_⟩
  · intro i hi
    have := h2 0 (i + 1) (by omega) (by omega)
    dsimp only
    exact ⟨by omega, (h1 (i + 1) (by omega)).2⟩
  · intro i i' hi hi'
    exact h2 (i + 1) (i' + 1) (by omega) (by omega)
  · intro i hi
    exact h3 (i + 1) (by omega)
  · intro b hb
    rw [dif_tb hR, Bool.and_eq_true] at hb
    obtain ⟨i, hi, hbi⟩ := h4 b hb.1
    rcases i with _ | i
    · rw [hbi] at hb; exact absurd hb.2 (by decide)
    · exact ⟨i, by omega, hbi⟩
theorem Sx_mk {B off fr j R c : Nat} {q : Nat → Nat} (hR : R < 256) (hf : fr ≤ c) (hc : c < B) (ho : okc off c = true) (h : Sx B off (c + 1) j (dif R (hh c)) q) : Sx B off fr (j + 1) R (consf c q) := by
  obtain ⟨h1, h2, h3, h4⟩ := h
  refine ⟨?_, ?_, ?_, ?_⟩
  · intro i hi
    unfold consf
    by_cases e : i = 0
    · rw [if_pos e]; exact ⟨hf, hc⟩
    · rw [if_neg e]
      have := h1 (i - 1) (by omega)
      exact ⟨by omega, this.2⟩
  · intro i i' hi hi'
    unfold consf
    rw [if_neg (show ¬ i' = 0 from by omega)]
    by_cases e : i = 0
    · rw [if_pos e]
      have := h1 (i' - 1) (by omega)
      omega
    · rw [if_neg e]
      exact h2 (i - 1) (i' - 1) (by omega) (by omega)
  · intro i hi
    unfold consf
    by_cases e : i = 0
    · rw [if_pos e]; exact ho
    · rw [if_neg e]; exact h3 (i - 1) (by omega)
  · intro b hb
    cases e : (hh c).testBit b with
    | true => exact ⟨0, by omega, e⟩
    | false =>
      obtain ⟨i, hi, hbi⟩ := h4 b (by rw [dif_tb hR, hb, e]; rfl)
      refine ⟨i + 1, by omega, ?_⟩
      unfold consf
      rw [if_neg (by omega), Nat.add_sub_cancel]
      exact hbi
theorem lx_consf {j c : Nat} {t q : Nat → Nat} (h : lx (j + 1) t (consf c q)) : t 0 < c ∨ (t 0 = c ∧ lx j (fun i => t (i + 1)) q) := by
  obtain ⟨i, hi, h1, h2⟩ := h
  rcases i with _ | i
  · exact Or.inl h1
  · have h0 := h2 0 (by omega)
    refine Or.inr ⟨h0, i, by omega, ?_, ?_⟩
    · unfold consf at h1
      rw [if_neg (by omega), Nat.add_sub_cancel] at h1
      exact h1
    · intro i' hi'
      have := h2 (i' + 1) (by omega)
      unfold consf at this
      rw [if_neg (by omega), Nat.add_sub_cancel] at this
      exact this
theorem st1003 : ∀ v, v < 4 → zst1003 v = nt (3 ^ v) := by decide
theorem chooseC_ok {n off k : Nat} (hn : n ≤ 6) (hoff : off < 256) (hk : k ≤ 8) : ∀ (r d fr R : Nat) (I : xI) (J : xJ), k < r + d → d ≤ k → fr ≤ 3 ^ nb n → R < 256 → R &&& off = 0 → I 1 0 = nt n → I 51 8 = nt off → cT I → mK I → Ok (f_X2_choose r (nt fr) (nt d) (nt k) (nt R) I J) (fun o => o.2.2 = J ∧ mK o.2.1 ∧ (∀ c j, ¬ c = 54 → ¬ (c = 55 ∧ d ≤ j) → o.2.1 c j = I c j) ∧ ((o.1 = 1 ∧ ∃ q, Sx (3 ^ nb n) off fr (k - d) R q ∧ (∀ i, i < k - d → o.2.1 55 (d + i) = nt (q i)) ∧ ∀ t, Sx (3 ^ nb n) off fr (k - d) R t → ¬ lx (k - d) t q) ∨ (o.1 = 0 ∧ ∀ t, ¬ Sx (3 ^ nb n) off fr (k - d) R t))) := by
  have hb3 := nb_le n
  have hw := pow3 (nb n) (by omega)
  intro r
  induction r with
  | zero => intro d fr R I J h1 h2; omega
  | succ r ih =>
    intro d fr R I J hr hdk hfr hR hdj h10 h8 hT hM
    show Ok (f_X2_choose_0 (f_X2_choose r) (nt fr) (nt d) (nt k) (nt R) I J) _
    simp (disch := omega) only [f_X2_choose_0, nt_clamp, nt_le, nt_lt, nt_eq, lit_le, lit_lt, le_lit, lt_lit, eq_lit, lit_eq, nt_neg, nt_ge, nt_add, nt_mul, nt_addl, lit_add, nt_mull, lit_mul, nt_sub, nt_subl, lit_sub, nt_divl, nt_m1, nt_m2, nt_m1', nt_m2']
    by_cases hd : d < k
    · rw [if_pos hd]
      simp only [f_X2_choose_5]
      unfold f_X2_choose_6
      obtain ⟨j, hj⟩ : ∃ j, k - d = j + 1 := ⟨k - d - 1, by omega⟩
      have hj' : k - (d + 1) = j := by omega
      rw [hj]
      refine ok_loop (fun c s => ∃ z I', s = (nt fr, nt d, nt k, nt R, nt c, z, I', J) ∧ fr ≤ c ∧ mK I' ∧ (∀ c j, ¬ c = 54 → ¬ (c = 55 ∧ d ≤ j) → I' c j = I c j) ∧ ∀ t, Sx (3 ^ nb n) off fr (j + 1) R t → t 0 < c → False) (3 ^ nb n) ?_ ?_ 5000 fr _ (by omega) (by omega) ⟨none, I, rfl, by omega, hM, fun _ _ _ _ => rfl, fun t ht hlt => by have := (ht.1 0 (by omega)).1; omega⟩
      · rintro c hc s ⟨z, I', rfl, hfc, g1, g2, g3⟩
        have hc27 : c < 27 := by omega
        have hh8 := hh_lt c hc27
        have g10 : I' 1 0 = nt n := (g2 1 0 (by omega) (by omega)).trans h10
        have g8 : I' 51 8 = nt off := (g2 51 8 (by omega) (by omega)).trans h8
        have g52 : I' 52 c = nt (hh c) := (g2 52 c (by omega) (by omega)).trans (hT.1 c hc27)
        have hT' : cT I' := ⟨fun c hc => (g2 52 c (by omega) (by omega)).trans (hT.1 c hc), fun c hc => (g2 53 c (by omega) (by omega)).trans (hT.2 c hc)⟩
        have hand : hh c &&& off ≤ hh c := Nat.and_le_left
        have next : ∀ I2 : xI, mK I2 → (∀ c j, ¬ c = 54 → ¬ (c = 55 ∧ d ≤ j) → I2 c j = I c j) → (∀ t, Sx (3 ^ nb n) off fr (j + 1) R t → t 0 = c → False) → Ok (f_X2_choose_14 (f_X2_choose r) (nt fr) (nt d) (nt k) (nt R) (nt c) (nt (hh c)) I2 J) (Sum.elim (fun s => ∃ z I', s = (nt fr, nt d, nt k, nt R, nt (c + 1), z, I', J) ∧ fr ≤ c + 1 ∧ mK I' ∧ (∀ c j, ¬ c = 54 → ¬ (c = 55 ∧ d ≤ j) → I' c j = I c j) ∧ ∀ t, Sx (3 ^ nb n) off fr (j + 1) R t → t 0 < c + 1 → False) (fun o => o.2.2 = J ∧ mK o.2.1 ∧ (∀ c j, ¬ c = 54 → ¬ (c = 55 ∧ d ≤ j) → o.2.1 c j = I c j) ∧ ((o.1 = 1 ∧ ∃ q, Sx (3 ^ nb n) off fr (j + 1) R q ∧ (∀ i, i < j + 1 → o.2.1 55 (d + i) = nt (q i)) ∧ ∀ t, Sx (3 ^ nb n) off fr (j + 1) R t → ¬ lx (j + 1) t q) ∨ (o.1 = 0 ∧ ∀ t, ¬ Sx (3 ^ nb n) off fr (j + 1) R t)))) := by
          intro I2 m1 m2 m3
          simp only [f_X2_choose_14, nt_addl]
          refine ok_some ⟨_, I2, rfl, by omega, m1, m2, ?_⟩
          intro t ht hlt
          by_cases e : t 0 = c
          · exact m3 t ht e
          · exact g3 t ht (by omega)
        simp (disch := omega) only [b_X2_choose_6, cbits_ok hn g10, Option.bind_some, f_X2_choose_7, st1003 (nb n) (by omega), f_X2_choose_8, g52, g8, nt_and, nt_clamp, nt_le, nt_lt, nt_eq, lit_le, lit_lt, le_lit, lt_lit, eq_lit, lit_eq, nt_neg, nt_ge, nt_add, nt_mul, nt_addl, lit_add, nt_mull, lit_mul, nt_sub, nt_subl, lit_sub, nt_divl, nt_m1, nt_m2, nt_m1', nt_m2', false_or, if_neg]
        by_cases co : hh c &&& off = 0
        · rw [if_pos co]
          have hok : okc off c = true := decide_eq_true co
          simp only [f_X2_choose_9, nt_dif hR]
          apply ok_bind
          have hpp := pp8_le (dif R (hh c))
          refine (least_ok hoff 12 0 (dif R (hh c)) I' J (by omega) (by omega) (dif_lt _ _) (dif_dj hR hdj) (by omega) g8 hT' g1).imp ?_
          rintro ⟨_, I2, J2⟩ ⟨rfl, rfl, b1, b2⟩
          dsimp only at b1 b2 ⊢
          have hmd := mu_8 (off := off) (dif_lt R (hh c))
          have fr2 : ∀ c j, ¬ c = 54 → ¬ (c = 55 ∧ d ≤ j) → I2 c j = I c j := fun c j h1 h2 => (b2 c j h1).trans (g2 c j h1 h2)
          simp (disch := omega) only [f_X2_choose_10, nt_clamp, nt_le, nt_lt, nt_eq, lit_le, lit_lt, le_lit, lt_lit, eq_lit, lit_eq, nt_neg, nt_ge, nt_add, nt_mul, nt_addl, lit_add, nt_mull, lit_mul, nt_sub, nt_subl, lit_sub, nt_divl, nt_m1, nt_m2, nt_m1', nt_m2']
          by_cases cl : k - d ≤ mu off (dif R (hh c))
          · rw [if_pos cl]
            refine next I2 b1 fr2 ?_
            intro t ht e
            have hs := Sx_cons hR ht
            rw [e] at hs
            have := mu_cvp (dif_lt _ _) (fun i hi => Nat.lt_of_lt_of_le (hs.2.2.2.1 i hi).2 hw.1) hs.2.2.2.2.2
            omega
          · rw [if_neg cl]
            simp (disch := omega) only [f_X2_choose_11, nt_clamp, nt_le, nt_lt, nt_eq, lit_le, lit_lt, le_lit, lt_lit, eq_lit, lit_eq, nt_neg, nt_ge, nt_add, nt_mul, nt_addl, lit_add, nt_mull, lit_mul, nt_sub, nt_subl, lit_sub, nt_divl, nt_m1, nt_m2, nt_m1', nt_m2', false_or, if_neg, nt_dif hR]
            apply ok_bind
            have x10 : (xup I2 55 d (nt c)) 1 0 = nt n := by rw [xup_bj _ _ _ _ _ (by omega)]; exact (b2 1 0 (by omega)).trans g10
            have x8 : (xup I2 55 d (nt c)) 51 8 = nt off := by rw [xup_bj _ _ _ _ _ (by omega)]; exact (b2 51 8 (by omega)).trans g8
            have xT : cT (xup I2 55 d (nt c)) := ⟨fun c hc => by rw [xup_bj _ _ _ _ _ (by omega)]; exact (b2 52 c (by omega)).trans (hT'.1 c hc), fun c hc => by rw [xup_bj _ _ _ _ _ (by omega)]; exact (b2 53 c (by omega)).trans (hT'.2 c hc)⟩
            have xM : mK (xup I2 55 d (nt c)) := by
              intro R' O' h1 h2 h3 h4
              rw [xup_bj _ _ _ _ _ (by omega)]
              exact b1 R' O' h1 h2 h3 h4
            refine (ih (d + 1) (c + 1) (dif R (hh c)) (xup I2 55 d (nt c)) J2 (by omega) (by omega) (by omega) (dif_lt _ _) (dif_dj hR hdj) x10 x8 xT xM).imp ?_
            rintro ⟨b, I3, J3⟩ ⟨rfl, e1, e2, e3⟩
            dsimp only at e1 e2 e3 ⊢
            rw [hj'] at e3
            have fr3 : ∀ c j, ¬ c = 54 → ¬ (c = 55 ∧ d ≤ j) → I3 c j = I c j := by
              intro c' j' h1 h2
              rw [e2 c' j' h1 (by omega), xup_no _ _ _ _ (by omega)]
              exact fr2 c' j' h1 h2
            rcases e3 with ⟨rfl, q, q1, q2, q3⟩ | ⟨rfl, q1⟩
            · simp only [f_X2_choose_12, e10, if_false, f_X2_choose_13, Option.map_some]
              refine ok_some ⟨rfl, e1, fr3, Or.inl ⟨rfl, consf c q, Sx_mk hR hfc hc hok q1, ?_, ?_⟩⟩
              · intro i hi
                dsimp only
                unfold consf
                by_cases e : i = 0
                · rw [if_pos e, e, Nat.add_zero, e2 55 d (by omega) (by omega), xup_at]
                · rw [if_neg e]
                  have := q2 (i - 1) (by omega)
                  rw [show d + 1 + (i - 1) = d + i from by omega] at this
                  exact this
              · intro t ht hl
                rcases lx_consf hl with h1 | ⟨h1, h2⟩
                · exact g3 t ht h1
                · have hs := Sx_cons hR ht
                  rw [h1] at hs
                  exact q3 _ hs.2.2.2 h2
            · simp only [f_X2_choose_12, if_true]
              refine next I3 e1 fr3 ?_
              intro t ht e
              have hs := Sx_cons hR ht
              rw [e] at hs
              exact q1 _ hs.2.2.2
        · rw [if_neg co]
          refine next I' g1 g2 ?_
          intro t ht e
          have hs := (Sx_cons hR ht).1
          rw [e] at hs
          exact co (of_decide_eq_true hs)
      · rintro s ⟨z, I', rfl, hfc, g1, g2, g3⟩
        have g10 : I' 1 0 = nt n := (g2 1 0 (by omega) (by omega)).trans h10
        simp (disch := omega) only [b_X2_choose_6, cbits_ok hn g10, Option.bind_some, f_X2_choose_7, st1003 (nb n) (by omega), f_X2_choose_15, nt_clamp, nt_le, nt_lt, nt_eq, lit_le, lit_lt, le_lit, lt_lit, eq_lit, lit_eq, nt_neg, nt_ge, nt_add, nt_mul, nt_addl, lit_add, nt_mull, lit_mul, nt_sub, nt_subl, lit_sub, nt_divl, nt_m1, nt_m2, nt_m1', nt_m2', if_true, if_false, if_pos, if_neg, e01, e10, em12, em21, e0m1, e0m2, e1m1, e1m2, em10, em20, Int32.reduceLT, Int32.reduceLE, eq_self, Option.bind_some, Option.map_some, false_or, or_false, or_self, true_or, or_true, not_true_eq_false, not_false_eq_true, false_and, and_false, true_and, and_true]
        refine ok_some ⟨rfl, g1, g2, Or.inr ⟨rfl, ?_⟩⟩
        intro t ht
        exact g3 t ht (ht.1 0 (by omega)).2
    · rw [if_neg hd]
      have hkd : k - d = 0 := by omega
      rw [hkd]
      simp (disch := omega) only [f_X2_choose_1, f_X2_choose_2, f_X2_choose_3, f_X2_choose_4, nt_clamp, nt_le, nt_lt, nt_eq, lit_le, lit_lt, le_lit, lt_lit, eq_lit, lit_eq, nt_neg, nt_ge, nt_add, nt_mul, nt_addl, lit_add, nt_mull, lit_mul, nt_sub, nt_subl, lit_sub, nt_divl, nt_m1, nt_m2, nt_m1', nt_m2', if_true, if_false, if_pos, if_neg, e01, e10, em12, em21, e0m1, e0m2, e1m1, e1m2, em10, em20, Int32.reduceLT, Int32.reduceLE, eq_self, Option.bind_some, Option.map_some, false_or, or_false, or_self, true_or, or_true, not_true_eq_false, not_false_eq_true, false_and, and_false, true_and, and_true]
      by_cases c0 : R = 0
      · rw [if_pos c0]
        refine ok_some ⟨rfl, hM, fun _ _ _ _ => rfl, Or.inl ⟨rfl, fun _ => 0, ⟨fun i hi => absurd hi (by omega), fun i i' _ hi => absurd hi (by omega), fun i hi => absurd hi (by omega), ?_⟩, fun i hi => absurd hi (by omega), ?_⟩⟩
        · intro b hb
          rw [c0, Nat.zero_testBit] at hb; cases hb
        · rintro t _ ⟨i, hi, _⟩
          omega
      · rw [if_neg c0]
        refine ok_some ⟨rfl, hM, fun _ _ _ _ => rfl, Or.inr ⟨rfl, ?_⟩⟩
        intro t ht
        obtain ⟨i, hi, _⟩ := ht.2.2.2 _ (lo_ok hR c0).2
        omega
/-- the row by name -/
noncomputable def cbr (v off R : Nat) : Nat → Nat := Classical.epsilon (fun p : Nat → Nat => LL (3 ^ v) (mu off R) (cvp off R (mu off R)) p)
theorem cbr_of {v off R : Nat} {p : Nat → Nat} (h : LL (3 ^ v) (mu off R) (cvp off R (mu off R)) p) : (∀ i, i < mu off R → p i = cbr v off R i) ∧ LL (3 ^ v) (mu off R) (cvp off R (mu off R)) (cbr v off R) := by
  have hs : LL (3 ^ v) (mu off R) (cvp off R (mu off R)) (cbr v off R) := Classical.epsilon_spec (p := fun p : Nat → Nat => LL (3 ^ v) (mu off R) (cvp off R (mu off R)) p) ⟨p, h⟩
  exact ⟨LL_uniq h hs, hs⟩
/-- by an input, among the first states: the codes that the next bit wants, and those that it doesn't -/
def onb (w : aT) (c : Nat → Nat) (ns x b k s : Nat) : Bool := match w.1 s x with
  | some t => decide (t < ns) && (decide (c s = k) && (c t).testBit b)
  | none => false
def ofb (w : aT) (c : Nat → Nat) (ns x b k s : Nat) : Bool := match w.1 s x with
  | some t => decide (t < ns) && (decide (c s = k) && !(c t).testBit b)
  | none => false
def ldb (w : aT) (ns x s : Nat) : Bool := match w.1 s x with
  | some t => decide (t < ns)
  | none => false
def onS (w : aT) (c : Nat → Nat) (ns x b : Nat) : Nat := mkn 8 (fun k => ex ns (onb w c ns x b k))
def ofS (w : aT) (c : Nat → Nat) (ns x b : Nat) : Nat := mkn 8 (fun k => ex ns (ofb w c ns x b k))
theorem onb_iff {w : aT} {c : Nat → Nat} {ns x b k s : Nat} : onb w c ns x b k s = true ↔ ∃ t, w.1 s x = some t ∧ t < ns ∧ c s = k ∧ (c t).testBit b = true := by
  unfold onb
  cases w.1 s x with
  | none => exact ⟨fun h => (by cases h), fun ⟨t, h, _⟩ => (by cases h)⟩
  | some t =>
    dsimp only
    rw [Bool.and_eq_true, Bool.and_eq_true, decide_eq_true_iff, decide_eq_true_iff]
    constructor
    · rintro ⟨h1, h2, h3⟩; exact ⟨t, rfl, h1, h2, h3⟩
    · rintro ⟨t', h, h1, h2, h3⟩; cases h; exact ⟨h1, h2, h3⟩
theorem ofb_iff {w : aT} {c : Nat → Nat} {ns x b k s : Nat} : ofb w c ns x b k s = true ↔ ∃ t, w.1 s x = some t ∧ t < ns ∧ c s = k ∧ (c t).testBit b = false := by
  unfold ofb
  cases w.1 s x with
  | none => exact ⟨fun h => (by cases h), fun ⟨t, h, _⟩ => (by cases h)⟩
  | some t =>
    dsimp only
    rw [Bool.and_eq_true, Bool.and_eq_true, decide_eq_true_iff, decide_eq_true_iff, Bool.not_eq_true']
    constructor
    · rintro ⟨h1, h2, h3⟩; exact ⟨t, rfl, h1, h2, h3⟩
    · rintro ⟨t', h, h1, h2, h3⟩; cases h; exact ⟨h1, h2, h3⟩
theorem ldb_iff {w : aT} {ns x s : Nat} : ldb w ns x s = true ↔ ∃ t, w.1 s x = some t ∧ t < ns := by
  unfold ldb
  cases w.1 s x with
  | none => exact ⟨fun h => (by cases h), fun ⟨t, h, _⟩ => (by cases h)⟩
  | some t =>
    dsimp only
    rw [decide_eq_true_iff]
    exact ⟨fun h => ⟨t, rfl, h⟩, fun ⟨t', h, h1⟩ => by cases h; exact h1⟩
/-- all different -/
def inj6 (c : Nat → Nat) (ns : Nat) : Prop := ∀ s s', s < ns → s' < ns → c s = c s' → s = s'
theorem onof {w : aT} {c : Nat → Nat} {ns x b : Nat} (hi : inj6 c ns) : onS w c ns x b &&& ofS w c ns x b = 0 := by
  apply Nat.eq_of_testBit_eq
  intro k
  rw [Nat.testBit_and, Nat.zero_testBit]
  unfold onS ofS
  rw [mkn_tb, mkn_tb]
  cases e1 : ex ns (onb w c ns x b k) with
  | false => rw [Bool.and_false]; rfl
  | true =>
    cases e2 : ex ns (ofb w c ns x b k) with
    | false => rw [Bool.and_false, Bool.and_false]
    | true =>
      obtain ⟨s, hs, h1⟩ := ex_iff.mp e1
      obtain ⟨s', hs', h2⟩ := ex_iff.mp e2
      obtain ⟨t, a1, a2, a3, a4⟩ := onb_iff.mp h1
      obtain ⟨t', b1, b2, b3, b4⟩ := ofb_iff.mp h2
      have := hi s s' hs hs' (a3.trans b3.symm)
      subst this
      rw [a1] at b1
      cases b1
      rw [a4] at b4; cases b4
theorem onS_lt (w : aT) (c : Nat → Nat) (ns x b : Nat) : onS w c ns x b < 256 := mkn_lt 8 _
theorem ofS_lt (w : aT) (c : Nat → Nat) (ns x b : Nat) : ofS w c ns x b < 256 := mkn_lt 8 _
theorem spread_ok : ∀ t, t < 8 → ∀ s, s < 8 → ∀ b, b < 3 → ∀ k, k < 8 → bt (zst1004 t <<< nt s) (8 * b + k) = (decide (s = k) && t.testBit b) := by decide +kernel
theorem and7 : ∀ t, t < 8 → nt t &&& 7 = nt t := by decide
theorem ex_s (n : Nat) (p : Nat → Bool) : ex (n + 1) p = (ex n p || p n) := rfl
theorem look4_ok {n m ns x : Nat} {w : aT} {c : Nat → Nat} {I : xI} {J : xJ} (hn : n ≤ 6) (hm : m ≤ 4) (V : Vd n m w) (h : cMa n m w (I 1 0) (I 1 1) (I 2) (I 3) (I 4)) (hns : ns ≤ n) (hx : x < m) (hc : ∀ s, s < ns → I 4 s = nt (c s) ∧ c s < 8) : Ok (f_X2_look_4 (nt ns) (nt x) I J) (fun o => o.2.2 = J ∧ (∀ k, k < 32 → bt (o.2.1 51 5) k = ex ns (fun s => ldb w ns x s && decide (c s = k))) ∧ (∀ b, b < 3 → ∀ k, k < 8 → bt (o.2.1 51 6) (8 * b + k) = ex ns (onb w c ns x b k)) ∧ ∀ a j, ¬ (a = 51 ∧ (j = 5 ∨ j = 6)) → o.2.1 a j = I a j) := by
  unfold f_X2_look_4 f_X2_look_4_0 f_X2_look_4_1
  refine ok_loop (fun i s => ∃ z I', s = (nt ns, nt x, nt i, z, I', J) ∧ (∀ k, k < 32 → bt (I' 51 5) k = ex i (fun s => ldb w ns x s && decide (c s = k))) ∧ (∀ b, b < 3 → ∀ k, k < 8 → bt (I' 51 6) (8 * b + k) = ex i (onb w c ns x b k)) ∧ ∀ a j, ¬ (a = 51 ∧ (j = 5 ∨ j = 6)) → I' a j = I a j) ns ?_ ?_ 5000 0 _ (by omega) (by omega) ⟨none, _, rfl, ?_, ?_, ?_⟩
  · rintro i hi s ⟨z, I', rfl, g1, g2, g3⟩
    have hM' : cMa n m w (I' 1 0) (I' 1 1) (I' 2) (I' 3) (I' 4) := by
      rw [g3 1 0 (by omega), g3 1 1 (by omega), show I' 2 = I 2 from funext fun j => g3 2 j (by omega), show I' 3 = I 3 from funext fun j => g3 3 j (by omega), show I' 4 = I 4 from funext fun j => g3 4 j (by omega)]
      exact h
    simp (disch := omega) only [b_X2_look_4_1, f_X2_look_4_2, targetOf_ok hn hm V hM', Option.bind_some, nt_clamp, nt_le, nt_lt, nt_eq, lit_le, lit_lt, le_lit, lt_lit, eq_lit, lit_eq, nt_neg, nt_ge, nt_add, nt_mul, nt_addl, lit_add, nt_mull, lit_mul, nt_sub, nt_subl, lit_sub, nt_divl, nt_m1, nt_m2, nt_m1', nt_m2', if_neg]
    have no : ldb w ns x i = false → ∀ y, Ok (f_X2_look_4_6 (nt ns) (nt x) (nt i) y I' J) (Sum.elim (fun s => ∃ z I', s = (nt ns, nt x, nt (i + 1), z, I', J) ∧ (∀ k, k < 32 → bt (I' 51 5) k = ex (i + 1) (fun s => ldb w ns x s && decide (c s = k))) ∧ (∀ b, b < 3 → ∀ k, k < 8 → bt (I' 51 6) (8 * b + k) = ex (i + 1) (onb w c ns x b k)) ∧ ∀ a j, ¬ (a = 51 ∧ (j = 5 ∨ j = 6)) → I' a j = I a j) (fun o => o.2.2 = J ∧ (∀ k, k < 32 → bt (o.2.1 51 5) k = ex ns (fun s => ldb w ns x s && decide (c s = k))) ∧ (∀ b, b < 3 → ∀ k, k < 8 → bt (o.2.1 51 6) (8 * b + k) = ex ns (onb w c ns x b k)) ∧ ∀ a j, ¬ (a = 51 ∧ (j = 5 ∨ j = 6)) → o.2.1 a j = I a j)) := by
      intro hl y
      simp only [f_X2_look_4_6, nt_addl]
      refine ok_some ⟨some (.int y), I', rfl, ?_, ?_, g3⟩
      · intro k hk
        rw [ex_s, g1 k hk, hl, Bool.false_and, Bool.or_false]
      · intro b hb k hk
        have : onb w c ns x b k i = false := by
          cases e : onb w c ns x b k i with
          | false => rfl
          | true =>
            obtain ⟨t, t1, t2, _⟩ := onb_iff.mp e
            rw [ldb_iff.mpr ⟨t, t1, t2⟩] at hl; cases hl
        rw [ex_s, g2 b hb k hk, this, Bool.or_false]
    cases ew : w.1 i x with
    | none =>
      simp (disch := omega) only [f_X2_look_4_3, ov, if_true, if_false, if_pos, if_neg, e01, e10, em12, em21, e0m1, e0m2, e1m1, e1m2, em10, em20, Int32.reduceLT, Int32.reduceLE, eq_self, Option.bind_some, Option.map_some, false_or, or_false, or_self, true_or, or_true, not_true_eq_false, not_false_eq_true, false_and, and_false, true_and, and_true]
      exact no (by unfold ldb; rw [ew]) _
    | some t =>
      have ht := (V.1 i x t ew).2.2
      simp (disch := omega) only [f_X2_look_4_3, f_X2_look_4_4, ov, nt_clamp, nt_le, nt_lt, nt_eq, lit_le, lit_lt, le_lit, lt_lit, eq_lit, lit_eq, nt_neg, nt_ge, nt_add, nt_mul, nt_addl, lit_add, nt_mull, lit_mul, nt_sub, nt_subl, lit_sub, nt_divl, nt_m1, nt_m2, nt_m1', nt_m2', if_false]
      by_cases c1 : ns ≤ t
      · rw [if_pos c1]
        exact no (by unfold ldb; rw [ew]; exact decide_eq_false (by omega)) _
      · rw [if_neg c1]
        have ci := hc i hi
        have ct := hc t (by omega)
        have e1 : I' 4 i = nt (c i) := (g3 4 i (by omega)).trans ci.1
        have e2 : I' 4 t = nt (c t) := (g3 4 t (by omega)).trans ct.1
        have hct := ct.2
        have hci := ci.2
        have x1 : ∀ v : Int32, ∀ j, (xup I' 51 5 v) 4 j = I' 4 j := fun v j => xup_bj _ _ _ _ _ (by omega)
        have x2 : ∀ v : Int32, (xup I' 51 5 v) 51 6 = I' 51 6 := fun v => xup_j _ _ _ _ (by omega)
        simp (disch := omega) only [f_X2_look_4_5, x1, x2, e1, e2, and7, nt_31, nt_clamp, nt_le, nt_lt, nt_eq, lit_le, lit_lt, le_lit, lt_lit, eq_lit, lit_eq, nt_neg, nt_ge, nt_add, nt_mul, nt_addl, lit_add, nt_mull, lit_mul, nt_sub, nt_subl, lit_sub, nt_divl, nt_m1, nt_m2, nt_m1', nt_m2', false_or, if_neg, f_X2_look_4_6]
        refine ok_some ⟨_, _, rfl, ?_, ?_, ?_⟩
        · intro k hk
          rw [xup_j _ _ _ _ (by omega), xup_at, bt_or, g1 k hk, one_shl (by omega) hk, ex_s]
          have : ldb w ns x i = true := ldb_iff.mpr ⟨t, ew, by omega⟩
          rw [this, Bool.true_and]
          by_cases e : k = c i
          · rw [decide_eq_true e, decide_eq_true e.symm]
          · rw [decide_eq_false e, decide_eq_false (fun h => e h.symm)]
        · intro b hb k hk
          rw [xup_at, bt_or, g2 b hb k hk, spread_ok _ ct.2 _ ci.2 b hb k hk, ex_s]
          have : onb w c ns x b k i = (decide (c i = k) && (c t).testBit b) := by
            unfold onb; rw [ew]; dsimp only; rw [decide_eq_true (show t < ns from by omega)]; rfl
          rw [this]
        · intro a j ha
          rw [xup_no _ _ _ _ (by omega), xup_no _ _ _ _ (by omega)]
          exact g3 a j ha
  · rintro s ⟨z, I', rfl, g1, g2, g3⟩
    simp (disch := omega) only [b_X2_look_4_1, f_X2_look_4_7, nt_clamp, nt_le, nt_lt, nt_eq, lit_le, lit_lt, le_lit, lt_lit, eq_lit, lit_eq, nt_neg, nt_ge, nt_add, nt_mul, nt_addl, lit_add, nt_mull, lit_mul, nt_sub, nt_subl, lit_sub, nt_divl, nt_m1, nt_m2, nt_m1', nt_m2', if_true, if_false, if_pos, if_neg, e01, e10, em12, em21, e0m1, e0m2, e1m1, e1m2, em10, em20, Int32.reduceLT, Int32.reduceLE, eq_self, Option.bind_some, Option.map_some, false_or, or_false, or_self, true_or, or_true, not_true_eq_false, not_false_eq_true, false_and, and_false, true_and, and_true]
    exact ok_some ⟨rfl, g1, g2, g3⟩
  · intro k hk
    rw [xup_j _ _ _ _ (by omega), xup_at, bt_zero]; rfl
  · intro b hb k hk
    rw [xup_at, bt_zero]; rfl
  · intro a j ha
    rw [xup_no _ _ _ _ (by omega), xup_no _ _ _ _ (by omega)]
theorem look57_ok {n m ns x : Nat} {w : aT} {c : Nat → Nat} {I : xI} {J : xJ} (hn : n ≤ 6) (hm : m ≤ 4) (V : Vd n m w) (h : cMa n m w (I 1 0) (I 1 1) (I 2) (I 3) (I 4)) (hns : ns ≤ n) (hx : x < m) (hc : ∀ s, s < ns → I 57 s = nt (c s) ∧ c s < 8) : Ok (f_X2_look_57 (nt ns) (nt x) I J) (fun o => o.2.2 = J ∧ (∀ k, k < 32 → bt (o.2.1 51 5) k = ex ns (fun s => ldb w ns x s && decide (c s = k))) ∧ (∀ b, b < 3 → ∀ k, k < 8 → bt (o.2.1 51 6) (8 * b + k) = ex ns (onb w c ns x b k)) ∧ ∀ a j, ¬ (a = 51 ∧ (j = 5 ∨ j = 6)) → o.2.1 a j = I a j) := by
  unfold f_X2_look_57 f_X2_look_57_0 f_X2_look_57_1
  refine ok_loop (fun i s => ∃ z I', s = (nt ns, nt x, nt i, z, I', J) ∧ (∀ k, k < 32 → bt (I' 51 5) k = ex i (fun s => ldb w ns x s && decide (c s = k))) ∧ (∀ b, b < 3 → ∀ k, k < 8 → bt (I' 51 6) (8 * b + k) = ex i (onb w c ns x b k)) ∧ ∀ a j, ¬ (a = 51 ∧ (j = 5 ∨ j = 6)) → I' a j = I a j) ns ?_ ?_ 5000 0 _ (by omega) (by omega) ⟨none, _, rfl, ?_, ?_, ?_⟩
  · rintro i hi s ⟨z, I', rfl, g1, g2, g3⟩
    have hM' : cMa n m w (I' 1 0) (I' 1 1) (I' 2) (I' 3) (I' 4) := by
      rw [g3 1 0 (by omega), g3 1 1 (by omega), show I' 2 = I 2 from funext fun j => g3 2 j (by omega), show I' 3 = I 3 from funext fun j => g3 3 j (by omega), show I' 4 = I 4 from funext fun j => g3 4 j (by omega)]
      exact h
    simp (disch := omega) only [b_X2_look_57_1, f_X2_look_57_2, targetOf_ok hn hm V hM', Option.bind_some, nt_clamp, nt_le, nt_lt, nt_eq, lit_le, lit_lt, le_lit, lt_lit, eq_lit, lit_eq, nt_neg, nt_ge, nt_add, nt_mul, nt_addl, lit_add, nt_mull, lit_mul, nt_sub, nt_subl, lit_sub, nt_divl, nt_m1, nt_m2, nt_m1', nt_m2', if_neg]
    have no : ldb w ns x i = false → ∀ y, Ok (f_X2_look_57_6 (nt ns) (nt x) (nt i) y I' J) (Sum.elim (fun s => ∃ z I', s = (nt ns, nt x, nt (i + 1), z, I', J) ∧ (∀ k, k < 32 → bt (I' 51 5) k = ex (i + 1) (fun s => ldb w ns x s && decide (c s = k))) ∧ (∀ b, b < 3 → ∀ k, k < 8 → bt (I' 51 6) (8 * b + k) = ex (i + 1) (onb w c ns x b k)) ∧ ∀ a j, ¬ (a = 51 ∧ (j = 5 ∨ j = 6)) → I' a j = I a j) (fun o => o.2.2 = J ∧ (∀ k, k < 32 → bt (o.2.1 51 5) k = ex ns (fun s => ldb w ns x s && decide (c s = k))) ∧ (∀ b, b < 3 → ∀ k, k < 8 → bt (o.2.1 51 6) (8 * b + k) = ex ns (onb w c ns x b k)) ∧ ∀ a j, ¬ (a = 51 ∧ (j = 5 ∨ j = 6)) → o.2.1 a j = I a j)) := by
      intro hl y
      simp only [f_X2_look_57_6, nt_addl]
      refine ok_some ⟨some (.int y), I', rfl, ?_, ?_, g3⟩
      · intro k hk
        rw [ex_s, g1 k hk, hl, Bool.false_and, Bool.or_false]
      · intro b hb k hk
        have : onb w c ns x b k i = false := by
          cases e : onb w c ns x b k i with
          | false => rfl
          | true =>
            obtain ⟨t, t1, t2, _⟩ := onb_iff.mp e
            rw [ldb_iff.mpr ⟨t, t1, t2⟩] at hl; cases hl
        rw [ex_s, g2 b hb k hk, this, Bool.or_false]
    cases ew : w.1 i x with
    | none =>
      simp (disch := omega) only [f_X2_look_57_3, ov, if_true, if_false, if_pos, if_neg, e01, e10, em12, em21, e0m1, e0m2, e1m1, e1m2, em10, em20, Int32.reduceLT, Int32.reduceLE, eq_self, Option.bind_some, Option.map_some, false_or, or_false, or_self, true_or, or_true, not_true_eq_false, not_false_eq_true, false_and, and_false, true_and, and_true]
      exact no (by unfold ldb; rw [ew]) _
    | some t =>
      have ht := (V.1 i x t ew).2.2
      simp (disch := omega) only [f_X2_look_57_3, f_X2_look_57_4, ov, nt_clamp, nt_le, nt_lt, nt_eq, lit_le, lit_lt, le_lit, lt_lit, eq_lit, lit_eq, nt_neg, nt_ge, nt_add, nt_mul, nt_addl, lit_add, nt_mull, lit_mul, nt_sub, nt_subl, lit_sub, nt_divl, nt_m1, nt_m2, nt_m1', nt_m2', if_false]
      by_cases c1 : ns ≤ t
      · rw [if_pos c1]
        exact no (by unfold ldb; rw [ew]; exact decide_eq_false (by omega)) _
      · rw [if_neg c1]
        have ci := hc i hi
        have ct := hc t (by omega)
        have e1 : I' 57 i = nt (c i) := (g3 57 i (by omega)).trans ci.1
        have e2 : I' 57 t = nt (c t) := (g3 57 t (by omega)).trans ct.1
        have hct := ct.2
        have hci := ci.2
        have x1 : ∀ v : Int32, ∀ j, (xup I' 51 5 v) 57 j = I' 57 j := fun v j => xup_bj _ _ _ _ _ (by omega)
        have x2 : ∀ v : Int32, (xup I' 51 5 v) 51 6 = I' 51 6 := fun v => xup_j _ _ _ _ (by omega)
        simp (disch := omega) only [f_X2_look_57_5, x1, x2, e1, e2, and7, nt_31, nt_clamp, nt_le, nt_lt, nt_eq, lit_le, lit_lt, le_lit, lt_lit, eq_lit, lit_eq, nt_neg, nt_ge, nt_add, nt_mul, nt_addl, lit_add, nt_mull, lit_mul, nt_sub, nt_subl, lit_sub, nt_divl, nt_m1, nt_m2, nt_m1', nt_m2', false_or, if_neg, f_X2_look_57_6]
        refine ok_some ⟨_, _, rfl, ?_, ?_, ?_⟩
        · intro k hk
          rw [xup_j _ _ _ _ (by omega), xup_at, bt_or, g1 k hk, one_shl (by omega) hk, ex_s]
          have : ldb w ns x i = true := ldb_iff.mpr ⟨t, ew, by omega⟩
          rw [this, Bool.true_and]
          by_cases e : k = c i
          · rw [decide_eq_true e, decide_eq_true e.symm]
          · rw [decide_eq_false e, decide_eq_false (fun h => e h.symm)]
        · intro b hb k hk
          rw [xup_at, bt_or, g2 b hb k hk, spread_ok _ ct.2 _ ci.2 b hb k hk, ex_s]
          have : onb w c ns x b k i = (decide (c i = k) && (c t).testBit b) := by
            unfold onb; rw [ew]; dsimp only; rw [decide_eq_true (show t < ns from by omega)]; rfl
          rw [this]
        · intro a j ha
          rw [xup_no _ _ _ _ (by omega), xup_no _ _ _ _ (by omega)]
          exact g3 a j ha
  · rintro s ⟨z, I', rfl, g1, g2, g3⟩
    simp (disch := omega) only [b_X2_look_57_1, f_X2_look_57_7, nt_clamp, nt_le, nt_lt, nt_eq, lit_le, lit_lt, le_lit, lt_lit, eq_lit, lit_eq, nt_neg, nt_ge, nt_add, nt_mul, nt_addl, lit_add, nt_mull, lit_mul, nt_sub, nt_subl, lit_sub, nt_divl, nt_m1, nt_m2, nt_m1', nt_m2', if_true, if_false, if_pos, if_neg, e01, e10, em12, em21, e0m1, e0m2, e1m1, e1m2, em10, em20, Int32.reduceLT, Int32.reduceLE, eq_self, Option.bind_some, Option.map_some, false_or, or_false, or_self, true_or, or_true, not_true_eq_false, not_false_eq_true, false_and, and_false, true_and, and_true]
    exact ok_some ⟨rfl, g1, g2, g3⟩
  · intro k hk
    rw [xup_j _ _ _ _ (by omega), xup_at, bt_zero]; rfl
  · intro b hb k hk
    rw [xup_at, bt_zero]; rfl
  · intro a j ha
    rw [xup_no _ _ _ _ (by omega), xup_no _ _ _ _ (by omega)]
theorem eight : ∀ b, b < 3 → (8 : Int32) * nt b &&& 31 = nt (8 * b) := by decide
theorem bt_255 {k : Nat} (hk : k < 32) : bt 255 k = decide (k < 8) := by
  have : ∀ k, k < 32 → bt 255 k = decide (k < 8) := by decide
  exact this k hk
theorem aim_ok {ns x b : Nat} {w : aT} {c : Nat → Nat} {I : xI} {J : xJ} (hc : ∀ s, s < ns → c s < 8) (hi : inj6 c ns) (hb : b < 3) (g1 : ∀ k, k < 32 → bt (I 51 5) k = ex ns (fun s => ldb w ns x s && decide (c s = k))) (g2 : ∀ b, b < 3 → ∀ k, k < 8 → bt (I 51 6) (8 * b + k) = ex ns (onb w c ns x b k)) : Ok (f_X2_aim (nt b) I J) (fun o => o.2.2 = J ∧ o.2.1 51 7 = nt (onS w c ns x b) ∧ o.2.1 51 8 = nt (ofS w c ns x b) ∧ ∀ a j, ¬ (a = 51 ∧ (j = 7 ∨ j = 8)) → o.2.1 a j = I a j) := by
  have e7 : (I 51 6 >>> nt (8 * b)) &&& 255 = nt (onS w c ns x b) := by
    apply bt_ext
    intro k hk
    rw [bt_and, bt_255 hk, bt_nt, decide_eq_true hk, Bool.true_and]
    unfold onS
    rw [mkn_tb]
    by_cases c8 : k < 8
    · rw [decide_eq_true c8, Bool.and_true, Bool.true_and, bt_shr (by omega) (by omega), g2 b hb k c8]
    · rw [decide_eq_false c8, Bool.and_false, Bool.false_and]
  unfold f_X2_aim f_X2_aim_0
  rw [eight b hb, e7, xup_at, xup_j _ _ _ _ (by omega)]
  refine ok_some ⟨rfl, ?_, ?_, ?_⟩
  · dsimp only
    rw [xup_j _ _ _ _ (by omega), xup_at]
  · dsimp only
    rw [xup_at]
    apply bt_ext
    intro k hk
    rw [bt_and, bt_xor, m1_bt hk, g1 k hk, bt_nt, bt_nt, decide_eq_true hk, Bool.true_and, Bool.true_and]
    unfold onS ofS
    rw [mkn_tb, mkn_tb]
    by_cases c8 : k < 8
    · rw [decide_eq_true c8, Bool.true_and, Bool.true_and]
      cases e0 : ex ns (ofb w c ns x b k) with
      | true =>
        obtain ⟨s, hs, h1⟩ := ex_iff.mp e0
        obtain ⟨t, a1, a2, a3, a4⟩ := ofb_iff.mp h1
        have f1 : ex ns (fun s => ldb w ns x s && decide (c s = k)) = true := ex_iff.mpr ⟨s, hs, by rw [ldb_iff.mpr ⟨t, a1, a2⟩, decide_eq_true a3]; rfl⟩
        have f2 : ex ns (onb w c ns x b k) = false := by
          cases e : ex ns (onb w c ns x b k) with
          | false => rfl
          | true =>
            obtain ⟨s', hs', h2⟩ := ex_iff.mp e
            obtain ⟨t', b1, b2, b3, b4⟩ := onb_iff.mp h2
            have := hi s s' hs hs' (a3.trans b3.symm)
            subst this
            rw [a1] at b1
            cases b1
            rw [a4] at b4; cases b4
        rw [f1, f2]; rfl
      | false =>
        cases e1 : ex ns (fun s => ldb w ns x s && decide (c s = k)) with
        | false => rfl
        | true =>
          obtain ⟨s, hs, h1⟩ := ex_iff.mp e1
          rw [Bool.and_eq_true, decide_eq_true_iff] at h1
          obtain ⟨t, a1, a2⟩ := ldb_iff.mp h1.1
          have f2 : ex ns (onb w c ns x b k) = true := by
            refine ex_iff.mpr ⟨s, hs, onb_iff.mpr ⟨t, a1, a2, h1.2, ?_⟩⟩
            cases e : (c t).testBit b with
            | true => rfl
            | false =>
              rw [ex_iff.mpr ⟨s, hs, ofb_iff.mpr ⟨t, a1, a2, h1.2, e⟩⟩] at e0
              cases e0
          rw [f2]; rfl
    · rw [decide_eq_false c8, Bool.false_and, Bool.false_and]
      have : ex ns (fun s => ldb w ns x s && decide (c s = k)) = false := by
        apply ex_false.mpr
        intro s hs
        rw [decide_eq_false (by have := hc s hs; omega), Bool.and_false]
      rw [this]; rfl
  · intro a j ha
    dsimp only
    rw [xup_no _ _ _ _ (by omega), xup_no _ _ _ _ (by omega)]
theorem onS_v {v ns x b : Nat} {w : aT} {c : Nat → Nat} (hc : ∀ s, s < ns → c s < 2 ^ v) : onS w c ns x b < 2 ^ 2 ^ v := by
  apply Nat.lt_pow_two_of_testBit
  intro k hk
  unfold onS
  rw [mkn_tb]
  have : ex ns (onb w c ns x b k) = false := by
    apply ex_false.mpr
    intro s hs
    cases e : onb w c ns x b k s with
    | false => rfl
    | true =>
      obtain ⟨t, _, _, h3, _⟩ := onb_iff.mp e
      have := hc s hs
      omega
  rw [this, Bool.and_false]
/-- the cubes' cells -/
def zReg (c j : Nat) : Prop := c = 54 ∨ c = 55 ∨ (c = 51 ∧ (5 ≤ j ∧ j ≤ 8))
def prp (n : Nat) (c : Nat → Nat) : Prop := inj6 c n ∧ ∀ s, s < n → c s < 2 ^ nb n
def cmu (w : aT) (c : Nat → Nat) (ns x b : Nat) : Nat := mu (ofS w c ns x b) (onS w c ns x b)
noncomputable def crw (n : Nat) (w : aT) (c : Nat → Nat) (x b : Nat) : Nat → Nat := cbr (nb n) (ofS w c n x b) (onS w c n x b)
def cLL (n : Nat) (w : aT) (c : Nat → Nat) (x b : Nat) : Prop := LL (3 ^ nb n) (cmu w c n x b) (cvp (ofS w c n x b) (onS w c n x b) (cmu w c n x b)) (crw n w c x b)
theorem cmu_8 (w : aT) (c : Nat → Nat) (ns x b : Nat) : cmu w c ns x b ≤ 8 := mu_8 (onS_lt _ _ _ _ _)
theorem list_ok {n m x b : Nat} {w : aT} {I : xI} {J : xJ} (hn : n ≤ 6) (hm : m ≤ 4) (V : Vd n m w) (h : cMa n m w (I 1 0) (I 1 1) (I 2) (I 3) (I 4)) (hp : prp n w.2.2) (hx : x < m) (hb : b < nb n) (hT : cT I) (hM : mK I) : Ok (f_X2_list (nt b) (nt x) I J) (fun o => o.2.2 = J ∧ o.1 = nt (cmu w w.2.2 n x b) ∧ (∀ i, i < cmu w w.2.2 n x b → o.2.1 55 i = nt (crw n w w.2.2 x b i)) ∧ cLL n w w.2.2 x b ∧ mK o.2.1 ∧ ∀ c j, ¬ zReg c j → o.2.1 c j = I c j) := by
  have hb3 := nb_le n
  have hp2 := nb_pow n (by omega)
  have h8 : ∀ s, s < n → w.2.2 s < 8 := fun s hs => by have := hp.2 s hs; omega
  simp only [f_X2_list, f_X2_list_0, h.1]
  apply ok_bind
  refine (look4_ok hn hm V h (Nat.le_refl n) hx (c := w.2.2) (fun s hs => ⟨h.2.2.2.2 s (by omega), h8 s hs⟩)).imp ?_
  rintro ⟨_, I1, J1⟩ ⟨rfl, a1, a2, a3⟩
  dsimp only at a1 a2 a3 ⊢
  unfold f_X2_list_1
  apply ok_bind
  refine (aim_ok (b := b) h8 hp.1 (by omega) a1 a2).imp ?_
  rintro ⟨_, I2, J2⟩ ⟨rfl, b1, b2, b3⟩
  dsimp only at b1 b2 b3 ⊢
  have fr2 : ∀ c j, ¬ (c = 51 ∧ (5 ≤ j ∧ j ≤ 8)) → I2 c j = I c j := fun c j hr => (b3 c j (by omega)).trans (a3 c j (by omega))
  have hT2 : cT I2 := ⟨fun c hc => (fr2 52 c (by omega)).trans (hT.1 c hc), fun c hc => (fr2 53 c (by omega)).trans (hT.2 c hc)⟩
  have hM2 : mK I2 := by
    intro R O h1 h2 h3 h4
    rw [fr2 54 _ (by omega)]; exact hM R O h1 h2 h3 h4
  have hdj := onof (w := w) (x := x) (b := b) hp.1
  have hpp := pp8_le (onS w w.2.2 n x b)
  simp only [f_X2_list_2, b1]
  apply ok_bind
  refine (least_ok (ofS_lt w w.2.2 n x b) 12 0 (onS w w.2.2 n x b) I2 J2 (by omega) (by omega) (onS_lt _ _ _ _ _) hdj (by omega) b2 hT2 hM2).imp ?_
  rintro ⟨_, I3, J3⟩ ⟨rfl, rfl, c1, c2⟩
  dsimp only at c1 c2 ⊢
  have e7 : I3 51 7 = nt (onS w w.2.2 n x b) := (c2 51 7 (by omega)).trans b1
  have hT3 : cT I3 := ⟨fun c hc => (c2 52 c (by omega)).trans (hT2.1 c hc), fun c hc => (c2 53 c (by omega)).trans (hT2.2 c hc)⟩
  simp only [f_X2_list_3, e7]
  apply ok_bind
  have hmu := mu_8 (off := ofS w w.2.2 n x b) (onS_lt w w.2.2 n x b)
  refine (chooseC_ok hn (ofS_lt w w.2.2 n x b) hmu 12 0 0 (onS w w.2.2 n x b) I3 J3 (by omega) (by omega) (Nat.zero_le _) (onS_lt _ _ _ _ _) hdj ((c2 1 0 (by omega)).trans ((fr2 1 0 (by omega)).trans h.1)) ((c2 51 8 (by omega)).trans b2) hT3 c1).imp ?_
  rintro ⟨z, I4, J4⟩ ⟨rfl, d1, d2, d3⟩
  dsimp only at d1 d2 d3 ⊢
  have fr4 : ∀ c j, ¬ zReg c j → I4 c j = I c j := by
    intro c j hr
    unfold zReg at hr
    exact ((d2 c j (by omega) (by omega)).trans (c2 c j (by omega))).trans (fr2 c j (by omega))
  rcases d3 with ⟨rfl, q, q1, q2, q3⟩ | ⟨rfl, q1⟩
  · have hLL : LL (3 ^ nb n) (mu (ofS w w.2.2 n x b) (onS w w.2.2 n x b)) (cvp (ofS w w.2.2 n x b) (onS w w.2.2 n x b) (mu (ofS w w.2.2 n x b) (onS w w.2.2 n x b))) q := by
      refine ⟨⟨fun i hi => (q1.1 i hi).2, q1.2.1⟩, q1.2.2, ?_⟩
      intro r hr hc
      exact q3 r ⟨fun i hi => ⟨Nat.zero_le _, hr.1 i hi⟩, hr.2, hc⟩
    have hq := cbr_of hLL
    refine ok_some ⟨rfl, rfl, ?_, hq.2, d1, fr4⟩
    intro i hi
    have := q2 i hi
    rw [Nat.zero_add] at this
    show I4 55 i = _
    rw [this, hq.1 i hi]; rfl
  · exfalso
    obtain ⟨p, hp1, hp2⟩ := pick_ex (v := nb n) hb3 (onS_v (x := x) (b := b) (w := w) hp.2) hdj
    exact q1 p ⟨fun i hi => ⟨Nat.zero_le _, hp1.1 i hi⟩, hp1.2, hp2⟩
