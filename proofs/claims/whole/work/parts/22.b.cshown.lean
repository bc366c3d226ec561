/-! shown of the class -/
theorem toldBy_ok {n m x : Nat} {w : aT} {X : Int32} {st : Nat → Nat} {I : xI} {J : xJ} (hn : n ≤ 6) (hm : m ≤ 4) (V : Vd n m w) (h : cMa n m w (I 1 0) (I 1 1) (I 2) (I 3) (I 4)) (hX : SD n X st) (hx : x < m) : Ok (f_X6_toldBy X (nt x) I J) (fun o => o.2 = (I, J) ∧ ∀ a b, a < b → b < n → bt o.1 (pX a b) = unl w (st a) (st b) x) := by
  have s8 : ∀ s, s < n → st s < 8 := fun s hs => by rcases (hX s hs).1 with c | c <;> omega
  unfold f_X6_toldBy f_X6_toldBy_0 f_X6_toldBy_1
  refine ok_loop (fun a s => ∃ v z, s = (X, nt x, v, nt a, z, I, J) ∧ ∀ q, q < 32 → bt v q = (decide (q < 15) && (dn a 0 q && (decide (pH q < n) && unl w (st (pL q)) (st (pH q)) x)))) n ?_ ?_ 5000 0 _ (by omega) (by omega) ⟨0, none, rfl, ?_⟩
  · rintro a ha s ⟨v, z, rfl, g1⟩
    simp (disch := omega) only [b_X6_toldBy_1, f_X6_toldBy_2, h.1, nt_clamp, nt_le, nt_lt, nt_eq, lit_le, lit_lt, le_lit, lt_lit, eq_lit, lit_eq, nt_neg, nt_ge, nt_add, nt_mul, nt_addl, lit_add, nt_mull, lit_mul, nt_sub, nt_subl, lit_sub, nt_divl, nt_m1, nt_m2, nt_m1', nt_m2', if_neg]
    unfold f_X6_toldBy_3
    refine ok_loop (fun b s => ∃ v, s = (X, nt x, v, nt a, nt b, I, J) ∧ a < b ∧ ∀ q, q < 32 → bt v q = (decide (q < 15) && (dn a b q && (decide (pH q < n) && unl w (st (pL q)) (st (pH q)) x)))) n ?_ ?_ 5000 (a + 1) _ (by omega) (by omega) ⟨v, rfl, by omega, ?_⟩
    · rintro b hb s ⟨v, rfl, hab, g2⟩
      have sa := s8 a ha
      have sb := s8 b hb
      simp (disch := omega) only [b_X6_toldBy_3, f_X6_toldBy_4, f_X6_toldBy_5, h.1, nt_clamp, nt_le, nt_lt, nt_eq, lit_le, lit_lt, le_lit, lt_lit, eq_lit, lit_eq, nt_neg, nt_ge, nt_add, nt_mul, nt_addl, lit_add, nt_mull, lit_mul, nt_sub, nt_subl, lit_sub, nt_divl, nt_m1, nt_m2, nt_m1', nt_m2', if_neg, sd_ok hn hX ha, sd_ok hn hX hb, isUnlike_ok hn hm V h, Option.bind_some, bi_0]
      have hst := dn_step a (by omega) b (by omega) hab
      have el := pX_inv a (by omega) b (by omega) hab
      have hpx := pX_lt a (by omega) b (by omega)
      cases e' : unl w (st a) (st b) x with
      | true =>
        rw [if_neg (by decide)]
        simp (disch := omega) only [f_X6_toldBy_6, f_X6_toldBy_7, f_X6_toldBy_8, pairOf_ok, Option.bind_some, nt_clamp, nt_le, nt_lt, nt_eq, lit_le, lit_lt, le_lit, lt_lit, eq_lit, lit_eq, nt_neg, nt_ge, nt_add, nt_mul, nt_addl, lit_add, nt_mull, lit_mul, nt_sub, nt_subl, lit_sub, nt_divl, nt_m1, nt_m2, nt_m1', nt_m2']
        refine ok_some ⟨_, rfl, by omega, ?_⟩
        intro q hq
        rw [bt_or, g2 q hq, pm_bt (by omega) (by omega) hq, decide_eq_false (show ¬ a = b from by omega)]
        by_cases c15 : q < 15
        · rw [hst q c15]
          by_cases c : q = pX a b
          · rw [c, decide_eq_true rfl, decide_eq_true hpx, el.1, el.2, e', decide_eq_true hb]; simp
          · rw [decide_eq_false c]; simp
        · rw [decide_eq_false c15, decide_eq_false (show ¬ q = pX a b from by omega)]; simp
      | false =>
        rw [if_pos rfl]
        simp (disch := omega) only [f_X6_toldBy_8, nt_clamp, nt_le, nt_lt, nt_eq, lit_le, lit_lt, le_lit, lt_lit, eq_lit, lit_eq, nt_neg, nt_ge, nt_add, nt_mul, nt_addl, lit_add, nt_mull, lit_mul, nt_sub, nt_subl, lit_sub, nt_divl, nt_m1, nt_m2, nt_m1', nt_m2']
        refine ok_some ⟨_, rfl, by omega, ?_⟩
        intro q hq
        rw [g2 q hq]
        by_cases c15 : q < 15
        · rw [hst q c15]
          by_cases c : q = pX a b
          · rw [c, el.1, el.2, e']; simp
          · rw [decide_eq_false c, Bool.or_false]
        · rw [decide_eq_false c15]; rfl
    · rintro s ⟨v, rfl, hab, g2⟩
      simp (disch := omega) only [b_X6_toldBy_3, f_X6_toldBy_9, h.1, nt_clamp, nt_le, nt_lt, nt_eq, lit_le, lit_lt, le_lit, lt_lit, eq_lit, lit_eq, nt_neg, nt_ge, nt_add, nt_mul, nt_addl, lit_add, nt_mull, lit_mul, nt_sub, nt_subl, lit_sub, nt_divl, nt_m1, nt_m2, nt_m1', nt_m2', if_pos, Option.map_some]
      refine ok_some ⟨v, _, rfl, ?_⟩
      intro q hq
      rw [g2 q hq]
      by_cases c15 : q < 15
      · by_cases c : pH q < n
        · have : dn (a + 1) 0 q = dn a n q := by
            unfold dn
            rw [decide_eq_true c, decide_eq_false (show ¬ pH q < 0 from by omega), Bool.and_false, Bool.or_false, Bool.and_true]
            by_cases c1 : pL q < a
            · rw [decide_eq_true c1, decide_eq_true (show pL q < a + 1 from by omega)]; rfl
            · by_cases c2 : pL q = a
              · rw [decide_eq_true c2, decide_eq_true (show pL q < a + 1 from by omega), Bool.or_true]
              · rw [decide_eq_false c1, decide_eq_false c2, decide_eq_false (show ¬ pL q < a + 1 from by omega)]; rfl
          rw [this]
        · rw [decide_eq_false c]; simp
      · rw [decide_eq_false c15]; rfl
    · intro q hq
      rw [g1 q hq]
      by_cases c15 : q < 15
      · rw [dn_first a (by omega) q c15]
      · rw [decide_eq_false c15]; rfl
  · rintro s ⟨v, z, rfl, g1⟩
    simp (disch := omega) only [b_X6_toldBy_1, f_X6_toldBy_10, h.1, nt_clamp, nt_le, nt_lt, nt_eq, lit_le, lit_lt, le_lit, lt_lit, eq_lit, lit_eq, nt_neg, nt_ge, nt_add, nt_mul, nt_addl, lit_add, nt_mull, lit_mul, nt_sub, nt_subl, lit_sub, nt_divl, nt_m1, nt_m2, nt_m1', nt_m2', if_pos, Option.map_some]
    refine ok_some ⟨rfl, ?_⟩
    intro a b hab hb
    have el := pX_inv a (by omega) b (by omega) hab
    have hpx := pX_lt a (by omega) b (by omega)
    show bt v (pX a b) = _
    rw [g1 _ (by omega), decide_eq_true hpx, el.1, el.2, decide_eq_true hb]
    have : dn n 0 (pX a b) = true := by
      unfold dn
      rw [el.1, decide_eq_true (show a < n from by omega)]; rfl
    rw [this]; rfl
  · intro q hq
    rw [bt_zero]
    unfold dn
    simp
theorem tl_consf (w : aT) (L x : Nat) (q : Nat → Nat) : (fun i => consf x q (i + 1)) = q ∧ consf x q 0 = x := by
  refine ⟨?_, rfl⟩
  funext i
  unfold consf
  rw [if_neg (by omega), Nat.add_sub_cancel]
theorem seek_ok {n m size : Nat} {w : aT} (hn : n ≤ 6) (hm : m ≤ 4) (V : Vd n m w) (hz : size ≤ 6) : ∀ (r d : Nat) (X T : Int32) (st : Nat → Nat) (I : xI) (J : xJ), size < r + d → d ≤ size → SD n X st → cMa n m w (I 1 0) (I 1 1) (I 2) (I 3) (I 4) → cPa m w (I 32 3) (I 33) (I 34) → Ok (f_X6_seek r (nt d) (nt size) X T I J) (fun o => o.2.2 = J ∧ (∀ c j, ¬ (c = 35 ∧ d ≤ j) → o.2.1 c j = I c j) ∧ ((o.1 = 1 ∧ ∃ q, (∀ i, i < size - d → q i < m) ∧ UT n m w T (size - d) q st ∧ (∀ i, i < size - d → o.2.1 35 (d + i) = nt (q i)) ∧ ∀ t, (∀ i, i < size - d → t i < m) → UT n m w T (size - d) t st → ¬ lx (size - d) t q) ∨ (o.1 = 0 ∧ ∀ t, (∀ i, i < size - d → t i < m) → ¬ UT n m w T (size - d) t st))) := by
  intro r
  induction r with
  | zero => intro d X T st I J h1 h2; omega
  | succ r ih =>
    intro d X T st I J hr hd hX h hp
    show Ok (f_X6_seek_0 (f_X6_seek r) (nt d) (nt size) X T I J) _
    simp (disch := omega) only [f_X6_seek_0, nt_clamp, nt_le, nt_lt, nt_eq, lit_le, lit_lt, le_lit, lt_lit, eq_lit, lit_eq, nt_neg, nt_ge, nt_add, nt_mul, nt_addl, lit_add, nt_mull, lit_mul, nt_sub, nt_subl, lit_sub, nt_divl, nt_m1, nt_m2, nt_m1', nt_m2']
    apply ok_bind
    refine (canTell_ok hn V h.1 hp hX (show size - d ≤ 6 from by omega)).imp ?_
    rintro ⟨v, o⟩ ⟨e, hc⟩
    dsimp only at e hc ⊢
    subst e
    rcases hc with ⟨rfl, hc⟩ | ⟨rfl, hc⟩
    · simp (disch := omega) only [f_X6_seek_1, e10, if_false, f_X6_seek_3, nt_clamp, nt_le, nt_lt, nt_eq, lit_le, lit_lt, le_lit, lt_lit, eq_lit, lit_eq, nt_neg, nt_ge, nt_add, nt_mul, nt_addl, lit_add, nt_mull, lit_mul, nt_sub, nt_subl, lit_sub, nt_divl, nt_m1, nt_m2, nt_m1', nt_m2']
      by_cases hds : d < size
      · rw [if_pos hds]
        obtain ⟨L, hL⟩ : ∃ L, size - d = L + 1 := ⟨size - d - 1, by omega⟩
        have hL' : size - (d + 1) = L := by omega
        rw [hL]
        unfold f_X6_seek_5 f_X6_seek_6
        refine ok_loop (fun x s => ∃ I', s = (nt d, nt size, X, T, nt x, I', J) ∧ (∀ c j, ¬ (c = 35 ∧ d ≤ j) → I' c j = I c j) ∧ ∀ t, (∀ i, i < L + 1 → t i < m) → UT n m w T (L + 1) t st → t 0 < x → False) m ?_ ?_ 5000 0 _ (by omega) (by omega) ⟨I, rfl, fun _ _ _ => rfl, fun t _ _ h => absurd h (by omega)⟩
        · rintro x hx s ⟨I1, rfl, g1, g2⟩
          have x1 : ∀ c j, ¬ (c = 35 ∧ d ≤ j) → (xup I1 35 d (nt x)) c j = I c j := by
            intro c j hh
            rw [xup_no _ _ _ _ (by omega)]; exact g1 c j hh
          have x2 : (xup I1 35 d (nt x)) 35 d = nt x := xup_at _ _ _ _
          have g11 : I1 1 1 = nt m := (g1 1 1 (by omega)).trans h.2.1
          simp (disch := omega) only [b_X6_seek_6, f_X6_seek_7, g11, nt_clamp, nt_le, nt_lt, nt_eq, lit_le, lit_lt, le_lit, lt_lit, eq_lit, lit_eq, nt_neg, nt_ge, nt_add, nt_mul, nt_addl, lit_add, nt_mull, lit_mul, nt_sub, nt_subl, lit_sub, nt_divl, nt_m1, nt_m2, nt_m1', nt_m2', false_or, if_neg]
          generalize xup I1 35 d (nt x) = I2 at x1 x2 ⊢
          have h2 : cMa n m w (I2 1 0) (I2 1 1) (I2 2) (I2 3) (I2 4) := cMa_fr h (fun c j c1 c2 => x1 c j (by omega))
          have hp2 : cPa m w (I2 32 3) (I2 33) (I2 34) := by
            rw [x1 32 3 (by omega), show I2 33 = I 33 from funext fun j => x1 33 j (by omega), show I2 34 = I 34 from funext fun j => x1 34 j (by omega)]; exact hp
          apply ok_bind
          refine (standB_ok hn hm V h2 hX hx).imp ?_
          rintro ⟨X', o⟩ ⟨e, hX'⟩
          dsimp only at e hX' ⊢
          subst e
          unfold f_X6_seek_8
          apply ok_bind
          refine (toldBy_ok hn hm V h2 hX hx).imp ?_
          rintro ⟨B, o⟩ ⟨e, hB⟩
          dsimp only at e hB ⊢
          subst e
          unfold f_X6_seek_9
          apply ok_bind
          refine (ih (d + 1) X' (T ||| B) (stx w st x) I2 J (by omega) (by omega) hX' h2 hp2).imp ?_
          rintro ⟨v, I3, J3⟩ ⟨rfl, b1, b2⟩
          dsimp only at b1 b2 ⊢
          rw [hL'] at b2
          have fr3 : ∀ c j, ¬ (c = 35 ∧ d ≤ j) → I3 c j = I c j := fun c j hh => (b1 c j (by omega)).trans (x1 c j hh)
          rcases b2 with ⟨rfl, q, q1, q2, q3, q4⟩ | ⟨rfl, q1⟩
          · simp only [f_X6_seek_10, e10, if_false, f_X6_seek_11, Option.map_some]
            have hcf := tl_consf w L x q
            refine ok_some ⟨rfl, fr3, Or.inl ⟨rfl, consf x q, ?_, ?_, ?_, ?_⟩⟩
            · intro i hi
              unfold consf
              by_cases e : i = 0
              · rw [if_pos e]; exact hx
              · rw [if_neg e]; exact q1 (i - 1) (by omega)
            · rw [UT_step hB hcf.2, hcf.1]; exact q2
            · intro i hi
              dsimp only
              unfold consf
              by_cases e : i = 0
              · rw [if_pos e, e, Nat.add_zero, b1 35 d (by omega)]; exact x2
              · rw [if_neg e]
                have := q3 (i - 1) (by omega)
                rw [show d + 1 + (i - 1) = d + i from by omega] at this
                exact this
            · intro t ht hu hl
              rcases lx_consf hl with c1 | ⟨c1, c2⟩
              · exact g2 t ht hu c1
              · rw [UT_step hB c1] at hu
                exact q4 _ (fun i hi => ht (i + 1) (by omega)) hu c2
          · simp only [f_X6_seek_10, if_true, f_X6_seek_12, nt_addl]
            refine ok_some ⟨I3, rfl, fr3, ?_⟩
            intro t ht hu hl
            by_cases e : t 0 = x
            · rw [UT_step hB e] at hu
              exact q1 _ (fun i hi => ht (i + 1) (by omega)) hu
            · exact g2 t ht hu (by omega)
        · rintro s ⟨I1, rfl, g1, g2⟩
          have g11 : I1 1 1 = nt m := (g1 1 1 (by omega)).trans h.2.1
          simp (disch := omega) only [b_X6_seek_6, f_X6_seek_13, g11, nt_clamp, nt_le, nt_lt, nt_eq, lit_le, lit_lt, le_lit, lt_lit, eq_lit, lit_eq, nt_neg, nt_ge, nt_add, nt_mul, nt_addl, lit_add, nt_mull, lit_mul, nt_sub, nt_subl, lit_sub, nt_divl, nt_m1, nt_m2, nt_m1', nt_m2', if_pos, Option.map_some]
          exact ok_some ⟨rfl, g1, Or.inr ⟨rfl, fun t ht hu => g2 t ht hu (ht 0 (by omega))⟩⟩
      · rw [if_neg hds]
        have e0 : size - d = 0 := by omega
        rw [e0] at hc ⊢
        simp only [f_X6_seek_4]
        refine ok_some ⟨rfl, fun _ _ _ => rfl, Or.inl ⟨rfl, fun _ => 0, fun i hi => absurd hi (by omega), ?_, fun i hi => absurd hi (by omega), ?_⟩⟩
        · intro a b h1 h2 h3 h4
          obtain ⟨r, _, hr⟩ := hc a b h1 h2 h3 h4
          omega
        · rintro t _ _ ⟨i, hi, _⟩
          omega
    · simp only [f_X6_seek_1, if_true, f_X6_seek_2]
      exact ok_some ⟨rfl, fun _ _ _ => rfl, Or.inr ⟨rfl, fun t ht hu => hc (UT_CT hn V ht hu)⟩⟩
/-- a word that shows all -/
def SW (n m : Nat) (w : aT) (k : Nat) (t : Nat → Nat) : Prop := (∀ i, i < k → t i < m) ∧ ∀ a b, a < b → b < n → (rd m w a b).isSome = true → tl w k t a b = true
def NS (n m : Nat) (w : aT) (k : Nat) : Prop := ∀ t, ¬ SW n m w k t
def SQ (n m : Nat) (w : aT) (k : Nat) (q : Nat → Nat) : Prop := SW n m w k q ∧ ∀ t, SW n m w k t → ¬ lx k t q
theorem SW_UT {n m k : Nat} {w : aT} {t : Nat → Nat} : SW n m w k t ↔ (∀ i, i < k → t i < m) ∧ UT n m w 0 k t (fun s => s) := by
  constructor
  · rintro ⟨h1, h2⟩
    exact ⟨h1, fun a b hab hb hr _ => h2 a b hab hb hr⟩
  · rintro ⟨h1, h2⟩
    exact ⟨h1, fun a b hab hb hr => h2 a b hab hb hr (bt_zero _)⟩
def cSh (n m : Nat) (w : aT) (v : Int32) (c35 : Nat → Int32) : Prop := (v = -2 ∧ ∀ k, k < 7 → NS n m w k) ∨ ∃ k q, k < 7 ∧ v = nt k ∧ (∀ j, j < k → NS n m w j) ∧ SQ n m w k q ∧ ∀ i, i < k → c35 i = nt (q i)
def stn (k : Nat) : Int32 := ([0, 0, 8, 136, 1672, 18056, 181896] : List Int32).getD k 0
theorem stn_s : ∀ k, k < 6 → stn k ||| (nt k <<< (nt (3 * k) &&& 31)) = stn (k + 1) := by decide
theorem startS_ok {I : xI} {J : xJ} : f_X6_startStand I J = some (stn 6, I, J) := by
  apply Ok.eq
  unfold f_X6_startStand f_X6_startStand_0 f_X6_startStand_1
  refine ok_loop (fun k s => s = (stn k, nt k, I, J)) 6 ?_ ?_ 5000 0 _ (by omega) (by omega) rfl
  · rintro k hk s rfl
    simp (disch := omega) only [b_X6_startStand_1, f_X6_startStand_2, nt_clamp, nt_le, nt_lt, nt_eq, lit_le, lit_lt, le_lit, lt_lit, eq_lit, lit_eq, nt_neg, nt_ge, nt_add, nt_mul, nt_addl, lit_add, nt_mull, lit_mul, nt_sub, nt_subl, lit_sub, nt_divl, nt_m1, nt_m2, nt_m1', nt_m2', if_neg, stn_s k hk]
    exact ok_some rfl
  · rintro s rfl
    simp (disch := omega) only [b_X6_startStand_1, f_X6_startStand_3, nt_clamp, nt_le, nt_lt, nt_eq, lit_le, lit_lt, le_lit, lt_lit, eq_lit, lit_eq, nt_neg, nt_ge, nt_add, nt_mul, nt_addl, lit_add, nt_mull, lit_mul, nt_sub, nt_subl, lit_sub, nt_divl, nt_m1, nt_m2, nt_m1', nt_m2', if_pos, Option.map_some]
    exact ok_some rfl
theorem stn_bt : ∀ s, s < 6 → ∀ r, r < 3 → bt (stn 6) (3 * s + r) = s.testBit r := by decide
theorem SD_0 {n : Nat} (hn : n ≤ 6) : SD n (stn 6) (fun s => s) := fun s hs => ⟨Or.inl hs, fun r hr => stn_bt s (by omega) r hr⟩
def wReg (c j : Nat) : Prop := c = 35 ∨ (c = 32 ∧ (j = 6 ∨ j = 7))
theorem lengthS_ok {n m : Nat} {w : aT} {I : xI} {J : xJ} (hn : n ≤ 6) (hm : m ≤ 4) (V : Vd n m w) (h : cMa n m w (I 1 0) (I 1 1) (I 2) (I 3) (I 4)) (hp : cPa m w (I 32 3) (I 33) (I 34)) (hc : I 32 7 = I 1 2 → cSh n m w (I 32 6) (I 35)) : Ok (f_X6_lengthShown I J) (fun o => o.2.2 = J ∧ o.1 = o.2.1 32 6 ∧ cSh n m w (o.2.1 32 6) (o.2.1 35) ∧ ∀ c j, ¬ wReg c j → o.2.1 c j = I c j) := by
  unfold f_X6_lengthShown f_X6_lengthShown_0
  by_cases e : I 32 7 = I 1 2
  · rw [if_pos e]
    exact ok_some ⟨rfl, rfl, hc e, fun _ _ _ => rfl⟩
  · rw [if_neg e]
    unfold f_X6_lengthShown_1 f_X6_lengthShown_2
    have x0 : ∀ c j, ¬ wReg c j → (xup (xup I 32 7 (I 1 2)) 32 6 (-2)) c j = I c j := by
      intro c j hh
      unfold wReg at hh
      rw [xup_no _ _ _ _ (by omega), xup_no _ _ _ _ (by omega)]
    have x6 : (xup (xup I 32 7 (I 1 2)) 32 6 (-2)) 32 6 = -2 := xup_at _ _ _ _
    generalize xup (xup I 32 7 (I 1 2)) 32 6 (-2) = I0 at x0 x6 ⊢
    refine ok_loop (fun k s => ∃ I', s = (nt k, I', J) ∧ (∀ c j, ¬ wReg c j → I' c j = I c j) ∧ ((I' 32 6 = -2 ∧ ∀ j, j < k → NS n m w j) ∨ ∃ k', k' < k ∧ ∃ q, I' 32 6 = nt k' ∧ (∀ j, j < k' → NS n m w j) ∧ SQ n m w k' q ∧ ∀ i, i < k' → I' 35 i = nt (q i))) 7 ?_ ?_ 5000 0 _ (by omega) (by omega) ⟨I0, rfl, x0, Or.inl ⟨x6, fun j hj => absurd hj (by omega)⟩⟩
    · rintro k hk s ⟨I1, rfl, g1, g2⟩
      simp (disch := omega) only [b_X6_lengthShown_2, f_X6_lengthShown_3, nt_clamp, nt_le, nt_lt, nt_eq, lit_le, lit_lt, le_lit, lt_lit, eq_lit, lit_eq, nt_neg, nt_ge, nt_add, nt_mul, nt_addl, lit_add, nt_mull, lit_mul, nt_sub, nt_subl, lit_sub, nt_divl, nt_m1, nt_m2, nt_m1', nt_m2', if_neg]
      rcases g2 with ⟨g2, g3⟩ | ⟨k', hk', q, q1, q2, q3, q4⟩
      · rw [if_pos g2]
        simp only [f_X6_lengthShown_4, startS_ok, Option.bind_some, f_X6_lengthShown_5]
        apply ok_bind
        have h1 : cMa n m w (I1 1 0) (I1 1 1) (I1 2) (I1 3) (I1 4) := cMa_fr h (fun c j c1 c2 => g1 c j (by unfold wReg; omega))
        have hp1 : cPa m w (I1 32 3) (I1 33) (I1 34) := by
          rw [g1 32 3 (by unfold wReg; omega), show I1 33 = I 33 from funext fun j => g1 33 j (by unfold wReg; omega), show I1 34 = I 34 from funext fun j => g1 34 j (by unfold wReg; omega)]; exact hp
        refine (seek_ok hn hm V (show k ≤ 6 from by omega) 12 0 (stn 6) 0 (fun s => s) I1 J (by omega) (by omega) (SD_0 hn) h1 hp1).imp ?_
        rintro ⟨v, I2, J2⟩ ⟨rfl, b1, b2⟩
        dsimp only at b1 b2 ⊢
        rw [Nat.sub_zero] at b2
        rcases b2 with ⟨rfl, q, q1, q2, q3, q4⟩ | ⟨rfl, q1⟩
        · simp only [f_X6_lengthShown_6, e10, if_false, f_X6_lengthShown_7, f_X6_lengthShown_8, nt_addl]
          refine ok_some ⟨_, rfl, ?_, Or.inr ⟨k, by omega, q, xup_at _ _ _ _, g3, ⟨SW_UT.mpr ⟨q1, q2⟩, fun t ht => q4 t (SW_UT.mp ht).1 (SW_UT.mp ht).2⟩, ?_⟩⟩
          · intro c j hh
            have hh2 := hh
            unfold wReg at hh2
            rw [xup_no _ _ _ _ (by omega), b1 c j (by omega)]; exact g1 c j hh
          · intro i hi
            rw [xup_bj _ _ _ _ _ (by omega)]
            have := q3 i hi
            rwa [Nat.zero_add] at this
        · simp only [f_X6_lengthShown_6, if_true, f_X6_lengthShown_8, nt_addl]
          refine ok_some ⟨I2, rfl, ?_, Or.inl ⟨?_, ?_⟩⟩
          · intro c j hh
            have hh2 := hh
            unfold wReg at hh2
            rw [b1 c j (by omega)]; exact g1 c j hh
          · rw [b1 32 6 (by omega)]; exact g2
          · intro j hj
            by_cases e : j = k
            · rw [e]
              intro t ht
              exact q1 t (SW_UT.mp ht).1 (SW_UT.mp ht).2
            · exact g3 j (by omega)
      · have hk2 : ¬ I1 32 6 = -2 := by rw [q1, nt_m2 (by omega)]; exact id
        rw [if_neg hk2]
        simp only [f_X6_lengthShown_9, Option.map_some]
        exact ok_some ⟨rfl, rfl, Or.inr ⟨k', q, by omega, q1, q2, q3, q4⟩, g1⟩
    · rintro s ⟨I1, rfl, g1, g2⟩
      simp (disch := omega) only [b_X6_lengthShown_2, f_X6_lengthShown_9, nt_clamp, nt_le, nt_lt, nt_eq, lit_le, lit_lt, le_lit, lt_lit, eq_lit, lit_eq, nt_neg, nt_ge, nt_add, nt_mul, nt_addl, lit_add, nt_mull, lit_mul, nt_sub, nt_subl, lit_sub, nt_divl, nt_m1, nt_m2, nt_m1', nt_m2', if_pos, Option.map_some]
      refine ok_some ⟨rfl, rfl, ?_, g1⟩
      rcases g2 with g2 | ⟨k', hk', q, q1, q2, q3, q4⟩
      · exact Or.inl g2
      · exact Or.inr ⟨k', q, hk', q1, q2, q3, q4⟩
/-- the answer -/
def SHR (n m : Nat) (w : aT) (i v : Int32) : Prop := (v = -2 ∧ ∀ k, k < 7 → NS n m w k) ∨ ∃ k q, k < 7 ∧ (∀ j, j < k → NS n m w j) ∧ SQ n m w k q ∧ v = (if i = -1 then nt k else if isS k i = true then nt (q i.toNatClampNeg) else -1)
theorem SHR_uniq {n m : Nat} {w : aT} {i v v' : Int32} (h : SHR n m w i v) (h' : SHR n m w i v') : v = v' := by
  rcases h with ⟨rfl, h⟩ | ⟨k, q, h1, h2, h3, rfl⟩
  · rcases h' with ⟨rfl, _⟩ | ⟨k, q, h1, h2, h3, _⟩
    · rfl
    · exact absurd h3.1 (h k h1 q)
  · rcases h' with ⟨_, h⟩ | ⟨k', q', h1', h2', h3', rfl⟩
    · exact absurd h3.1 (h k h1 q)
    · have ek : k = k' := by
        rcases Nat.lt_trichotomy k k' with c | c | c
        · exact absurd h3.1 (h2' k c q)
        · exact c
        · exact absurd h3'.1 (h2 k' c q')
      subst ek
      have eq : ∀ j, j < k → q j = q' j := by
        rcases lx_tri k q q' with c | c | c
        · exact absurd c (h3'.2 q h3.1)
        · exact absurd c (h3.2 q' h3'.1)
        · exact c
      by_cases e1 : i = -1
      · rw [if_pos e1, if_pos e1]
      · rw [if_neg e1, if_neg e1]
        by_cases e2 : isS k i = true
        · rw [if_pos e2, if_pos e2]
          obtain ⟨j, hj, rfl⟩ := isS_ex (by omega) e2
          rw [nt_clamp (by omega), eq j hj]
        · rw [if_neg e2, if_neg e2]
noncomputable def shownR (n m : Nat) (w : aT) (i : Int32) : Int32 := Classical.epsilon (fun v => SHR n m w i v)
theorem shownR_of {n m : Nat} {w : aT} {i v : Int32} (h : SHR n m w i v) : v = shownR n m w i := SHR_uniq h (Classical.epsilon_spec (p := fun v => SHR n m w i v) ⟨v, h⟩)
def caG (n m : Nat) (w : aT) (I : xI) : Prop := I 32 7 = I 1 2 → cSh n m w (I 32 6) (I 35)
theorem cshown_ok {n m : Nat} {w : aT} {I : xI} {J : xJ} (hn : n ≤ 6) (hm : m ≤ 4) (V : Vd n m w) (h : cMa n m w (I 1 0) (I 1 1) (I 2) (I 3) (I 4)) (hA : caA m w I) (hG : caG n m w I) (i : Int32) : Ok (f_X11_shown i I J) (fun o => o.2.2 = J ∧ o.1 = shownR n m w i ∧ caA m w o.2.1 ∧ caG n m w o.2.1 ∧ ∀ c j, ¬ (pReg c j ∨ wReg c j) → o.2.1 c j = I c j) := by
  unfold f_X11_shown f_X11_shown_0
  apply ok_bind
  refine (pairsNow_ok hn hm V h hA).imp ?_
  rintro ⟨_, I1, J1⟩ ⟨rfl, a1, a2⟩
  dsimp only at a1 a2 ⊢
  have h1 : cMa n m w (I1 1 0) (I1 1 1) (I1 2) (I1 3) (I1 4) := cMa_fr h (fun c j c1 c2 => a2 c j (by unfold pReg; omega))
  have hG1 : I1 32 7 = I1 1 2 → cSh n m w (I1 32 6) (I1 35) := by
    rw [a2 32 7 (by unfold pReg; omega), a2 1 2 (by unfold pReg; omega), a2 32 6 (by unfold pReg; omega), show I1 35 = I 35 from funext fun j => a2 35 j (by unfold pReg; omega)]
    exact hG
  unfold f_X11_shown_1
  apply ok_bind
  refine (lengthS_ok hn hm V h1 a1 hG1).imp ?_
  rintro ⟨v0, I2, J2⟩ ⟨rfl, hv0, b2, b3⟩
  dsimp only at hv0 b2 b3 ⊢
  subst hv0
  have hfin : caA m w I2 ∧ caG n m w I2 ∧ ∀ c j, ¬ (pReg c j ∨ wReg c j) → I2 c j = I c j := by
    refine ⟨?_, fun _ => b2, fun c j hh => (b3 c j (fun hw => hh (Or.inr hw))).trans (a2 c j (fun hw => hh (Or.inl hw)))⟩
    intro _
    rw [b3 32 3 (by unfold wReg; omega), show I2 33 = I1 33 from funext fun j => b3 33 j (by unfold wReg; omega), show I2 34 = I1 34 from funext fun j => b3 34 j (by unfold wReg; omega)]
    exact a1
  have fin : ∀ v : Int32, SHR n m w i v → Ok (some (v, I2, J2)) (fun o => o.2.2 = J2 ∧ o.1 = shownR n m w i ∧ caA m w o.2.1 ∧ caG n m w o.2.1 ∧ ∀ c j, ¬ (pReg c j ∨ wReg c j) → o.2.1 c j = I c j) := fun v hv => ok_some ⟨rfl, shownR_of hv, hfin⟩
  rcases b2 with ⟨q1, q2⟩ | ⟨k, q, q0, q1, q2, q3, q4⟩
  · simp only [f_X11_shown_2, q1, if_true, f_X11_shown_4]
    exact fin _ (Or.inl ⟨rfl, q2⟩)
  · simp (disch := omega) only [f_X11_shown_2, f_X11_shown_3, q1, nt_clamp, nt_le, nt_lt, nt_eq, lit_le, lit_lt, le_lit, lt_lit, eq_lit, lit_eq, nt_neg, nt_ge, nt_add, nt_mul, nt_addl, lit_add, nt_mull, lit_mul, nt_sub, nt_subl, lit_sub, nt_divl, nt_m1, nt_m2, nt_m1', nt_m2', if_false, f_X11_shown_4]
    by_cases e1 : i = -1
    · rw [if_pos e1]
      exact fin _ (Or.inr ⟨k, q, q0, q2, q3, by rw [if_pos e1]⟩)
    · rw [if_neg e1]
      unfold f_X11_shown_5
      rcases nt_all i with hi | ⟨j, hj, rfl⟩
      · rw [if_pos hi]
        exact fin (-1) (Or.inr ⟨k, q, q0, q2, q3, by rw [if_neg e1, isS_neg hi]; rfl⟩)
      · simp (disch := omega) only [f_X11_shown_6, f_X11_shown_8, f_X11_shown_9, nt_clamp, nt_le, nt_lt, nt_eq, lit_le, lit_lt, le_lit, lt_lit, eq_lit, lit_eq, nt_neg, nt_ge, nt_add, nt_mul, nt_addl, lit_add, nt_mull, lit_mul, nt_sub, nt_subl, lit_sub, nt_divl, nt_m1, nt_m2, nt_m1', nt_m2', if_false]
        by_cases e2 : k ≤ j
        · rw [if_pos e2]
          exact fin (-1) (Or.inr ⟨k, q, q0, q2, q3, by rw [if_neg e1, isS_nt (by omega) hj, decide_eq_false (by omega)]; rfl⟩)
        · rw [if_neg e2]
          simp (disch := omega) only [f_X11_shown_7, f_X11_shown_9, nt_clamp, nt_le, nt_lt, nt_eq, lit_le, lit_lt, le_lit, lt_lit, eq_lit, lit_eq, nt_neg, nt_ge, nt_add, nt_mul, nt_addl, lit_add, nt_mull, lit_mul, nt_sub, nt_subl, lit_sub, nt_divl, nt_m1, nt_m2, nt_m1', nt_m2', false_or, if_neg]
          rw [q4 j (by omega)]
          exact fin _ (Or.inr ⟨k, q, q0, q2, q3, by rw [if_neg e1, isS_nt (by omega) hj, decide_eq_true (by omega), if_pos rfl, nt_clamp hj]⟩)
