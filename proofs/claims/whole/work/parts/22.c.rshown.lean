/-! shown of the reference -/
def dw (k W i : Nat) : Nat := W / 4 ^ (k - 1 - i) % 4
theorem dw_lt (k W i : Nat) : dw k W i < 4 := Nat.mod_lt _ (by omega)
theorem p4 {k i : Nat} (hi : i < k) : 4 ^ (k + 1 - 1 - i) = 4 * 4 ^ (k - 1 - i) := by
  rw [show k + 1 - 1 - i = (k - 1 - i) + 1 from by omega, Nat.pow_succ, Nat.mul_comm]
theorem vlb_dig : ∀ (k : Nat) (t : Nat → Nat), (∀ i, i < k → t i < 4) → ∀ i, i < k → dw k (vlb 4 k t) i = t i := by
  intro k
  induction k with
  | zero => intro t _ i hi; omega
  | succ k ih =>
    intro t ht i hi
    have hk := ht k (by omega)
    unfold dw
    show (vlb 4 k t * 4 + t k) / 4 ^ (k + 1 - 1 - i) % 4 = t i
    by_cases e : i = k
    · rw [e, show k + 1 - 1 - k = 0 from by omega, Nat.pow_zero, Nat.div_one]; omega
    · have h2 := ih t (fun i hi => ht i (by omega)) i (by omega)
      unfold dw at h2
      rw [p4 (by omega), ← Nat.div_div_eq_div_mul, show (vlb 4 k t * 4 + t k) / 4 = vlb 4 k t from by omega]
      exact h2
theorem dig_vlb : ∀ (k W : Nat), W < 4 ^ k → vlb 4 k (dw k W) = W := by
  intro k
  induction k with
  | zero => intro W h; rw [Nat.pow_zero] at h; show 0 = W; omega
  | succ k ih =>
    intro W h
    show vlb 4 k (dw (k + 1) W) * 4 + dw (k + 1) W k = W
    have h1 : vlb 4 k (dw (k + 1) W) = vlb 4 k (dw k (W / 4)) := by
      apply vlb_congr
      intro i hi
      unfold dw
      rw [p4 hi, ← Nat.div_div_eq_div_mul]
    rw [h1, ih (W / 4) (by rw [Nat.pow_succ] at h; omega)]
    unfold dw
    rw [show k + 1 - 1 - k = 0 from by omega, Nat.pow_zero, Nat.div_one]
    omega
theorem dg2_nt {W j : Nat} (hj : j < 15) : dg2 (nt W) j = W / 4 ^ j % 4 := by
  have h4 : 4 ^ j = 2 ^ (2 * j) := by rw [Nat.pow_mul]
  unfold dg2
  rw [bt_nt, bt_nt, decide_eq_true (by omega), decide_eq_true (by omega), Bool.true_and, Bool.true_and, Nat.testBit_eq_decide_div_mod_eq, Nat.testBit_eq_decide_div_mod_eq, h4, Nat.pow_succ, ← Nat.div_div_eq_div_mul]
  generalize W / 2 ^ (2 * j) = u
  simp only [decide_eq_true_eq]
  split <;> split <;> omega
theorem SW_ext {n m k : Nat} {w : aT} {t t' : Nat → Nat} (h : ∀ i, i < k → t i = t' i) (hs : SW n m w k t) : SW n m w k t' := ⟨fun i hi => by rw [← h i hi]; exact hs.1 i hi, fun a b h1 h2 h3 => by rw [← tl_ext k t t' a b h]; exact hs.2 a b h1 h2 h3⟩
theorem doesTell_ok {n m k W a b : Nat} {w : aT} {I : xI} {J : xJ} (hn : n ≤ 6) (hm : m ≤ 4) (V : Vd n m w) (h : rMa n m w (I 70) 0) (hk : k ≤ 6) (hW : W < 2147483648) (hq : ∀ i, i < k → dw k W i < m) (ha : a < n) (hb : b < n) : f_X12_doesTell (nt W) (nt k) (nt a) (nt b) I J = some (bi (tl w k (dw k W) a b), I, J) := by
  apply Ok.eq
  unfold f_X12_doesTell f_X12_doesTell_0 f_X12_doesTell_1
  refine ok_loop (fun i s => ∃ p r z8 z9, s = (nt W, nt k, nt a, nt b, nt p, nt r, nt (k - i) - 1, z8, z9, I, J) ∧ p < n ∧ r < n ∧ tl w k (dw k W) a b = tl w (k - i) (fun j => dw k W (i + j)) p r) k ?_ ?_ 5000 0 _ (by omega) (by omega) ⟨a, b, none, none, rfl, ha, hb, ?_⟩
  · rintro i hi s ⟨p, r, z8, z9, rfl, hp, hr, g⟩
    have epos : nt (k - i) - 1 = nt (k - 1 - i) := by rw [nt_m1s (by omega), show k - i - 1 = k - 1 - i from by omega]
    have epos2 : nt (k - 1 - i) - 1 = nt (k - (i + 1)) - 1 := by rw [show k - 1 - i = k - (i + 1) from by omega]
    have hdg : dg2 (nt W) (k - 1 - i) = dw k W i := dg2_nt (by omega)
    have hx := hq i hi
    have hkn : k - i = (k - (i + 1)) + 1 := by omega
    rw [hkn] at g
    have g' : tl w k (dw k W) a b = (unl w p r (dw k W i) || tl w (k - (i + 1)) (fun j => dw k W (i + 1 + j)) ((w.1 p (dw k W i)).getD 7) ((w.1 r (dw k W i)).getD 7)) := by
      rw [g]
      show (unl w p r (dw k W (i + 0)) || tl w (k - (i + 1)) (fun j => dw k W (i + (j + 1))) ((w.1 p (dw k W (i + 0))).getD 7) ((w.1 r (dw k W (i + 0))).getD 7)) = _
      rw [Nat.add_zero, show (fun j => dw k W (i + (j + 1))) = (fun j => dw k W (i + 1 + j)) from funext fun j => by rw [show i + (j + 1) = i + 1 + j from by omega]]
    simp (disch := omega) only [b_X12_doesTell_1, f_X12_doesTell_2, epos, nt_clamp, nt_le, nt_lt, nt_eq, lit_le, lit_lt, le_lit, lt_lit, eq_lit, lit_eq, nt_neg, nt_ge, nt_add, nt_mul, nt_addl, lit_add, nt_mull, lit_mul, nt_sub, nt_subl, lit_sub, nt_divl, nt_m1, nt_m2, nt_m1', nt_m2', if_neg, if_false, nt_31, dg2_ok, hdg, areUnlike_ok hn hm V h hp hr hx, Option.bind_some, f_X12_doesTell_3, bi_0]
    generalize dw k W i = x at hx g' ⊢
    cases eu : unl w p r x with
    | true =>
      rw [if_neg (by decide)]
      simp only [f_X12_doesTell_4, Option.map_some]
      refine ok_some ?_
      show ((1 : Int32), I, J) = _
      rw [g', eu]; rfl
    | false =>
      rw [if_pos rfl]
      rw [eu, Bool.false_or] at g'
      simp only [f_X12_doesTell_5, f_X12_doesTell_6, to_ok hn hm h hp hx, to_ok hn hm h hr hx, Option.bind_some]
      cases e1 : w.1 p x with
      | none =>
        rw [e1] at g'
        simp only [ov_n, f_X12_doesTell_7, Int32.reduceLT, if_true, f_X12_doesTell_9, Option.map_some]
        refine ok_some ?_
        show ((0 : Int32), I, J) = _
        rw [g', show tl w (k - (i + 1)) (fun j => dw k W (i + 1 + j)) ((none : Option Nat).getD 7) ((w.1 r x).getD 7) = false from (tl_7 hn V _ _ _).1]; rfl
      | some u =>
        have hu := (V.1 _ _ _ e1).2.2
        cases e2 : w.1 r x with
        | none =>
          rw [e2] at g'
          simp (disch := omega) only [ov_n, ov_s, f_X12_doesTell_7, f_X12_doesTell_8, Int32.reduceLE, nt_clamp, nt_le, nt_lt, nt_eq, lit_le, lit_lt, le_lit, lt_lit, eq_lit, lit_eq, nt_neg, nt_ge, nt_add, nt_mul, nt_addl, lit_add, nt_mull, lit_mul, nt_sub, nt_subl, lit_sub, nt_divl, nt_m1, nt_m2, nt_m1', nt_m2', if_false, f_X12_doesTell_9, Option.map_some]
          refine ok_some ?_
          show ((0 : Int32), I, J) = _
          rw [g', show tl w (k - (i + 1)) (fun j => dw k W (i + 1 + j)) ((w.1 p x).getD 7) ((none : Option Nat).getD 7) = false from (tl_7 hn V _ _ _).2]; rfl
        | some u' =>
          have hu' := (V.1 _ _ _ e2).2.2
          rw [e1, e2] at g'
          simp (disch := omega) only [ov_s, f_X12_doesTell_7, f_X12_doesTell_8, nt_clamp, nt_le, nt_lt, nt_eq, lit_le, lit_lt, le_lit, lt_lit, eq_lit, lit_eq, nt_neg, nt_ge, nt_add, nt_mul, nt_addl, lit_add, nt_mull, lit_mul, nt_sub, nt_subl, lit_sub, nt_divl, nt_m1, nt_m2, nt_m1', nt_m2', if_false, if_true, f_X12_doesTell_10, add_m1, epos2]
          exact ok_some ⟨u, u', _, _, rfl, hu, hu', g'⟩
  · rintro s ⟨p, r, z8, z9, rfl, hp, hr, g⟩
    rw [Nat.sub_self] at g ⊢
    simp only [b_X12_doesTell_1, f_X12_doesTell_11, show (nt 0 - 1 < 0) = True from by decide, if_true, Option.map_some]
    refine ok_some ?_
    show ((0 : Int32), I, J) = _
    rw [g]; rfl
  · rw [Nat.sub_zero, show (fun j => dw k W (0 + j)) = dw k W from funext fun j => by rw [Nat.zero_add]]
theorem doesShow_ok {n m k W : Nat} {w : aT} {I : xI} {J : xJ} (hn : n ≤ 6) (hm : m ≤ 4) (V : Vd n m w) (h0 : I 61 17 = nt n) (h : rMa n m w (I 70) 0) (hR : cR (rd m w) (I 76)) (hk : k ≤ 6) (hW : W < 2147483648) (hq : ∀ i, i < k → dw k W i < m) : Ok (f_X12_doesShow (nt W) (nt k) I J) (fun o => o.2 = (I, J) ∧ ((o.1 = 1 ∧ SW n m w k (dw k W)) ∨ (o.1 = 0 ∧ ¬ SW n m w k (dw k W)))) := by
  have rdc : ∀ a b, rd m w a b = rd m w b a := fun a b => rdk_comm m w 15 a b
  unfold f_X12_doesShow f_X12_doesShow_0 f_X12_doesShow_1
  refine ok_loop (fun a s => ∃ z, s = (nt W, nt k, nt a, z, I, J) ∧ ∀ a' b', b' < a' → a' < a → (rd m w a' b').isSome = true → tl w k (dw k W) a' b' = true) n ?_ ?_ 5000 0 _ (by omega) (by omega) ⟨none, rfl, fun a' b' _ h => absurd h (by omega)⟩
  · rintro a ha s ⟨z, rfl, g1⟩
    simp (disch := omega) only [b_X12_doesShow_1, f_X12_doesShow_2, h0, nt_clamp, nt_le, nt_lt, nt_eq, lit_le, lit_lt, le_lit, lt_lit, eq_lit, lit_eq, nt_neg, nt_ge, nt_add, nt_mul, nt_addl, lit_add, nt_mull, lit_mul, nt_sub, nt_subl, lit_sub, nt_divl, nt_m1, nt_m2, nt_m1', nt_m2', if_neg]
    unfold f_X12_doesShow_3
    refine ok_loop (fun b s => s = (nt W, nt k, nt a, nt b, I, J) ∧ ∀ b', b' < b → (rd m w a b').isSome = true → tl w k (dw k W) a b' = true) a ?_ ?_ 5000 0 _ (by omega) (by omega) ⟨rfl, fun b' h => absurd h (by omega)⟩
    · rintro b hb s ⟨rfl, g2⟩
      simp (disch := omega) only [b_X12_doesShow_3, f_X12_doesShow_4, nt_clamp, nt_le, nt_lt, nt_eq, lit_le, lit_lt, le_lit, lt_lit, eq_lit, lit_eq, nt_neg, nt_ge, nt_add, nt_mul, nt_addl, lit_add, nt_mull, lit_mul, nt_sub, nt_subl, lit_sub, nt_divl, nt_m1, nt_m2, nt_m1', nt_m2', false_or, if_neg, hR a b (by omega) (by omega)]
      cases er : rd m w a b with
      | none =>
        simp only [ov_n, Int32.reduceLT, if_true, f_X12_doesShow_8, nt_addl]
        refine ok_some ⟨rfl, ?_⟩
        intro b' hb' hs
        by_cases e : b' = b
        · rw [e, er] at hs; cases hs
        · exact g2 b' (by omega) hs
      | some r =>
        have h14 := rdk_14 V hn er
        simp (disch := omega) only [ov_s, nt_clamp, nt_le, nt_lt, nt_eq, lit_le, lit_lt, le_lit, lt_lit, eq_lit, lit_eq, nt_neg, nt_ge, nt_add, nt_mul, nt_addl, lit_add, nt_mull, lit_mul, nt_sub, nt_subl, lit_sub, nt_divl, nt_m1, nt_m2, nt_m1', nt_m2', if_false, if_neg, f_X12_doesShow_5, doesTell_ok hn hm V h hk hW hq ha (show b < n from by omega), Option.bind_some, f_X12_doesShow_6, bi_0]
        cases et : tl w k (dw k W) a b with
        | false =>
          rw [if_pos rfl]
          simp only [f_X12_doesShow_7, Option.map_some]
          refine ok_some ⟨rfl, Or.inr ⟨rfl, ?_⟩⟩
          intro hs
          have := hs.2 b a hb ha (by rw [rdc, er]; rfl)
          rw [tl_comm, et] at this; cases this
        | true =>
          rw [if_neg (by decide)]
          simp only [f_X12_doesShow_8, nt_addl]
          refine ok_some ⟨rfl, ?_⟩
          intro b' hb' hs
          by_cases e : b' = b
          · rw [e]; exact et
          · exact g2 b' (by omega) hs
    · rintro s ⟨rfl, g2⟩
      simp (disch := omega) only [b_X12_doesShow_3, f_X12_doesShow_9, nt_clamp, nt_le, nt_lt, nt_eq, lit_le, lit_lt, le_lit, lt_lit, eq_lit, lit_eq, nt_neg, nt_ge, nt_add, nt_mul, nt_addl, lit_add, nt_mull, lit_mul, nt_sub, nt_subl, lit_sub, nt_divl, nt_m1, nt_m2, nt_m1', nt_m2', if_pos, Option.map_some]
      refine ok_some ⟨_, rfl, ?_⟩
      intro a' b' h1 h2 h3
      by_cases e : a' = a
      · subst e; exact g2 b' h1 h3
      · exact g1 a' b' h1 (by omega) h3
  · rintro s ⟨z, rfl, g1⟩
    simp (disch := omega) only [b_X12_doesShow_1, f_X12_doesShow_10, h0, nt_clamp, nt_le, nt_lt, nt_eq, lit_le, lit_lt, le_lit, lt_lit, eq_lit, lit_eq, nt_neg, nt_ge, nt_add, nt_mul, nt_addl, lit_add, nt_mull, lit_mul, nt_sub, nt_subl, lit_sub, nt_divl, nt_m1, nt_m2, nt_m1', nt_m2', if_pos, Option.map_some]
    refine ok_some ⟨rfl, Or.inl ⟨rfl, hq, ?_⟩⟩
    intro a b hab hb hs
    rw [tl_comm]
    exact g1 b a hab hb (by rw [rdc]; exact hs)
theorem shl_4 : ∀ k, k < 7 → (1 : Int32) <<< (nt (2 * k) &&& 31) = nt (4 ^ k) := by decide
theorem p4_le : ∀ k, k < 7 → 4 ^ k ≤ 4096 := by decide
theorem w_0 {k W : Nat} (hk : k < 7) (hW : W < 4 ^ k) : nt W >>> nt (2 * k) = 0 := by
  have h4 : 4 ^ k = 2 ^ (2 * k) := by rw [Nat.pow_mul]
  have hb := p4_le k hk
  apply Int32.toBitVec_inj.1
  rw [shr_bv (by omega)]
  apply BitVec.eq_of_toNat_eq
  have hm : (nt W).toBitVec.msb = false := by
    rw [show (nt W).toBitVec = BitVec.ofNat 32 W from rfl, BitVec.msb_eq_decide, BitVec.toNat_ofNat, Nat.mod_eq_of_lt (show W < 2 ^ 32 from by omega)]
    exact decide_eq_false (by omega)
  rw [BitVec.sshiftRight_eq_of_msb_false hm, BitVec.toNat_ushiftRight, show (nt W).toBitVec = BitVec.ofNat 32 W from rfl, BitVec.toNat_ofNat, Nat.mod_eq_of_lt (show W < 2 ^ 32 from by omega), Nat.shiftRight_eq_div_pow, Nat.div_eq_of_lt (by rw [← h4]; exact hW)]
  rfl
theorem wOk_nt {m k W : Nat} (hk : k < 7) (hW : W < 4 ^ k) : wOk m (nt W) (nt k) = true ↔ ∀ i, i < k → dw k W i < m := by
  have hb := p4_le k hk
  unfold wOk
  rw [isS_nt (by omega) (by omega), decide_eq_true (show k < 9 from by omega), nt_clamp (by omega), decide_eq_true (show 0 ≤ nt W from by rw [nt_ge (by omega)]; trivial), decide_eq_true (w_0 hk hW)]
  simp only [Bool.true_and]
  rw [al_iff]
  constructor
  · intro h i hi
    have := of_decide_eq_true (h (k - 1 - i) (by omega))
    rw [dg2_nt (by omega)] at this
    exact this
  · intro h i hi
    apply decide_eq_true
    rw [dg2_nt (by omega)]
    have := h (k - 1 - i) (by omega)
    unfold dw at this
    rw [show k - 1 - (k - 1 - i) = i from by omega] at this
    exact this
theorem rshown_ok {n m : Nat} {w : aT} {I : xI} {J : xJ} (hn : n ≤ 6) (hm : m ≤ 4) (V : Vd n m w) (h0 : I 61 17 = nt n) (h1 : I 61 18 = nt m) (h : rMa n m w (I 70) 0) (hc : rCa n m w I) (i : Int32) : Ok (f_X12_shown i I J) (fun o => o.2.2 = J ∧ o.1 = shownR n m w i ∧ rCa n m w o.2.1 ∧ ∀ c j, ¬ kReg c j → o.2.1 c j = I c j) := by
  unfold f_X12_shown f_X12_shown_0
  apply ok_bind
  refine (knows_ok hn hm V h0 h1 h hc).imp ?_
  rintro ⟨_, I1, J1⟩ ⟨rfl, a1, a2, a3⟩
  dsimp only at a1 a2 a3 ⊢
  have e17 : I1 61 17 = nt n := (a3 61 17 (by unfold kReg; omega)).trans h0
  have e18 : I1 61 18 = nt m := (a3 61 18 (by unfold kReg; omega)).trans h1
  have e70 : I1 70 = I 70 := funext fun j => a3 70 j (by unfold kReg; omega)
  have hM1 : rMa n m w (I1 70) 0 := by rw [e70]; exact h
  have fin : ∀ v : Int32, SHR n m w i v → (fun o : Int32 × xI × xJ => o.2.2 = J1 ∧ o.1 = shownR n m w i ∧ rCa n m w o.2.1 ∧ ∀ c j, ¬ kReg c j → o.2.1 c j = I c j) (v, I1, J1) := fun v hv => ⟨rfl, shownR_of hv, fun _ => ⟨a1, a2⟩, a3⟩
  unfold f_X12_shown_1 f_X12_shown_2
  refine ok_loop (fun k s => ∃ z, s = (i, nt k, z, I1, J1) ∧ ∀ j, j < k → NS n m w j) 7 ?_ ?_ 5000 0 _ (by omega) (by omega) ⟨none, rfl, fun j hj => absurd hj (by omega)⟩
  · rintro k hk s ⟨z, rfl, g1⟩
    have hb4 := p4_le k hk
    simp (disch := omega) only [b_X12_shown_2, f_X12_shown_3, nt_clamp, nt_le, nt_lt, nt_eq, lit_le, lit_lt, le_lit, lt_lit, eq_lit, lit_eq, nt_neg, nt_ge, nt_add, nt_mul, nt_addl, lit_add, nt_mull, lit_mul, nt_sub, nt_subl, lit_sub, nt_divl, nt_m1, nt_m2, nt_m1', nt_m2', if_neg]
    unfold f_X12_shown_4
    refine ok_loop (fun W s => s = (i, nt k, nt W, I1, J1) ∧ ∀ W', W' < W → ¬ SW n m w k (dw k W')) (4 ^ k) ?_ ?_ 5000 0 _ (Nat.zero_le _) (by omega) ⟨rfl, fun j hj => absurd hj (by omega)⟩
    · rintro W hW s ⟨rfl, g2⟩
      have next : ¬ SW n m w k (dw k W) → ((i, nt k, nt (W + 1), I1, J1) : Int32 × Int32 × Int32 × xI × xJ) = (i, nt k, nt (W + 1), I1, J1) ∧ ∀ W', W' < W + 1 → ¬ SW n m w k (dw k W') := by
        intro hh
        refine ⟨rfl, ?_⟩
        intro W' hW'
        by_cases e : W' = W
        · rw [e]; exact hh
        · exact g2 W' (by omega)
      simp (disch := omega) only [b_X12_shown_4, f_X12_shown_5, nt_clamp, nt_le, nt_lt, nt_eq, lit_le, lit_lt, le_lit, lt_lit, eq_lit, lit_eq, nt_neg, nt_ge, nt_add, nt_mul, nt_addl, lit_add, nt_mull, lit_mul, nt_sub, nt_subl, lit_sub, nt_divl, nt_m1, nt_m2, nt_m1', nt_m2', shl_4 k hk, if_neg, isWord_ok hm e18, Option.bind_some, f_X12_shown_6, bi_0]
      cases ew : wOk m (nt W) (nt k) with
      | false =>
        rw [if_pos rfl]
        simp only [f_X12_shown_17, nt_addl]
        refine ok_some (next ?_)
        intro hs
        have := (wOk_nt hk hW).mpr hs.1
        rw [ew] at this; cases this
      | true =>
        rw [if_neg (by decide)]
        have hq := (wOk_nt hk hW).mp ew
        unfold f_X12_shown_7
        apply ok_bind
        refine (doesShow_ok hn hm V e17 hM1 a1.1 (show k ≤ 6 from by omega) (show W < 2147483648 from by omega) hq).imp ?_
        rintro ⟨v, o⟩ ⟨e, hd⟩
        dsimp only at e hd ⊢
        subst e
        rcases hd with ⟨rfl, hd⟩ | ⟨rfl, hd⟩
        · have hsq : SQ n m w k (dw k W) := by
            refine ⟨hd, ?_⟩
            intro t ht hl
            have ht4 : ∀ j, j < k → t j < 4 := fun j hj => by have := ht.1 j hj; omega
            have h2 := vlb_lt (B := 4) ht4 hl
            rw [dig_vlb k W hW] at h2
            exact g2 _ h2 (SW_ext (fun j hj => (vlb_dig k t ht4 j hj).symm) ht)
          simp only [f_X12_shown_8, e10, if_false]
          apply ok_map
          apply ok_map
          have hshr : ∀ v : Int32, v = (if i = -1 then nt k else if isS k i = true then nt (dw k W i.toNatClampNeg) else -1) → SHR n m w i v := fun v hv => Or.inr ⟨k, dw k W, hk, g1, hsq, hv⟩
          simp only [f_X12_shown_10]
          by_cases e1 : i = -1
          · rw [if_pos e1]
            simp only [f_X12_shown_11, f_X12_shown_16]
            exact ok_some (fin _ (hshr _ (by rw [if_pos e1])))
          · rw [if_neg e1]
            simp only [f_X12_shown_12, rin_ok (show k < 2147483648 from by omega), Option.bind_some, f_X12_shown_13, bi_0]
            cases e2 : isS k i with
            | false =>
              rw [if_pos rfl]
              simp only [f_X12_shown_15, f_X12_shown_16]
              exact ok_some (fin _ (hshr _ (by rw [if_neg e1, e2]; rfl)))
            | true =>
              rw [if_neg (by decide)]
              obtain ⟨j, hj, rfl⟩ := isS_ex (by omega) e2
              simp (disch := omega) only [f_X12_shown_14, f_X12_shown_16, nt_clamp, nt_le, nt_lt, nt_eq, lit_le, lit_lt, le_lit, lt_lit, eq_lit, lit_eq, nt_neg, nt_ge, nt_add, nt_mul, nt_addl, lit_add, nt_mull, lit_mul, nt_sub, nt_subl, lit_sub, nt_divl, nt_m1, nt_m2, nt_m1', nt_m2', nt_31, dg2_ok, dg2_nt]
              exact ok_some (fin _ (hshr _ (by rw [if_neg e1, e2, if_pos rfl, nt_clamp (by omega)]; rfl)))
        · simp only [f_X12_shown_8, if_true, f_X12_shown_9, f_X12_shown_17, nt_addl]
          exact ok_some (next hd)
    · rintro s ⟨rfl, g2⟩
      simp (disch := omega) only [b_X12_shown_4, f_X12_shown_18, nt_clamp, nt_le, nt_lt, nt_eq, lit_le, lit_lt, le_lit, lt_lit, eq_lit, lit_eq, nt_neg, nt_ge, nt_add, nt_mul, nt_addl, lit_add, nt_mull, lit_mul, nt_sub, nt_subl, lit_sub, nt_divl, nt_m1, nt_m2, nt_m1', nt_m2', shl_4 k hk, if_pos, Option.map_some]
      refine ok_some ⟨_, rfl, ?_⟩
      intro j hj
      by_cases e : j = k
      · rw [e]
        intro t ht
        have ht4 : ∀ j, j < k → t j < 4 := fun j hj => by have := ht.1 j hj; omega
        exact g2 _ (vlb_max ht4) (SW_ext (fun j hj => (vlb_dig k t ht4 j hj).symm) ht)
      · exact g1 j (by omega)
  · rintro s ⟨z, rfl, g1⟩
    simp (disch := omega) only [b_X12_shown_2, f_X12_shown_19, nt_clamp, nt_le, nt_lt, nt_eq, lit_le, lit_lt, le_lit, lt_lit, eq_lit, lit_eq, nt_neg, nt_ge, nt_add, nt_mul, nt_addl, lit_add, nt_mull, lit_mul, nt_sub, nt_subl, lit_sub, nt_divl, nt_m1, nt_m2, nt_m1', nt_m2', if_pos, Option.map_some]
    exact ok_some (fin (-2) (Or.inl ⟨rfl, g1⟩))
