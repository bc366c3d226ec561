/-! part, series, beside -/
def sto (n i c : Nat) : Int32 := orf n (fun s => if bo n i s = c then 1 <<< nt s else 0)
theorem sto_bt {n i c k : Nat} (hn : n ≤ 6) (hk : k < 32) : bt (sto n i c) k = (decide (k < n) && decide (bo n i k = c)) := by
  unfold sto
  rw [orf_bt]
  cases e : (decide (k < n) && decide (bo n i k = c)) with
  | true =>
    rw [Bool.and_eq_true] at e
    refine ex_iff.mpr ⟨k, of_decide_eq_true e.1, ?_⟩
    rw [if_pos (of_decide_eq_true e.2), one_shl (by omega) hk, decide_eq_true rfl]
  | false =>
    refine ex_false.mpr ?_
    intro s hs
    by_cases cc : s = k
    · rw [cc] at hs ⊢
      rw [decide_eq_true hs, Bool.true_and] at e
      rw [if_neg (of_decide_eq_false e), bt_zero]
    · split
      · rw [one_shl (by omega) hk, decide_eq_false (fun h => cc h.symm)]
      · exact bt_zero k
theorem blockOf2_ok {n i s : Nat} {I : xI} {J : xJ} (hn : n ≤ 6) (hs : s < n) (hP : cPl n (pts n) I) (hi : i < (pts n).length) : f_X7_blockOf (nt i) (nt s) I J = some (nt (bo n i s), I, J) := by
  have hN := pts_len n (by omega)
  rw [blockOf_ok hn hs (by omega) (pt_fact hn hi).2.2.2.2.2 hP.1 (cPl_at hP hi).1]
  unfold dgt bo
  rw [if_pos hs]
theorem statesOf_ok {n i c : Nat} {I : xI} {J : xJ} (hn : n ≤ 6) (hP : cPl n (pts n) I) (hi : i < (pts n).length) (hc : c < 100) : f_X7_statesOf (nt i) (nt c) I J = some (sto n i c, I, J) := by
  apply Ok.eq
  have hN := pts_len n (by omega)
  have h6 := hP.1
  unfold f_X7_statesOf f_X7_statesOf_0 f_X7_statesOf_1
  refine ok_loop (fun k r => r = (nt i, nt c, orf k (fun s => if bo n i s = c then 1 <<< nt s else 0), nt k, I, J)) n ?_ ?_ 5000 0 _ (by omega) (by omega) rfl
  · rintro k hk r rfl
    have hb := (pt_fact hn hi).2.2.1 k (by omega)
    simp (disch := omega) only [b_X7_statesOf_1, f_X7_statesOf_2, f_X7_statesOf_3, f_X7_statesOf_4, f_X7_statesOf_5, h6, nt_clamp, nt_le, nt_lt, nt_eq, lit_le, lit_lt, le_lit, lt_lit, eq_lit, lit_eq, nt_neg, nt_ge, nt_add, nt_mul, nt_addl, lit_add, nt_mull, lit_mul, nt_sub, nt_subl, lit_sub, nt_divl, nt_m1, nt_m2, nt_m1', nt_m2', if_neg, blockOf2_ok hn hk hP hi, Option.bind_some, nt_31]
    by_cases e : bo n i k = c
    · rw [if_pos e]
      refine ok_some ?_
      show _ = _
      rw [orf, if_pos e]
    · rw [if_neg e]
      refine ok_some ?_
      show _ = _
      rw [orf, if_neg e, Int32.or_zero]
  · rintro r rfl
    simp (disch := omega) only [b_X7_statesOf_1, f_X7_statesOf_6, h6, nt_clamp, nt_le, nt_lt, nt_eq, lit_le, lit_lt, le_lit, lt_lit, eq_lit, lit_eq, nt_neg, nt_ge, nt_add, nt_mul, nt_addl, lit_add, nt_mull, lit_mul, nt_sub, nt_subl, lit_sub, nt_divl, nt_m1, nt_m2, nt_m1', nt_m2', if_true, if_false, if_pos, if_neg, e01, e10, em12, em21, e0m1, e0m2, e1m1, e1m2, em10, em20, Int32.reduceLT, Int32.reduceLE, eq_self, Option.bind_some, Option.map_some, false_or, or_false, or_self, true_or, or_true, not_true_eq_false, not_false_eq_true, false_and, and_false, true_and, and_true]
    exact ok_some rfl
def ntzf (x : Int32) : Int32 := ((f_J6_numberOfTrailingZeros_0f7a4 x (fun _ _ => 0) (fun _ _ => 0)).getD (0, (fun _ _ => 0), (fun _ _ => 0))).1
theorem ntzf_ok {I : xI} {J : xJ} (x : Int32) : f_J6_numberOfTrailingZeros_0f7a4 x I J = some (ntzf x, I, J) := by
  unfold ntzf
  simp only [f_J6_numberOfTrailingZeros_0f7a4_10, f_J6_numberOfTrailingZeros_0f7a4_9, f_J6_numberOfTrailingZeros_0f7a4_8, f_J6_numberOfTrailingZeros_0f7a4_7, f_J6_numberOfTrailingZeros_0f7a4_6, f_J6_numberOfTrailingZeros_0f7a4_5, f_J6_numberOfTrailingZeros_0f7a4_4, f_J6_numberOfTrailingZeros_0f7a4_3, f_J6_numberOfTrailingZeros_0f7a4_2, f_J6_numberOfTrailingZeros_0f7a4_1, f_J6_numberOfTrailingZeros_0f7a4_0, f_J6_numberOfTrailingZeros_0f7a4]
  repeat' split
  all_goals rfl
theorem ntzf_64 : ∀ S, S < 64 → 0 < S → ntzf (nt S) = nt ((ff 6 (fun k => S.testBit k)).getD 0) ∧ (ff 6 (fun k => S.testBit k)).isSome = true := by decide +kernel
theorem low_ex {x : Int32} (h : ∀ k, k < 32 → 6 ≤ k → bt x k = false) : ∃ S, S < 64 ∧ x = nt S ∧ ∀ k, S.testBit k = bt x k := by
  refine ⟨x.toBitVec.toNat, ?_, ?_, fun k => rfl⟩
  · apply Nat.lt_pow_two_of_testBit (n := 6)
    intro k hk
    rcases Nat.lt_or_ge k 32 with c | c
    · exact h k c hk
    · exact bt_hi c
  · show x = Int32.ofNat x.toBitVec.toNat
    rw [Int32.ofNat_bitVecToNat]; rfl
theorem ntz_low {x : Int32} (h : ∀ k, k < 32 → 6 ≤ k → bt x k = false) (h0 : ¬ x = 0) : ∃ t, t < 6 ∧ bt x t = true ∧ ∀ (I : xI) (J : xJ), f_J6_numberOfTrailingZeros_0f7a4 x I J = some (nt t, I, J) := by
  obtain ⟨S, hS, rfl, hb⟩ := low_ex h
  have hS0 : 0 < S := by
    rcases Nat.eq_zero_or_pos S with c | c
    · rw [c] at h0; exact absurd rfl h0
    · exact c
  have hz := ntzf_64 S hS hS0
  obtain ⟨t, ht⟩ := Option.isSome_iff_exists.mp hz.2
  have hf := ff_some.mp ht
  refine ⟨t, hf.1, by rw [← hb]; exact hf.2.1, fun I J => ?_⟩
  rw [ntzf_ok, hz.1, ht]; rfl
theorem ld_hi {n m : Nat} {w : aT} (hn : n ≤ 6) (V : Vd n m w) (y : Int32) (x : Nat) {k : Nat} (hk : k < 32) (hb : bt (ld n w y x) k = true) : ∃ s, s < n ∧ bt y s = true ∧ w.1 s x = some k := by
  unfold ld at hb
  rw [orf_bt] at hb
  obtain ⟨s, hs, hb⟩ := ex_iff.mp hb
  cases ey : bt y s with
  | false => rw [ey, if_neg (by decide), bt_zero] at hb; cases hb
  | true =>
    rw [ey, if_pos rfl] at hb
    cases et : w.1 s x with
    | none => rw [et] at hb; rw [show lm none = 0 from rfl, bt_zero] at hb; cases hb
    | some t =>
      have ht := (V.1 s x t et).2.2
      rw [et] at hb
      have hb : bt (1 <<< nt t) k = true := hb
      rw [one_shl (by omega) hk] at hb
      exact ⟨s, hs, ey, by rw [et, of_decide_eq_true hb]⟩
theorem ld_low {n m : Nat} {w : aT} (hn : n ≤ 6) (V : Vd n m w) (y : Int32) (x : Nat) : ∀ k, k < 32 → 6 ≤ k → bt (ld n w y x) k = false := by
  intro k hk h6
  cases e : bt (ld n w y x) k with
  | false => rfl
  | true =>
    obtain ⟨s, hs, _, et⟩ := ld_hi hn V y x hk e
    have := (V.1 s x k et).2.2
    omega
/-- where a block goes -/
def ptt (n : Nat) (w : aT) (i c x : Nat) : Option Nat := match ff n (fun s => decide (bo n i s = c) && (w.1 s x).isSome) with
  | some s => (w.1 s x).map (bo n i)
  | none => none
theorem go_at {n m i a b x t u : Nat} {w : aT} (hg : go n m w i i = true) (hx : x < m) (ha : a < n) (hb : b < n) (hab : bo n i a = bo n i b) (et : w.1 a x = some t) (eu : w.1 b x = some u) : bo n i t = bo n i u := by
  unfold go at hg
  rcases Nat.lt_trichotomy a b with c | c | c
  · have := al_iff.mp (al_iff.mp (al_iff.mp hg x hx) b hb) a c
    unfold gob at this
    rw [eu, et] at this
    dsimp only at this
    rw [decide_eq_true hab.symm] at this
    exact ((of_decide_eq_true (by simpa using this : decide (bo n i u = bo n i t) = true))).symm
  · rw [c, eu] at et
    rw [Option.some.inj et]
  · have := al_iff.mp (al_iff.mp (al_iff.mp hg x hx) a ha) b c
    unfold gob at this
    rw [et, eu] at this
    dsimp only at this
    rw [decide_eq_true hab] at this
    exact of_decide_eq_true (by simpa using this : decide (bo n i t = bo n i u) = true)
theorem blockBehind_ok {n m i c x : Nat} {w : aT} {I : xI} {J : xJ} (hn : n ≤ 6) (hm : m ≤ 4) (V : Vd n m w) (h : cMa n m w (I 1 0) (I 1 1) (I 2) (I 3) (I 4)) (hP : cPl n (pts n) I) (hi : i < (pts n).length) (hg : go n m w i i = true) (hc : c < 100) (hx : x < m) : f_X7_blockBehind (nt i) (nt c) (nt x) I J = some (ov (ptt n w i c x), I, J) := by
  simp (disch := omega) only [f_X7_blockBehind, f_X7_blockBehind_0, f_X7_blockBehind_1, f_X7_blockBehind_2, f_X7_blockBehind_3, f_X7_blockBehind_6, statesOf_ok hn hP hi hc, leadOf_ok hn hm V h, Option.bind_some]
  by_cases h0 : ld n w (sto n i c) x = 0
  · rw [if_pos h0]
    have : ptt n w i c x = none := by
      unfold ptt
      cases e : ff n (fun s => decide (bo n i s = c) && (w.1 s x).isSome) with
      | none => rfl
      | some s =>
        exfalso
        have hf := ff_some.mp e
        have hf2 := hf.2.1
        rw [Bool.and_eq_true] at hf2
        obtain ⟨t, ht⟩ := Option.isSome_iff_exists.mp hf2.2
        have hb := ld_bt hn V (y := sto n i c) (s := s) (by rw [sto_bt hn (by omega), decide_eq_true hf.1, hf2.1]; rfl) ht
        rw [h0, bt_zero] at hb; cases hb
    rw [this]; rfl
  · rw [if_neg h0]
    obtain ⟨t, ht6, htb, hntz⟩ := ntz_low (ld_low hn V (sto n i c) x) h0
    obtain ⟨s, hs, hsb, et⟩ := ld_hi hn V _ x (by omega) htb
    have htn := (V.1 s x t et).2.2
    rw [sto_bt hn (by omega), Bool.and_eq_true] at hsb
    have hsc := of_decide_eq_true hsb.2
    simp (disch := omega) only [f_X7_blockBehind_4, f_X7_blockBehind_5, f_X7_blockBehind_6, hntz, Option.bind_some, blockOf2_ok hn htn hP hi]
    have hpt : ptt n w i c x = some (bo n i t) := by
      unfold ptt
      cases e : ff n (fun s => decide (bo n i s = c) && (w.1 s x).isSome) with
      | none =>
        have := ff_none.mp e s hs
        rw [decide_eq_true hsc, et] at this; cases this
      | some s0 =>
        have hf := ff_some.mp e
        have hf2 := hf.2.1
        rw [Bool.and_eq_true] at hf2
        obtain ⟨t0, ht0⟩ := Option.isSome_iff_exists.mp hf2.2
        dsimp only
        rw [ht0]
        show some (bo n i t0) = _
        rw [go_at hg hx hf.1 hs ((of_decide_eq_true hf2.1).trans hsc.symm) ht0 et]
    rw [hpt]; rfl
theorem partTo_ok {n m i c x : Nat} {w : aT} {I : xI} {J : xJ} (hn : n ≤ 6) (hm : m ≤ 4) (V : Vd n m w) (h0 : I 61 17 = nt n) (h : rMa n m w (I 70) 0) (hi : i < 203) (hbo : ∀ s, s < 6 → I 85 (6 * i + s) = nt (bo n i s) ∧ bo n i s < 6) (hc : c < 100) (hx : x < m) : f_X12_partTo (nt i) (nt c) (nt x) I J = some (ov (ptt n w i c x), I, J) := by
  apply Ok.eq
  unfold f_X12_partTo f_X12_partTo_0 f_X12_partTo_1
  refine ok_loop (fun k r => r = (nt i, nt c, nt x, nt k, I, J) ∧ ∀ s, s < k → (decide (bo n i s = c) && (w.1 s x).isSome) = false) n ?_ ?_ 5000 0 _ (by omega) (by omega) ⟨rfl, fun s hs => absurd hs (by omega)⟩
  · rintro k hk r ⟨rfl, hg⟩
    have b1 := hbo k (by omega)
    simp (disch := omega) only [b_X12_partTo_1, f_X12_partTo_2, f_X12_partTo_3, f_X12_partTo_4, f_X12_partTo_5, f_X12_partTo_6, f_X12_partTo_7, h0, nt_clamp, nt_le, nt_lt, nt_eq, lit_le, lit_lt, le_lit, lt_lit, eq_lit, lit_eq, nt_neg, nt_ge, nt_add, nt_mul, nt_addl, lit_add, nt_mull, lit_mul, nt_sub, nt_subl, lit_sub, nt_divl, nt_m1, nt_m2, nt_m1', nt_m2', false_or, if_neg, b1.1, to_ok hn hm h hk hx, Option.bind_some]
    have next : (decide (bo n i k = c) && (w.1 k x).isSome) = false → ∀ s, s < k + 1 → (decide (bo n i s = c) && (w.1 s x).isSome) = false := by
      intro e s hs
      by_cases cc : s = k
      · rw [cc]; exact e
      · exact hg s (by omega)
    by_cases e : bo n i k = c
    · rw [if_pos e]
      cases et : w.1 k x with
      | none =>
        simp only [ov_n, Int32.reduceLT, if_true]
        exact ok_some ⟨rfl, next (by rw [et]; simp)⟩
      | some t =>
        have ht := (V.1 k x t et).2.2
        have bt1 := hbo t (by omega)
        simp (disch := omega) only [ov_s, nt_clamp, nt_le, nt_lt, nt_eq, lit_le, lit_lt, le_lit, lt_lit, eq_lit, lit_eq, nt_neg, nt_ge, nt_add, nt_mul, nt_addl, lit_add, nt_mull, lit_mul, nt_sub, nt_subl, lit_sub, nt_divl, nt_m1, nt_m2, nt_m1', nt_m2', if_neg, false_or, bt1.1, Option.map_some]
        refine ok_some ?_
        unfold ptt
        rw [ff_some.mpr ⟨hk, by rw [decide_eq_true e, et]; rfl, hg⟩]
        dsimp only
        rw [et]; rfl
    · rw [if_neg e]
      exact ok_some ⟨rfl, next (by rw [decide_eq_false e]; rfl)⟩
  · rintro r ⟨rfl, hg⟩
    simp (disch := omega) only [b_X12_partTo_1, f_X12_partTo_8, h0, nt_clamp, nt_le, nt_lt, nt_eq, lit_le, lit_lt, le_lit, lt_lit, eq_lit, lit_eq, nt_neg, nt_ge, nt_add, nt_mul, nt_addl, lit_add, nt_mull, lit_mul, nt_sub, nt_subl, lit_sub, nt_divl, nt_m1, nt_m2, nt_m1', nt_m2', if_true, if_false, if_pos, if_neg, e01, e10, em12, em21, e0m1, e0m2, e1m1, e1m2, em10, em20, Int32.reduceLT, Int32.reduceLE, eq_self, Option.bind_some, Option.map_some, false_or, or_false, or_self, true_or, or_true, not_true_eq_false, not_false_eq_true, false_and, and_false, true_and, and_true]
    refine ok_some ?_
    unfold ptt
    rw [ff_none.mpr hg]; rfl
theorem hasBlock_ok {n i : Nat} {I : xI} {J : xJ} (hn : n ≤ 6) (hP : cPl n (pts n) I) (hi : i < (pts n).length) (x : Int32) : f_X7_hasBlock (nt i) x I J = some (bi (isS (pblk n i) x), I, J) := by
  have hN := pts_len n (by omega)
  have hb := pblk6 hn hi
  rcases nt_all x with hx | ⟨k, hk, rfl⟩
  · rw [isS_neg hx]
    simp only [f_X7_hasBlock_4, f_X7_hasBlock_3, f_X7_hasBlock_2, f_X7_hasBlock_1, f_X7_hasBlock_0, f_X7_hasBlock, if_pos hx]
    rfl
  · rw [isS_nt (by omega) hk]
    simp (disch := omega) only [f_X7_hasBlock_4, f_X7_hasBlock_3, f_X7_hasBlock_2, f_X7_hasBlock_1, f_X7_hasBlock_0, f_X7_hasBlock, (cPl_at hP hi).2.1, nt_clamp, nt_le, nt_lt, nt_eq, lit_le, lit_lt, le_lit, lt_lit, eq_lit, lit_eq, nt_neg, nt_ge, nt_add, nt_mul, nt_addl, lit_add, nt_mull, lit_mul, nt_sub, nt_subl, lit_sub, nt_divl, nt_m1, nt_m2, nt_m1', nt_m2', if_true, if_false, if_pos, if_neg, e01, e10, em12, em21, e0m1, e0m2, e1m1, e1m2, em10, em20, Int32.reduceLT, Int32.reduceLE, eq_self, Option.bind_some, Option.map_some, false_or, or_false, or_self, true_or, or_true, not_true_eq_false, not_false_eq_true, false_and, and_false, true_and, and_true]
    by_cases hc : pblk n i ≤ k
    · rw [if_pos hc, decide_eq_false (by omega)]; rfl
    · rw [if_neg hc, decide_eq_true (by omega)]; rfl
def parR (n m : Nat) (w : aT) (x y z : Int32) : Int32 := match gix n m w x with
  | none => -1
  | some i => if (isS (pblk n i) y && isS m z) = true then ov (ptt n w i y.toNatClampNeg z.toNatClampNeg) else -1
theorem cpar_ok {n m : Nat} {w : aT} {I : xI} {J : xJ} (hn : n ≤ 6) (hm : m ≤ 4) (V : Vd n m w) (h : cMa n m w (I 1 0) (I 1 1) (I 2) (I 3) (I 4)) (hA : caA m w I) (hD : caD n m w I) (x y z : Int32) : Ok (f_X11_part x y z I J) (fun o => o.2.2 = J ∧ o.1 = parR n m w x y z ∧ caA m w o.2.1 ∧ caD n m w o.2.1 ∧ ∀ c j, ¬ tReg c j → o.2.1 c j = I c j) := by
  have hN := pts_len n (by omega)
  unfold f_X11_part f_X11_part_0
  apply ok_bind
  refine (partsNow_ok hn hm V h hA hD).imp ?_
  rintro ⟨_, I1, J1⟩ ⟨rfl, cA, cD, a1, a2, a3, a4⟩
  dsimp only at cA cD a1 a2 a3 a4 ⊢
  have hM1 := cMa_fr h (fun c j h1 h2 => a4 c j (by unfold tReg pReg; omega))
  unfold parR
  simp only [f_X11_part_1, goingIx_ok hn V a1 a2, Option.bind_some]
  rw [show (pix n x).filter (fun i => go n m w i i) = gix n m w x from rfl]
  cases e : gix n m w x with
  | none => exact ok_some ⟨rfl, rfl, cA, cD, a4⟩
  | some i =>
    obtain ⟨_, hg, hi⟩ := gix_ex e
    have hb := pblk6 hn hi
    show Ok (f_X11_part_2 x y z (nt i) I1 J1) _
    simp (disch := omega) only [f_X11_part_2, nt_clamp, nt_le, nt_lt, nt_eq, lit_le, lit_lt, le_lit, lt_lit, eq_lit, lit_eq, nt_neg, nt_ge, nt_add, nt_mul, nt_addl, lit_add, nt_mull, lit_mul, nt_sub, nt_subl, lit_sub, nt_divl, nt_m1, nt_m2, nt_m1', nt_m2', if_false, f_X11_part_3, hasBlock_ok hn a2 hi, Option.bind_some, f_X11_part_4, bi_0]
    cases hy : isS (pblk n i) y with
    | false => exact ok_some ⟨rfl, rfl, cA, cD, a4⟩
    | true =>
      simp (disch := omega) only [Bool.true_eq_false, if_false, f_X11_part_5, hasInput_ok hM1.2.1, Option.bind_some, f_X11_part_6, bi_0]
      cases hz : isS m z with
      | false => exact ok_some ⟨rfl, rfl, cA, cD, a4⟩
      | true =>
        obtain ⟨c, hc, rfl⟩ := isS_ex (by omega) hy
        obtain ⟨d, hd, rfl⟩ := isS_ex (by omega) hz
        simp (disch := omega) only [Bool.true_eq_false, if_false, f_X11_part_8, f_X11_part_9, blockBehind_ok hn hm V hM1 a2 hi hg (show c < 100 from by omega) hd, Option.bind_some, nt_clamp, Bool.and_self, if_true]
        exact ok_some ⟨rfl, rfl, cA, cD, a4⟩
theorem rpar_ok {n m : Nat} {w : aT} {I : xI} {J : xJ} (hn : n ≤ 6) (hm : m ≤ 4) (V : Vd n m w) (h0 : I 61 17 = nt n) (h1 : I 61 18 = nt m) (h : rMa n m w (I 70) 0) (hc : rCa n m w I) (x y z : Int32) : Ok (f_X12_part x y z I J) (fun o => o.2.2 = J ∧ o.1 = parR n m w x y z ∧ rCa n m w o.2.1 ∧ ∀ c j, ¬ kReg c j → o.2.1 c j = I c j) := by
  have hN := pts_len n (by omega)
  unfold f_X12_part f_X12_part_0
  apply ok_bind
  refine (placeOf_ok hn hm V h0 h1 h hc x).imp ?_
  rintro ⟨_, I1, J1⟩ ⟨rfl, rfl, a1, a2, a3⟩
  dsimp only at a1 a2 a3 ⊢
  unfold parR gix f_X12_part_1
  cases e : pix n x with
  | none => exact ok_some ⟨rfl, rfl, fun _ => ⟨a1, a2⟩, a3⟩
  | some i =>
    have hi := pix_lt e
    have hb := pblk6 hn hi
    have e17 : I1 61 17 = nt n := (a3 61 17 (by unfold kReg; omega)).trans h0
    have e18 : I1 61 18 = nt m := (a3 61 18 (by unfold kReg; omega)).trans h1
    have e70 : I1 70 = I 70 := funext fun j => a3 70 j (by unfold kReg; omega)
    have hM1 : rMa n m w (I1 70) 0 := by rw [e70]; exact h
    have hP := a1.2.2.2.2.2.2
    have hbo : ∀ s, s < 6 → I1 85 (6 * i + s) = nt (bo n i s) ∧ bo n i s < 6 := fun s hs => ⟨(hP i hi).2.2.2 s hs, (pt_fact hn hi).2.2.1 s hs⟩
    show Ok (if nt i < 0 then _ else f_X12_part_2 x y z (nt i) I1 J1) _
    rw [if_neg (by rw [nt_neg (by omega)]; exact id), Option.filter_some]
    simp (disch := omega) only [f_X12_part_2, nt_clamp, nt_le, nt_lt, nt_eq, lit_le, lit_lt, le_lit, lt_lit, eq_lit, lit_eq, nt_neg, nt_ge, nt_add, nt_mul, nt_addl, lit_add, nt_mull, lit_mul, nt_sub, nt_subl, lit_sub, nt_divl, nt_m1, nt_m2, nt_m1', nt_m2', false_or, if_neg, (hP i hi).2.2.1, bi_0]
    cases eg : go n m w i i with
    | false => exact ok_some ⟨rfl, rfl, fun _ => ⟨a1, a2⟩, a3⟩
    | true =>
      simp (disch := omega) only [Bool.true_eq_false, if_false, f_X12_part_3, nt_clamp, nt_le, nt_lt, nt_eq, lit_le, lit_lt, le_lit, lt_lit, eq_lit, lit_eq, nt_neg, nt_ge, nt_add, nt_mul, nt_addl, lit_add, nt_mull, lit_mul, nt_sub, nt_subl, lit_sub, nt_divl, nt_m1, nt_m2, nt_m1', nt_m2', false_or, if_neg, (hP i hi).2.1, rin_ok, Option.bind_some, f_X12_part_4, bi_0, if_true]
      cases hy : isS (pblk n i) y with
      | false => exact ok_some ⟨rfl, rfl, fun _ => ⟨a1, a2⟩, a3⟩
      | true =>
        simp (disch := omega) only [Bool.true_eq_false, if_false, f_X12_part_5, isInput_ok e18, Option.bind_some, f_X12_part_6, bi_0]
        cases hz : isS m z with
        | false => exact ok_some ⟨rfl, rfl, fun _ => ⟨a1, a2⟩, a3⟩
        | true =>
          obtain ⟨c, hc, rfl⟩ := isS_ex (by omega) hy
          obtain ⟨d, hd, rfl⟩ := isS_ex (by omega) hz
          simp (disch := omega) only [Bool.true_eq_false, if_false, f_X12_part_8, f_X12_part_9, partTo_ok hn hm V e17 hM1 (show i < 203 from by omega) hbo (show c < 100 from by omega) hd, Option.bind_some, nt_clamp, Bool.and_self, if_true]
          exact ok_some ⟨rfl, rfl, fun _ => ⟨a1, a2⟩, a3⟩
