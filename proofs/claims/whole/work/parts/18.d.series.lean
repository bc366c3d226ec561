/-! series, beside -/
/-- the tail's next block -/
def sro (n : Nat) (w : aT) (p q hd tl x : Nat) : Option Nat := match ff n (fun s => decide (bo n p s = hd) && decide (bo n q s = tl)) with
  | some s => (w.1 s x).map (bo n q)
  | none => none
theorem aal_uniq {n p q a b : Nat} (h : aal n p q = true) (ha : a < n) (hb : b < n) (hp : bo n p a = bo n p b) (hq : bo n q a = bo n q b) : a = b := by
  unfold aal at h
  rcases Nat.lt_trichotomy a b with c | c | c
  · have := al_iff.mp (al_iff.mp h b hb) a c
    rw [decide_eq_true hp.symm, decide_eq_true hq.symm] at this; cases this
  · exact c
  · have := al_iff.mp (al_iff.mp h a ha) b c
    rw [decide_eq_true hp, decide_eq_true hq] at this; cases this
theorem tlo_aal {n p : Nat} (hn : n ≤ 6) (hp : p < (pts n).length) : aal n p (tlo n p) = true := by
  have key : ∀ k j, bN n (aal n p) k = some j → aal n p j = true := by
    intro k
    induction k with
    | zero => intro j h; cases h
    | succ k ih =>
      intro j h
      rw [bN_s] at h
      unfold stN at h
      split at h
      · rename_i hk
        split at h
        · cases h; exact hk
        · rename_i j' e
          split at h
          · cases h; exact ih _ e
          · cases h; exact hk
      · exact ih j h
  exact key _ _ (tlo_ok hn hp).1
theorem both_ff {n p q hd tl : Nat} (hn : n ≤ 6) (ha : aal n p q = true) {s : Nat} (h : ff n (fun s => decide (bo n p s = hd) && decide (bo n q s = tl)) = some s) : sto n p hd &&& sto n q tl = nt (2 ^ s) ∧ s < n := by
  have hf := ff_some.mp h
  have hf2 := hf.2.1
  rw [Bool.and_eq_true] at hf2
  refine ⟨?_, hf.1⟩
  apply bt_ext
  intro k hk
  rw [bt_and, sto_bt hn hk, sto_bt hn hk, nt2_bt (by omega) hk]
  by_cases c : k = s
  · rw [c, decide_eq_true hf.1, hf2.1, hf2.2, decide_eq_true rfl]; rfl
  · rw [decide_eq_false c]
    by_cases ckn : k < n
    · by_cases c1 : bo n p k = hd
      · by_cases c2 : bo n q k = tl
        · exact absurd (aal_uniq ha ckn hf.1 (c1.trans (of_decide_eq_true hf2.1).symm) (c2.trans (of_decide_eq_true hf2.2).symm)) c
        · rw [decide_eq_false c2]; simp
      · rw [decide_eq_false c1]; simp
    · rw [decide_eq_false ckn]; simp
theorem both_no {n p q hd tl : Nat} (hn : n ≤ 6) (h : ff n (fun s => decide (bo n p s = hd) && decide (bo n q s = tl)) = none) : sto n p hd &&& sto n q tl = 0 := by
  rw [bt_0]
  intro k hk
  rw [bt_and, sto_bt hn hk, sto_bt hn hk]
  by_cases ckn : k < n
  · have := ff_none.mp h k ckn
    rw [decide_eq_true ckn]
    simpa using this
  · rw [decide_eq_false ckn]; rfl
theorem nt2_ne {s : Nat} (hs : s < 6) : ¬ nt (2 ^ s) = 0 := by
  intro h
  have := nt2_bt (s := s) (k := s) (by omega) (by omega)
  rw [h, bt_zero, decide_eq_true rfl] at this
  cases this
def serR (n m : Nat) (w : aT) (x y z u v : Int32) : Int32 := match gix n m w x with
  | none => -1
  | some i => if (isS (pblk n i) y && isS m u && isS 2 v) = true then (if isS (pblk n (tlo n i)) z = true then (if v = 0 then ov (ptt n w i y.toNatClampNeg u.toNatClampNeg) else ov (sro n w i (tlo n i) y.toNatClampNeg z.toNatClampNeg u.toNatClampNeg)) else -1) else -1
theorem cser_ok {n m : Nat} {w : aT} {I : xI} {J : xJ} (hn : n ≤ 6) (hm : m ≤ 4) (V : Vd n m w) (h : cMa n m w (I 1 0) (I 1 1) (I 2) (I 3) (I 4)) (hA : caA m w I) (hD : caD n m w I) (x y z u v : Int32) : Ok (f_X11_series x y z u v I J) (fun o => o.2.2 = J ∧ o.1 = serR n m w x y z u v ∧ caA m w o.2.1 ∧ caD n m w o.2.1 ∧ ∀ c j, ¬ tReg c j → o.2.1 c j = I c j) := by
  have hN := pts_len n (by omega)
  unfold f_X11_series f_X11_series_0
  apply ok_bind
  refine (partsNow_ok hn hm V h hA hD).imp ?_
  rintro ⟨_, I1, J1⟩ ⟨rfl, cA, cD, a1, a2, a3, a4⟩
  dsimp only at cA cD a1 a2 a3 a4 ⊢
  have hM1 := cMa_fr h (fun c j h1 h2 => a4 c j (by unfold tReg pReg; omega))
  unfold serR
  simp only [f_X11_series_1, goingIx_ok hn V a1 a2, Option.bind_some]
  rw [show (pix n x).filter (fun i => go n m w i i) = gix n m w x from rfl]
  cases e : gix n m w x with
  | none => exact ok_some ⟨rfl, rfl, cA, cD, a4⟩
  | some i =>
    obtain ⟨_, hg, hi⟩ := gix_ex e
    have hb := pblk6 hn hi
    have ht := (tlo_ok hn hi).2
    have hbt := pblk6 hn ht
    show Ok (f_X11_series_2 x y z u v (nt i) I1 J1) _
    simp (disch := omega) only [f_X11_series_2, nt_clamp, nt_le, nt_lt, nt_eq, lit_le, lit_lt, le_lit, lt_lit, eq_lit, lit_eq, nt_neg, nt_ge, nt_add, nt_mul, nt_addl, lit_add, nt_mull, lit_mul, nt_sub, nt_subl, lit_sub, nt_divl, nt_m1, nt_m2, nt_m1', nt_m2', if_false, f_X11_series_3, hasBlock_ok hn a2 hi, Option.bind_some, f_X11_series_4, bi_0]
    cases hy : isS (pblk n i) y with
    | false => exact ok_some ⟨rfl, rfl, cA, cD, a4⟩
    | true =>
      simp (disch := omega) only [Bool.true_eq_false, if_false, f_X11_series_5, hasInput_ok hM1.2.1, Option.bind_some, f_X11_series_6, bi_0]
      cases hu : isS m u with
      | false => exact ok_some ⟨rfl, rfl, cA, cD, a4⟩
      | true =>
        simp only [Bool.true_eq_false, if_false, f_X11_series_7]
        rcases nt_all v with hv | ⟨q, hq, rfl⟩
        · rw [if_pos hv, isS_neg hv]
          exact ok_some ⟨rfl, rfl, cA, cD, a4⟩
        · rw [isS_nt (by omega) hq]
          simp (disch := omega) only [f_X11_series_8, nt_clamp, nt_le, nt_lt, nt_eq, lit_le, lit_lt, le_lit, lt_lit, eq_lit, lit_eq, nt_neg, nt_ge, nt_add, nt_mul, nt_addl, lit_add, nt_mull, lit_mul, nt_sub, nt_subl, lit_sub, nt_divl, nt_m1, nt_m2, nt_m1', nt_m2', if_neg]
          by_cases hq1 : q ≤ 1
          · rw [if_pos hq1, decide_eq_true (by omega)]
            simp (disch := omega) only [f_X11_series_10, f_X11_series_11, f_X11_series_12, tailOf_ok hn a2 hi, hasBlock_ok hn a2 ht, Option.bind_some, bi_0, Bool.and_self, if_true]
            cases hz : isS (pblk n (tlo n i)) z with
            | false => exact ok_some ⟨rfl, rfl, cA, cD, a4⟩
            | true =>
              obtain ⟨c, hc, rfl⟩ := isS_ex (by omega) hy
              obtain ⟨d, hd, rfl⟩ := isS_ex (by omega) hu
              obtain ⟨l, hl, rfl⟩ := isS_ex (by omega) hz
              rw [nt_clamp (by omega), nt_clamp (by omega), nt_clamp (by omega)]
              simp (disch := omega) only [Bool.true_eq_false, if_false, f_X11_series_14, f_X11_series_15, f_X11_series_16, f_X11_series_17, f_X11_series_18, f_X11_series_19, f_X11_series_20, f_X11_series_21, f_X11_series_22, f_X11_series_23, f_X11_series_26, nt_clamp, nt_le, nt_lt, nt_eq, lit_le, lit_lt, le_lit, lt_lit, eq_lit, lit_eq, nt_neg, nt_ge, nt_add, nt_mul, nt_addl, lit_add, nt_mull, lit_mul, nt_sub, nt_subl, lit_sub, nt_divl, nt_m1, nt_m2, nt_m1', nt_m2', blockBehind_ok hn hm V hM1 a2 hi hg (show c < 100 from by omega) hd, statesOf_ok hn a2 hi (show c < 100 from by omega), statesOf_ok hn a2 ht (show l < 100 from by omega), leadOf_ok hn hm V hM1, Option.bind_some, if_true]
              by_cases hq0 : q = 0
              · rw [if_pos hq0, if_pos hq0]
                exact ok_some ⟨rfl, rfl, cA, cD, a4⟩
              · rw [if_neg hq0, if_neg hq0]
                unfold sro
                cases ef : ff n (fun s => decide (bo n i s = c) && decide (bo n (tlo n i) s = l)) with
                | none =>
                  rw [if_pos (both_no hn ef)]
                  exact ok_some ⟨rfl, rfl, cA, cD, a4⟩
                | some s =>
                  obtain ⟨eb, hs⟩ := both_ff hn (tlo_aal hn hi) ef
                  rw [eb, if_neg (nt2_ne (by omega)), ld_one hn V hs]
                  dsimp only
                  cases et : w.1 s d with
                  | none =>
                    rw [if_pos (show lm none = 0 from rfl)]
                    exact ok_some ⟨rfl, rfl, cA, cD, a4⟩
                  | some t =>
                    have htn := (V.1 s d t et).2.2
                    have e2 : lm (some t) = nt (2 ^ t) := shl_nt t (by omega)
                    have hlow : ∀ k, k < 32 → 6 ≤ k → bt (nt (2 ^ t)) k = false := by
                      intro k hk h6
                      rw [nt2_bt (by omega) hk, decide_eq_false (by omega)]
                    obtain ⟨t', ht6, htb, hntz⟩ := ntz_low hlow (nt2_ne (by omega))
                    rw [nt2_bt (by omega) (by omega)] at htb
                    have htt := of_decide_eq_true htb
                    rw [htt] at hntz
                    rw [e2, if_neg (nt2_ne (by omega))]
                    simp (disch := omega) only [f_X11_series_24, f_X11_series_25, f_X11_series_26, hntz, Option.bind_some, blockOf2_ok hn htn a2 ht]
                    exact ok_some ⟨rfl, rfl, cA, cD, a4⟩
          · rw [if_neg hq1, decide_eq_false (by omega)]
            exact ok_some ⟨rfl, rfl, cA, cD, a4⟩
theorem rser_ok {n m : Nat} {w : aT} {I : xI} {J : xJ} (hn : n ≤ 6) (hm : m ≤ 4) (V : Vd n m w) (h0 : I 61 17 = nt n) (h1 : I 61 18 = nt m) (h : rMa n m w (I 70) 0) (hc : rCa n m w I) (x y z u v : Int32) : Ok (f_X12_series x y z u v I J) (fun o => o.2.2 = J ∧ o.1 = serR n m w x y z u v ∧ rCa n m w o.2.1 ∧ ∀ c j, ¬ kReg c j → o.2.1 c j = I c j) := by
  have hN := pts_len n (by omega)
  unfold f_X12_series f_X12_series_0
  apply ok_bind
  refine (placeOf_ok hn hm V h0 h1 h hc x).imp ?_
  rintro ⟨_, I1, J1⟩ ⟨rfl, rfl, a1, a2, a3⟩
  dsimp only at a1 a2 a3 ⊢
  unfold serR gix f_X12_series_1
  cases e : pix n x with
  | none => exact ok_some ⟨rfl, rfl, fun _ => ⟨a1, a2⟩, a3⟩
  | some i =>
    have hi := pix_lt e
    have hb := pblk6 hn hi
    have ht := (tlo_ok hn hi).2
    have hbt := pblk6 hn ht
    have e17 : I1 61 17 = nt n := (a3 61 17 (by unfold kReg; omega)).trans h0
    have e18 : I1 61 18 = nt m := (a3 61 18 (by unfold kReg; omega)).trans h1
    have e70 : I1 70 = I 70 := funext fun j => a3 70 j (by unfold kReg; omega)
    have hM1 : rMa n m w (I1 70) 0 := by rw [e70]; exact h
    have h40 := a1.2.2.2.2.2.1
    have hP := a1.2.2.2.2.2.2
    have hbo : ∀ k, k < (pts n).length → ∀ s, s < 6 → I1 85 (6 * k + s) = nt (bo n k s) ∧ bo n k s < 6 := fun k hk s hs => ⟨(hP k hk).2.2.2 s hs, (pt_fact hn hk).2.2.1 s hs⟩
    show Ok (if nt i < 0 then _ else f_X12_series_2 x y z u v (nt i) I1 J1) _
    rw [if_neg (by rw [nt_neg (by omega)]; exact id), Option.filter_some]
    simp (disch := omega) only [f_X12_series_2, nt_clamp, nt_le, nt_lt, nt_eq, lit_le, lit_lt, le_lit, lt_lit, eq_lit, lit_eq, nt_neg, nt_ge, nt_add, nt_mul, nt_addl, lit_add, nt_mull, lit_mul, nt_sub, nt_subl, lit_sub, nt_divl, nt_m1, nt_m2, nt_m1', nt_m2', false_or, if_neg, (hP i hi).2.2.1, bi_0]
    cases eg : go n m w i i with
    | false => exact ok_some ⟨rfl, rfl, fun _ => ⟨a1, a2⟩, a3⟩
    | true =>
      simp (disch := omega) only [Bool.true_eq_false, if_false, f_X12_series_3, nt_clamp, nt_le, nt_lt, nt_eq, lit_le, lit_lt, le_lit, lt_lit, eq_lit, lit_eq, nt_neg, nt_ge, nt_add, nt_mul, nt_addl, lit_add, nt_mull, lit_mul, nt_sub, nt_subl, lit_sub, nt_divl, nt_m1, nt_m2, nt_m1', nt_m2', false_or, if_neg, (hP i hi).2.1, rin_ok, Option.bind_some, f_X12_series_4, bi_0, if_true]
      cases hy : isS (pblk n i) y with
      | false => exact ok_some ⟨rfl, rfl, fun _ => ⟨a1, a2⟩, a3⟩
      | true =>
        simp (disch := omega) only [Bool.true_eq_false, if_false, f_X12_series_5, isInput_ok e18, Option.bind_some, f_X12_series_6, bi_0]
        cases hu : isS m u with
        | false => exact ok_some ⟨rfl, rfl, fun _ => ⟨a1, a2⟩, a3⟩
        | true =>
          simp (disch := omega) only [Bool.true_eq_false, if_false, f_X12_series_7, rin1_ok, Option.bind_some, f_X12_series_8, bi_0]
          cases hv : isS 2 v with
          | false => exact ok_some ⟨rfl, rfl, fun _ => ⟨a1, a2⟩, a3⟩
          | true =>
            simp (disch := omega) only [Bool.true_eq_false, if_false, f_X12_series_10, f_X12_series_11, tailAt_ok hn e17 h40 hP hi, Option.bind_some, nt_clamp, nt_le, nt_lt, nt_eq, lit_le, lit_lt, le_lit, lt_lit, eq_lit, lit_eq, nt_neg, nt_ge, nt_add, nt_mul, nt_addl, lit_add, nt_mull, lit_mul, nt_sub, nt_subl, lit_sub, nt_divl, nt_m1, nt_m2, nt_m1', nt_m2', false_or, if_neg, (hP _ ht).2.1, rin_ok, f_X12_series_12, bi_0, Bool.and_self, if_true]
            cases hz : isS (pblk n (tlo n i)) z with
            | false => exact ok_some ⟨rfl, rfl, fun _ => ⟨a1, a2⟩, a3⟩
            | true =>
              obtain ⟨c, hc, rfl⟩ := isS_ex (by omega) hy
              obtain ⟨d, hd, rfl⟩ := isS_ex (by omega) hu
              obtain ⟨l, hl, rfl⟩ := isS_ex (by omega) hz
              rw [nt_clamp (by omega), nt_clamp (by omega), nt_clamp (by omega)]
              simp (disch := omega) only [Bool.true_eq_false, if_false, f_X12_series_14, f_X12_series_15, f_X12_series_16, f_X12_series_17, partTo_ok hn hm V e17 hM1 (show i < 203 from by omega) (hbo i hi) (show c < 100 from by omega) hd, Option.bind_some, if_true]
              by_cases hq0 : v = 0
              · rw [if_pos hq0, if_pos hq0]
                exact ok_some ⟨rfl, rfl, fun _ => ⟨a1, a2⟩, a3⟩
              · rw [if_neg hq0, if_neg hq0]
                unfold f_X12_series_18
                refine ok_loop (fun k r => r = (x, nt c, nt l, nt d, v, nt i, nt (tlo n i), nt k, I1, J1) ∧ ∀ s, s < k → (decide (bo n i s = c) && decide (bo n (tlo n i) s = l)) = false) n ?_ ?_ 5000 0 _ (by omega) (by omega) ⟨rfl, fun s hs => absurd hs (by omega)⟩
                · rintro k hk r ⟨rfl, hg⟩
                  have b1 := hbo i hi k (by omega)
                  have b2 := hbo _ ht k (by omega)
                  simp (disch := omega) only [b_X12_series_18, f_X12_series_19, f_X12_series_20, f_X12_series_21, f_X12_series_22, f_X12_series_23, f_X12_series_26, f_X12_series_27, e17, nt_clamp, nt_le, nt_lt, nt_eq, lit_le, lit_lt, le_lit, lt_lit, eq_lit, lit_eq, nt_neg, nt_ge, nt_add, nt_mul, nt_addl, lit_add, nt_mull, lit_mul, nt_sub, nt_subl, lit_sub, nt_divl, nt_m1, nt_m2, nt_m1', nt_m2', false_or, if_neg, b1.1, b2.1, to_ok hn hm hM1 hk hd, Option.bind_some]
                  have next : (decide (bo n i k = c) && decide (bo n (tlo n i) k = l)) = false → ∀ s, s < k + 1 → (decide (bo n i s = c) && decide (bo n (tlo n i) s = l)) = false := by
                    intro e s hs
                    by_cases cc : s = k
                    · rw [cc]; exact e
                    · exact hg s (by omega)
                  by_cases c1 : bo n i k = c
                  · rw [if_pos c1]
                    by_cases c2 : bo n (tlo n i) k = l
                    · rw [if_pos c2]
                      have eff : ff n (fun s => decide (bo n i s = c) && decide (bo n (tlo n i) s = l)) = some k := ff_some.mpr ⟨hk, by rw [decide_eq_true c1, decide_eq_true c2]; rfl, hg⟩
                      cases et : w.1 k d with
                      | none =>
                        simp only [ov_n, Int32.reduceLE, if_false, Option.map_some]
                        refine ok_some ⟨rfl, ?_, fun _ => ⟨a1, a2⟩, a3⟩
                        unfold sro
                        rw [eff]
                        dsimp only
                        rw [et]; rfl
                      | some t =>
                        have htn := (V.1 k d t et).2.2
                        have b3 := hbo _ ht t (by omega)
                        simp (disch := omega) only [ov_s, nt_clamp, nt_le, nt_lt, nt_eq, lit_le, lit_lt, le_lit, lt_lit, eq_lit, lit_eq, nt_neg, nt_ge, nt_add, nt_mul, nt_addl, lit_add, nt_mull, lit_mul, nt_sub, nt_subl, lit_sub, nt_divl, nt_m1, nt_m2, nt_m1', nt_m2', if_true, f_X12_series_24, f_X12_series_25, f_X12_series_26, to_ok hn hm hM1 hk hd, et, Option.bind_some, false_or, if_neg, b3.1, Option.map_some]
                        refine ok_some ⟨rfl, ?_, fun _ => ⟨a1, a2⟩, a3⟩
                        unfold sro
                        rw [eff]
                        dsimp only
                        rw [et]; rfl
                    · rw [if_neg c2]
                      exact ok_some ⟨rfl, next (by rw [decide_eq_false c2, Bool.and_false])⟩
                  · rw [if_neg c1]
                    exact ok_some ⟨rfl, next (by rw [decide_eq_false c1]; rfl)⟩
                · rintro r ⟨rfl, hg⟩
                  simp (disch := omega) only [b_X12_series_18, f_X12_series_28, e17, nt_clamp, nt_le, nt_lt, nt_eq, lit_le, lit_lt, le_lit, lt_lit, eq_lit, lit_eq, nt_neg, nt_ge, nt_add, nt_mul, nt_addl, lit_add, nt_mull, lit_mul, nt_sub, nt_subl, lit_sub, nt_divl, nt_m1, nt_m2, nt_m1', nt_m2', if_true, if_false, if_pos, if_neg, e01, e10, em12, em21, e0m1, e0m2, e1m1, e1m2, em10, em20, Int32.reduceLT, Int32.reduceLE, eq_self, Option.bind_some, Option.map_some, false_or, or_false, or_self, true_or, or_true, not_true_eq_false, not_false_eq_true, false_and, and_false, true_and, and_true]
                  refine ok_some ⟨rfl, ?_, fun _ => ⟨a1, a2⟩, a3⟩
                  unfold sro
                  rw [ff_none.mpr hg]; rfl
