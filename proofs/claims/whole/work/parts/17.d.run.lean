/-! run -/
/-- state, home, gone, alike, told; and whether it has ended -/
abbrev rS : Type := (Nat × Nat × Nat × Nat × Nat) × Bool
noncomputable def rst (n m : Nat) (w : aT) (x : Nat) (r : Nat × Nat × Nat × Nat × Nat) : rS :=
  let s := r.1
  let c := r.2.1
  let al := r.2.2.2.1 + (if w.2.1 s x = none then 0 else if sma n w (fs n m w c) x = w.2.1 s x then 1 else 0)
  let to := r.2.2.2.2 + (if w.2.1 s x = none then 0 else 1)
  match w.1 s x with
  | none => ((s, c, r.2.2.1, al, to), true)
  | some u => ((u, (smo n m w c x).getD 0, r.2.2.1 + 1, al, to), false)
noncomputable def rnn (n m : Nat) (w : aT) (X : Int32) (N s0 : Nat) : Nat → rS
  | 0 => ((s0, hmo n m w s0, 0, 0, 0), false)
  | k + 1 => if (rnn n m w X N s0 k).2 = true then rnn n m w X N s0 k else rst n m w (dg2 X (N - 1 - k)) (rnn n m w X N s0 k).1
theorem rnn_stop {n m : Nat} {w : aT} {X : Int32} {N s0 k : Nat} (h : (rnn n m w X N s0 k).2 = true) : ∀ d, rnn n m w X N s0 (k + d) = rnn n m w X N s0 k := by
  intro d
  induction d with
  | zero => rfl
  | succ d ih =>
    show (if (rnn n m w X N s0 (k + d)).2 = true then rnn n m w X N s0 (k + d) else rst n m w (dg2 X (N - 1 - (k + d))) (rnn n m w X N s0 (k + d)).1) = rnn n m w X N s0 k
    rw [ih, if_pos h]
theorem rnn_inv {n m : Nat} {w : aT} (hn : n ≤ 6) (V : Vd n m w) (hO : fOk n m w) {X : Int32} {N s0 : Nat} (hs : s0 < n) (hX : ∀ j, j < N → dg2 X j < m) : ∀ k, k ≤ N → (rnn n m w X N s0 k).1.1 < n ∧ (rnn n m w X N s0 k).1.2.1 < fk n m w ∧ bt (fs n m w (rnn n m w X N s0 k).1.2.1) (rnn n m w X N s0 k).1.1 = true ∧ (rnn n m w X N s0 k).1.2.2.1 ≤ k ∧ (rnn n m w X N s0 k).1.2.2.2.1 ≤ k ∧ (rnn n m w X N s0 k).1.2.2.2.2 ≤ k := by
  intro k
  induction k with
  | zero =>
    intro _
    have hh := hmo_ok hn hO hs
    exact ⟨hs, hh.2.1, hh.2.2, Nat.le_refl _, Nat.le_refl _, Nat.le_refl _⟩
  | succ k ih =>
    intro hk
    obtain ⟨i1, i2, i3, i4, i5, i6⟩ := ih (by omega)
    unfold rnn
    by_cases hst : (rnn n m w X N s0 k).2 = true
    · rw [if_pos hst]
      exact ⟨i1, i2, i3, by omega, by omega, by omega⟩
    · rw [if_neg hst]
      have hx := hX (N - 1 - k) (by omega)
      generalize dg2 X (N - 1 - k) = x at hx
      generalize (rnn n m w X N s0 k).1 = r at i1 i2 i3 i4 i5 i6
      unfold rst
      dsimp only
      have e1 : ∀ (P : Prop) [Decidable P] (a : Nat), a ≤ 1 → (if P then 0 else a) ≤ 1 := by
        intro P _ a ha; split <;> omega
      have e2 : (if w.2.1 r.1 x = none then 0 else if sma n w (fs n m w r.2.1) x = w.2.1 r.1 x then 1 else 0) ≤ 1 := by
        apply e1; split <;> omega
      have e3 : (if w.2.1 r.1 x = none then 0 else 1) ≤ 1 := e1 _ _ (by omega)
      cases et : w.1 r.1 x with
      | none =>
        dsimp only
        exact ⟨i1, i2, i3, by omega, by omega, by omega⟩
      | some u =>
        dsimp only
        have hu := (V.1 r.1 x u et).2.2
        have hb := ld_bt hn V i3 et
        have hne : ¬ ld n w (fs n m w r.2.1) x = 0 := by
          intro h0; rw [h0, bt_zero] at hb; cases hb
        have hsm := smo_ne hO i2 hx hne
        cases es : smo n m w r.2.1 x with
        | none =>
          exfalso
          obtain ⟨j, hj, hs2⟩ := fs_led hO i2 hx
          unfold smo at es
          rw [if_neg hne] at es
          have := ff_none.mp es j hj
          rw [hs2] at this; cases this
        | some j =>
          have hj := smo_some es
          refine ⟨hu, hj.1, sub_iff.mp hj.2 u (by omega) hb, by show r.2.2.1 + 1 ≤ k + 1; omega, by omega, by omega⟩
noncomputable def rpick (r : Nat × Nat × Nat × Nat × Nat) (z : Int32) : Int32 := if z = 0 then nt r.2.2.1 else if z = 1 then nt r.1 else if z = 2 then nt r.2.1 else if z = 3 then nt r.2.2.2.1 else nt r.2.2.2.2
noncomputable def runR (n m : Nat) (w : aT) (s X N z : Int32) : Int32 := if (isS n s && wOk m X N && isS 5 z) = true then rpick (rnn n m w X N.toNatClampNeg s.toNatClampNeg N.toNatClampNeg).1 z else -1
theorem smo_of {n m : Nat} {w : aT} (hn : n ≤ 6) (V : Vd n m w) (hO : fOk n m w) {s c x u : Nat} (hc : c < fk n m w) (hx : x < m) (hb : bt (fs n m w c) s = true) (et : w.1 s x = some u) : ∃ j, smo n m w c x = some j ∧ j < fk n m w := by
  have hb2 := ld_bt hn V hb et
  have hne : ¬ ld n w (fs n m w c) x = 0 := by
    intro h0; rw [h0, bt_zero] at hb2; cases hb2
  cases es : smo n m w c x with
  | none =>
    exfalso
    obtain ⟨j, hj, hs2⟩ := fs_led hO hc hx
    unfold smo at es
    rw [if_neg hne] at es
    have := ff_none.mp es j hj
    rw [hs2] at this; cases this
  | some j => exact ⟨j, rfl, (smo_some es).1⟩
theorem ov_sma {n m : Nat} {w : aT} (V : Vd n m w) {k : Nat} {y : Int32} {x v : Nat} (hv : v < 4) : (ov (sma k w y x) = nt v) = (sma k w y x = some v) := by
  rw [show nt v = ov (some v) from rfl, ov_eq]
  · intro j hj
    unfold sma at hj
    split at hj
    · have := (V.2.1 _ x j hj).2.2; omega
    · cases hj
  · intro j hj; cases hj; omega
theorem wOk_ex {m : Nat} {X N : Int32} (h : wOk m X N = true) : ∃ k, k ≤ 8 ∧ N = nt k ∧ ∀ j, j < k → dg2 X j < m := by
  unfold wOk at h
  rw [Bool.and_eq_true, Bool.and_eq_true, Bool.and_eq_true] at h
  obtain ⟨k, hk, rfl⟩ := isS_ex (by omega) h.1
  refine ⟨k, by omega, rfl, ?_⟩
  have := h.2.2.2
  rw [nt_clamp (by omega), al_iff] at this
  exact fun j hj => of_decide_eq_true (this j hj)
theorem crun_ok {n m : Nat} {w : aT} {I : xI} {J : xJ} (hn : n ≤ 6) (hm : m ≤ 4) (V : Vd n m w) (h : cMa n m w (I 1 0) (I 1 1) (I 2) (I 3) (I 4)) (hA : caABC n m w I) (s X N z : Int32) : Ok (f_X11_run s X N z I J) (fun o => o.2.2 = J ∧ o.1 = runR n m w s X N z ∧ caABC n m w o.2.1 ∧ ∀ c j, ¬ qReg c j → o.2.1 c j = I c j) := by
  unfold f_X11_run f_X11_run_0 runR
  rw [hasState_ok h.1 (by omega), Option.bind_some]
  unfold f_X11_run_1
  dsimp only
  cases hx : isS n s with
  | false => exact ok_some ⟨rfl, rfl, hA, fun _ _ _ => rfl⟩
  | true =>
    show Ok (f_X11_run_2 s X N z I J) _
    unfold f_X11_run_2
    rw [hasWord_ok hm h.2.1, Option.bind_some]
    unfold f_X11_run_3
    dsimp only
    cases hw : wOk m X N with
    | false => exact ok_some ⟨rfl, rfl, hA, fun _ _ _ => rfl⟩
    | true =>
      show Ok (f_X11_run_4 s X N z I J) _
      unfold f_X11_run_4
      rcases nt_all z with hz | ⟨q, hq, rfl⟩
      · rw [if_pos hz, isS_neg hz]
        exact ok_some ⟨rfl, rfl, hA, fun _ _ _ => rfl⟩
      · rw [isS_nt (by omega) hq]
        unfold f_X11_run_5
        simp (disch := omega) only [nt_clamp, nt_le, nt_lt, nt_eq, lit_le, lit_lt, le_lit, lt_lit, eq_lit, lit_eq, nt_neg, nt_ge, nt_add, nt_mul, nt_addl, lit_add, nt_mull, lit_mul, nt_sub, nt_subl, lit_sub, nt_divl, nt_m1, nt_m2, nt_m1', nt_m2', if_neg]
        by_cases hq4 : q ≤ 4
        · rw [if_pos hq4, decide_eq_true (by omega)]
          obtain ⟨s, hs, rfl⟩ := isS_ex (by omega) hx
          obtain ⟨k, hk8, rfl, hdg⟩ := wOk_ex hw
          rw [nt_clamp (by omega), nt_clamp (by omega)]
          unfold f_X11_run_7
          apply ok_bind
          refine (fewestNow_ok hn hm V h hA).imp ?_
          rintro ⟨_, I1, J1⟩ ⟨rfl, cA, hF, a3⟩
          dsimp only at cA hF a3 ⊢
          have hM1 := cMa_fr h (fun c j h1 h2 => a3 c j (by unfold qReg pReg; omega))
          have hO := hF.1
          have hk6 := hO.1
          simp only [f_X11_run_8, f_X11_run_9, homeOf_ok hn hF hs, Option.bind_some]
          unfold f_X11_run_10
          have pick : ∀ (r : Nat × Nat × Nat × Nat × Nat) (x10 : Int32) (z11 z12 z13 : Option Value), r = (rnn n m w X k s k).1 → Ok (f_X11_run_24 (nt s) X (nt k) (nt q) (nt r.1) (nt r.2.1) (nt r.2.2.1) (nt r.2.2.2.1) (nt r.2.2.2.2) x10 z11 z12 z13 I1 J1) (fun o => o.2.2 = J1 ∧ o.1 = (if (true && true && true) = true then rpick (rnn n m w X k s k).1 (nt q) else -1) ∧ caABC n m w o.2.1 ∧ ∀ c j, ¬ qReg c j → o.2.1 c j = I c j) := by
            intro r x10 z11 z12 z13 hr
            rw [← hr]
            simp only [Bool.and_self, if_true]
            unfold rpick
            simp (disch := omega) only [f_X11_run_24, f_X11_run_25, f_X11_run_26, f_X11_run_27, f_X11_run_28, f_X11_run_29, f_X11_run_30, nt_clamp, nt_le, nt_lt, nt_eq, lit_le, lit_lt, le_lit, lt_lit, eq_lit, lit_eq, nt_neg, nt_ge, nt_add, nt_mul, nt_addl, lit_add, nt_mull, lit_mul, nt_sub, nt_subl, lit_sub, nt_divl, nt_m1, nt_m2, nt_m1', nt_m2']
            have hq5 : q = 0 ∨ q = 1 ∨ q = 2 ∨ q = 3 ∨ q = 4 := by omega
            rcases hq5 with rfl | rfl | rfl | rfl | rfl
            · exact ok_some ⟨rfl, rfl, cA, a3⟩
            · exact ok_some ⟨rfl, rfl, cA, a3⟩
            · exact ok_some ⟨rfl, rfl, cA, a3⟩
            · exact ok_some ⟨rfl, rfl, cA, a3⟩
            · exact ok_some ⟨rfl, rfl, cA, a3⟩
          refine ok_loop (fun i t => (rnn n m w X k s i).2 = false ∧ ∃ z11 z12 z13, t = (nt s, X, nt k, nt q, nt (rnn n m w X k s i).1.1, nt (rnn n m w X k s i).1.2.1, nt (rnn n m w X k s i).1.2.2.1, nt (rnn n m w X k s i).1.2.2.2.1, nt (rnn n m w X k s i).1.2.2.2.2, nt i, z11, z12, z13, I1, J1)) k ?_ ?_ 5000 0 _ (by omega) (by omega) ⟨rfl, none, none, none, rfl⟩
          · rintro i hi t ⟨hst, z11, z12, z13, rfl⟩
            obtain ⟨i1, i2, i3, i4, i5, i6⟩ := rnn_inv hn V hO hs hdg i (by omega)
            have hnext : rnn n m w X k s (i + 1) = rst n m w (dg2 X (k - 1 - i)) (rnn n m w X k s i).1 := by
              show (if (rnn n m w X k s i).2 = true then _ else _) = _
              rw [hst]; rfl
            have hd := hdg (k - 1 - i) (by omega)
            have hd4 := dg2_lt X (k - 1 - i)
            have hbrk : (rnn n m w X k s (i + 1)).2 = true → rnn n m w X k s k = rnn n m w X k s (i + 1) := by
              intro hh
              have := rnn_stop hh (k - (i + 1))
              rw [show i + 1 + (k - (i + 1)) = k from by omega] at this
              exact this
            revert hnext hbrk
            generalize rnn n m w X k s (i + 1) = r2
            generalize (rnn n m w X k s i).1 = r at i1 i2 i3 i4 i5 i6
            generalize hxd : dg2 X (k - 1 - i) = x at hd hd4
            intro hnext hbrk
            simp (disch := omega) only [b_X11_run_10, f_X11_run_11, f_X11_run_12, f_X11_run_13, f_X5_digitOf_0, f_X5_digitOf, nt_clamp, nt_le, nt_lt, nt_eq, lit_le, lit_lt, le_lit, lt_lit, eq_lit, lit_eq, nt_neg, nt_ge, nt_add, nt_mul, nt_addl, lit_add, nt_mull, lit_mul, nt_sub, nt_subl, lit_sub, nt_divl, nt_m1, nt_m2, nt_m1', nt_m2', if_neg, nt_31, dg2_ok, hxd, Option.bind_some, answerOf_ok hn hm V hM1]
            have mid : ∀ (a8 a9 : Nat) (x12 : Int32) (z13 : Option Value), a8 = r2.1.2.2.2.1 → a9 = r2.1.2.2.2.2 → Ok (f_X11_run_19 (nt s) X (nt k) (nt q) (nt r.1) (nt r.2.1) (nt r.2.2.1) (nt a8) (nt a9) (nt i) (nt x) x12 z13 I1 J1) (Sum.elim (fun t => r2.2 = false ∧ ∃ z11 z12 z13, t = (nt s, X, nt k, nt q, nt r2.1.1, nt r2.1.2.1, nt r2.1.2.2.1, nt r2.1.2.2.2.1, nt r2.1.2.2.2.2, nt (i + 1), z11, z12, z13, I1, J1)) (fun o => o.2.2 = J1 ∧ o.1 = (if (true && true && true) = true then rpick (rnn n m w X k s k).1 (nt q) else -1) ∧ caABC n m w o.2.1 ∧ ∀ c j, ¬ qReg c j → o.2.1 c j = I c j)) := by
              intro a8 a9 x12 z13 e8 e9
              simp (disch := omega) only [f_X11_run_19, f_X11_run_20, targetOf_ok hn hm V hM1, Option.bind_some]
              cases et : w.1 r.1 x with
              | none =>
                simp only [ov_n, Int32.reduceLE, if_false, f_X11_run_21]
                apply ok_map
                have hr2 : r2 = ((r.1, r.2.1, r.2.2.1, r2.1.2.2.2.1, r2.1.2.2.2.2), true) := by
                  rw [hnext]; unfold rst; dsimp only; rw [et]
                have hb2 := hbrk (by rw [hr2])
                have hp := pick (r.1, r.2.1, r.2.2.1, a8, a9) (nt i) (some (.int (nt x))) (some (.int x12)) (some (.int (-2))) (by rw [hb2, hr2, e8, e9])
                exact hp
              | some u =>
                obtain ⟨j, hj, hjf⟩ := smo_of hn V hO i2 hd i3 et
                have hu := (V.1 r.1 x u et).2.2
                simp (disch := omega) only [ov_s, nt_clamp, nt_le, nt_lt, nt_eq, lit_le, lit_lt, le_lit, lt_lit, eq_lit, lit_eq, nt_neg, nt_ge, nt_add, nt_mul, nt_addl, lit_add, nt_mull, lit_mul, nt_sub, nt_subl, lit_sub, nt_divl, nt_m1, nt_m2, nt_m1', nt_m2', if_true, f_X11_run_22, f_X11_run_23, smallTarget_ok hn hm V hM1 hF i2 hd, hj, Option.bind_some]
                have hr2 : r2 = ((u, j, r.2.2.1 + 1, r2.1.2.2.2.1, r2.1.2.2.2.2), false) := by
                  rw [hnext]; unfold rst; dsimp only; rw [et, hj]; rfl
                refine ok_some ⟨by rw [hr2], some (.int (nt x)), some (.int x12), some (.int (nt u)), ?_⟩
                rw [hr2, e8, e9]
            have hr4 : r2.1.2.2.2.1 = r.2.2.2.1 + (if w.2.1 r.1 x = none then 0 else if sma n w (fs n m w r.2.1) x = w.2.1 r.1 x then 1 else 0) := by
              rw [hnext]; unfold rst; dsimp only
              cases w.1 r.1 x <;> rfl
            have hr5 : r2.1.2.2.2.2 = r.2.2.2.2 + (if w.2.1 r.1 x = none then 0 else 1) := by
              rw [hnext]; unfold rst; dsimp only
              cases w.1 r.1 x <;> rfl
            cases ea : w.2.1 r.1 x with
            | none =>
              rw [ea] at hr4 hr5
              simp only [ov_n, if_true]
              exact mid _ _ _ _ (by rw [hr4, if_pos rfl]; rfl) (by rw [hr5, if_pos rfl]; rfl)
            | some v =>
              have hv := (V.2.1 r.1 x v ea).2.2
              rw [ea] at hr4 hr5
              simp (disch := omega) only [ov_s, nt_clamp, nt_le, nt_lt, nt_eq, lit_le, lit_lt, le_lit, lt_lit, eq_lit, lit_eq, nt_neg, nt_ge, nt_add, nt_mul, nt_addl, lit_add, nt_mull, lit_mul, nt_sub, nt_subl, lit_sub, nt_divl, nt_m1, nt_m2, nt_m1', nt_m2', if_false, f_X11_run_14, csmallAnswer_ok hn hm V hM1 hF i2 hd, Option.bind_some, f_X11_run_15, ov_sma V hv]
              by_cases cs : sma n w (fs n m w r.2.1) x = some v
              · rw [if_pos cs]
                simp (disch := omega) only [f_X11_run_16, f_X11_run_18, nt_clamp, nt_le, nt_lt, nt_eq, lit_le, lit_lt, le_lit, lt_lit, eq_lit, lit_eq, nt_neg, nt_ge, nt_add, nt_mul, nt_addl, lit_add, nt_mull, lit_mul, nt_sub, nt_subl, lit_sub, nt_divl, nt_m1, nt_m2, nt_m1', nt_m2']
                exact mid _ _ _ _ (by rw [hr4, if_neg (by simp), if_pos cs]) (by rw [hr5, if_neg (by simp)])
              · rw [if_neg cs]
                simp (disch := omega) only [f_X11_run_17, f_X11_run_18, nt_clamp, nt_le, nt_lt, nt_eq, lit_le, lit_lt, le_lit, lt_lit, eq_lit, lit_eq, nt_neg, nt_ge, nt_add, nt_mul, nt_addl, lit_add, nt_mull, lit_mul, nt_sub, nt_subl, lit_sub, nt_divl, nt_m1, nt_m2, nt_m1', nt_m2']
                exact mid _ _ _ _ (by rw [hr4, if_neg (by simp), if_neg cs]) (by rw [hr5, if_neg (by simp)])
          · rintro t ⟨hst, z11, z12, z13, rfl⟩
            simp (disch := omega) only [b_X11_run_10, nt_clamp, nt_le, nt_lt, nt_eq, lit_le, lit_lt, le_lit, lt_lit, eq_lit, lit_eq, nt_neg, nt_ge, nt_add, nt_mul, nt_addl, lit_add, nt_mull, lit_mul, nt_sub, nt_subl, lit_sub, nt_divl, nt_m1, nt_m2, nt_m1', nt_m2', if_pos]
            apply ok_map
            exact pick _ _ _ _ _ rfl
        · rw [if_neg hq4, decide_eq_false (by omega)]
          exact ok_some ⟨rfl, rfl, hA, fun _ _ _ => rfl⟩
theorem rrun_ok {n m : Nat} {w : aT} {I : xI} {J : xJ} (hn : n ≤ 6) (hm : m ≤ 4) (V : Vd n m w) (h0 : I 61 17 = nt n) (h1 : I 61 18 = nt m) (h : rMa n m w (I 70) 0) (hc : rCa n m w I) (s X N z : Int32) : Ok (f_X12_run s X N z I J) (fun o => o.2.2 = J ∧ o.1 = runR n m w s X N z ∧ rCa n m w o.2.1 ∧ ∀ c j, ¬ kReg c j → o.2.1 c j = I c j) := by
  unfold f_X12_run f_X12_run_0 runR
  rw [isState_ok h0 (by omega), Option.bind_some]
  unfold f_X12_run_1
  dsimp only
  cases hx : isS n s with
  | false => exact ok_some ⟨rfl, rfl, hc, fun _ _ _ => rfl⟩
  | true =>
    show Ok (f_X12_run_2 s X N z I J) _
    unfold f_X12_run_2
    rw [isWord_ok hm h1, Option.bind_some]
    unfold f_X12_run_3
    dsimp only
    cases hw : wOk m X N with
    | false => exact ok_some ⟨rfl, rfl, hc, fun _ _ _ => rfl⟩
    | true =>
      show Ok (f_X12_run_4 s X N z I J) _
      unfold f_X12_run_4
      rw [show f_X12_in z 0 4 I J = some (bi (isS 5 z), I, J) from rin_ok (n := 5) (by omega), Option.bind_some]
      unfold f_X12_run_5
      dsimp only
      cases hz : isS 5 z with
      | false => exact ok_some ⟨rfl, rfl, hc, fun _ _ _ => rfl⟩
      | true =>
        obtain ⟨s, hs, rfl⟩ := isS_ex (by omega) hx
        obtain ⟨k, hk8, rfl, hdg⟩ := wOk_ex hw
        obtain ⟨q, hq5, rfl⟩ := isS_ex (by omega) hz
        rw [nt_clamp (by omega), nt_clamp (by omega)]
        show Ok (f_X12_run_7 (nt s) X (nt k) (nt q) I J) _
        unfold f_X12_run_7
        apply ok_bind
        refine (knows_ok hn hm V h0 h1 h hc).imp ?_
        rintro ⟨_, I1, J1⟩ ⟨rfl, a1, a2, a3⟩
        dsimp only at a1 a2 a3 ⊢
        have hF := a1.2.2.2.1
        have hO := hF.1
        have hk6 := hO.1
        have e17 : I1 61 17 = nt n := (a3 61 17 (by unfold kReg; omega)).trans h0
        have e70 : I1 70 = I 70 := funext fun j => a3 70 j (by unfold kReg; omega)
        have hM1 : rMa n m w (I1 70) 0 := by rw [e70]; exact h
        simp (disch := omega) only [f_X12_run_8, f_X12_run_9, nt_31, rhomeOf_ok hn hF hs, Option.bind_some]
        unfold f_X12_run_10
        have pick : ∀ (r : Nat × Nat × Nat × Nat × Nat) (x10 : Int32) (z11 : Option Value), r = (rnn n m w X k s k).1 → Ok (f_X12_run_23 (nt s) X (nt k) (nt q) (nt r.1) (nt r.2.1) (nt r.2.2.1) (nt r.2.2.2.1) (nt r.2.2.2.2) x10 z11 I1 J1) (fun o => o.2.2 = J1 ∧ o.1 = (if (true && true && true) = true then rpick (rnn n m w X k s k).1 (nt q) else -1) ∧ rCa n m w o.2.1 ∧ ∀ c j, ¬ kReg c j → o.2.1 c j = I c j) := by
          intro r x10 z11 hr
          rw [← hr]
          simp only [Bool.and_self, if_true]
          unfold rpick
          simp (disch := omega) only [f_X12_run_23, f_X12_run_24, f_X12_run_25, f_X12_run_26, f_X12_run_27, f_X12_run_28, f_X12_run_29, f_X12_run_30, f_X12_run_31, f_X12_run_32, nt_clamp, nt_le, nt_lt, nt_eq, lit_le, lit_lt, le_lit, lt_lit, eq_lit, lit_eq, nt_neg, nt_ge, nt_add, nt_mul, nt_addl, lit_add, nt_mull, lit_mul, nt_sub, nt_subl, lit_sub, nt_divl, nt_m1, nt_m2, nt_m1', nt_m2']
          have hq5 : q = 0 ∨ q = 1 ∨ q = 2 ∨ q = 3 ∨ q = 4 := by omega
          rcases hq5 with rfl | rfl | rfl | rfl | rfl
          · exact ok_some ⟨rfl, rfl, fun _ => ⟨a1, a2⟩, a3⟩
          · exact ok_some ⟨rfl, rfl, fun _ => ⟨a1, a2⟩, a3⟩
          · exact ok_some ⟨rfl, rfl, fun _ => ⟨a1, a2⟩, a3⟩
          · exact ok_some ⟨rfl, rfl, fun _ => ⟨a1, a2⟩, a3⟩
          · exact ok_some ⟨rfl, rfl, fun _ => ⟨a1, a2⟩, a3⟩
        refine ok_loop (fun i t => (rnn n m w X k s i).2 = false ∧ ∃ z11, t = (nt s, X, nt k, nt q, nt (rnn n m w X k s i).1.1, nt (rnn n m w X k s i).1.2.1, nt (rnn n m w X k s i).1.2.2.1, nt (rnn n m w X k s i).1.2.2.2.1, nt (rnn n m w X k s i).1.2.2.2.2, nt (k - i) - 1, z11, I1, J1)) k ?_ ?_ 5000 0 _ (by omega) (by omega) ⟨rfl, none, rfl⟩
        · rintro i hi t ⟨hst, z11, rfl⟩
          obtain ⟨i1, i2, i3, i4, i5, i6⟩ := rnn_inv hn V hO hs hdg i (by omega)
          have hnext : rnn n m w X k s (i + 1) = rst n m w (dg2 X (k - 1 - i)) (rnn n m w X k s i).1 := by
            show (if (rnn n m w X k s i).2 = true then _ else _) = _
            rw [hst]; rfl
          have hd := hdg (k - 1 - i) (by omega)
          have hd4 := dg2_lt X (k - 1 - i)
          have hbrk : (rnn n m w X k s (i + 1)).2 = true → rnn n m w X k s k = rnn n m w X k s (i + 1) := by
            intro hh
            have := rnn_stop hh (k - (i + 1))
            rw [show i + 1 + (k - (i + 1)) = k from by omega] at this
            exact this
          revert hnext hbrk
          generalize rnn n m w X k s (i + 1) = r2
          generalize (rnn n m w X k s i).1 = r at i1 i2 i3 i4 i5 i6
          generalize hxd : dg2 X (k - 1 - i) = x at hd hd4
          intro hnext hbrk
          have epos : nt (k - i) - 1 = nt (k - 1 - i) := by rw [nt_m1s (by omega), show k - i - 1 = k - 1 - i from by omega]
          have epos2 : nt (k - 1 - i) - 1 = nt (k - (i + 1)) - 1 := by rw [show k - 1 - i = k - (i + 1) from by omega]
          simp (disch := omega) only [b_X12_run_10, f_X12_run_11, f_X12_run_12, epos, nt_clamp, nt_le, nt_lt, nt_eq, lit_le, lit_lt, le_lit, lt_lit, eq_lit, lit_eq, nt_neg, nt_ge, nt_add, nt_mul, nt_addl, lit_add, nt_mull, lit_mul, nt_sub, nt_subl, lit_sub, nt_divl, nt_m1, nt_m2, nt_m1', nt_m2', if_neg, nt_31, dg2_ok, hxd, Option.bind_some, answer_ok hn hm hM1 i1 hd]
          have mid : ∀ (a8 a9 : Nat), a8 = r2.1.2.2.2.1 → a9 = r2.1.2.2.2.2 → Ok (f_X12_run_17 (nt s) X (nt k) (nt q) (nt r.1) (nt r.2.1) (nt r.2.2.1) (nt a8) (nt a9) (nt (k - 1 - i)) (nt x) I1 J1) (Sum.elim (fun t => r2.2 = false ∧ ∃ z11, t = (nt s, X, nt k, nt q, nt r2.1.1, nt r2.1.2.1, nt r2.1.2.2.1, nt r2.1.2.2.2.1, nt r2.1.2.2.2.2, nt (k - (i + 1)) - 1, z11, I1, J1)) (fun o => o.2.2 = J1 ∧ o.1 = (if (true && true && true) = true then rpick (rnn n m w X k s k).1 (nt q) else -1) ∧ rCa n m w o.2.1 ∧ ∀ c j, ¬ kReg c j → o.2.1 c j = I c j)) := by
            intro a8 a9 e8 e9
            simp (disch := omega) only [f_X12_run_17, f_X12_run_18, to_ok hn hm hM1 i1 hd, Option.bind_some]
            cases et : w.1 r.1 x with
            | none =>
              simp only [ov_n, Int32.reduceLE, if_false, f_X12_run_19]
              apply ok_map
              have hr2 : r2 = ((r.1, r.2.1, r.2.2.1, r2.1.2.2.2.1, r2.1.2.2.2.2), true) := by
                rw [hnext]; unfold rst; dsimp only; rw [et]
              have hb2 := hbrk (by rw [hr2])
              have hp := pick (r.1, r.2.1, r.2.2.1, a8, a9) (nt (k - 1 - i)) (some (.int (nt x))) (by rw [hb2, hr2, e8, e9])
              exact hp
            | some u =>
              obtain ⟨j, hj, hjf⟩ := smo_of hn V hO i2 hd i3 et
              have hu := (V.1 r.1 x u et).2.2
              simp (disch := omega) only [ov_s, nt_clamp, nt_le, nt_lt, nt_eq, lit_le, lit_lt, le_lit, lt_lit, eq_lit, lit_eq, nt_neg, nt_ge, nt_add, nt_mul, nt_addl, lit_add, nt_mull, lit_mul, nt_sub, nt_subl, lit_sub, nt_divl, nt_m1, nt_m2, nt_m1', nt_m2', if_true, f_X12_run_20, f_X12_run_21, f_X12_run_22, smallTo_ok hn hm V e17 hM1 hF i2 hd, hj, to_ok hn hm hM1 i1 hd, et, Option.bind_some, add_m1]
              have hr2 : r2 = ((u, j, r.2.2.1 + 1, r2.1.2.2.2.1, r2.1.2.2.2.2), false) := by
                rw [hnext]; unfold rst; dsimp only; rw [et, hj]; rfl
              refine ok_some ⟨by rw [hr2], some (.int (nt x)), ?_⟩
              rw [hr2, e8, e9, epos2]
          have hr4 : r2.1.2.2.2.1 = r.2.2.2.1 + (if w.2.1 r.1 x = none then 0 else if sma n w (fs n m w r.2.1) x = w.2.1 r.1 x then 1 else 0) := by
            rw [hnext]; unfold rst; dsimp only
            cases w.1 r.1 x <;> rfl
          have hr5 : r2.1.2.2.2.2 = r.2.2.2.2 + (if w.2.1 r.1 x = none then 0 else 1) := by
            rw [hnext]; unfold rst; dsimp only
            cases w.1 r.1 x <;> rfl
          cases ea : w.2.1 r.1 x with
          | none =>
            rw [ea] at hr4 hr5
            simp only [ov_n, Int32.reduceLT, if_true]
            exact mid _ _ (by rw [hr4, if_pos rfl]; rfl) (by rw [hr5, if_pos rfl]; rfl)
          | some v =>
            have hv := (V.2.1 r.1 x v ea).2.2
            rw [ea] at hr4 hr5
            have hsa := smallAnswer_ok (J := J1) hn hm V e17 hM1 (show r.2.1 < 6 from by omega) hd
            rw [hF.2.2 _ i2] at hsa
            simp (disch := omega) only [ov_s, nt_clamp, nt_le, nt_lt, nt_eq, lit_le, lit_lt, le_lit, lt_lit, eq_lit, lit_eq, nt_neg, nt_ge, nt_add, nt_mul, nt_addl, lit_add, nt_mull, lit_mul, nt_sub, nt_subl, lit_sub, nt_divl, nt_m1, nt_m2, nt_m1', nt_m2', if_false, f_X12_run_13, f_X12_run_14, hsa, answer_ok hn hm hM1 i1 hd, ea, Option.bind_some, f_X12_run_15, ov_sma V hv]
            by_cases cs : sma n w (fs n m w r.2.1) x = some v
            · rw [if_pos cs]
              simp (disch := omega) only [f_X12_run_16, nt_clamp, nt_le, nt_lt, nt_eq, lit_le, lit_lt, le_lit, lt_lit, eq_lit, lit_eq, nt_neg, nt_ge, nt_add, nt_mul, nt_addl, lit_add, nt_mull, lit_mul, nt_sub, nt_subl, lit_sub, nt_divl, nt_m1, nt_m2, nt_m1', nt_m2']
              exact mid _ _ (by rw [hr4, if_neg (by simp), if_pos cs]) (by rw [hr5, if_neg (by simp)])
            · rw [if_neg cs]
              exact mid _ _ (by rw [hr4, if_neg (by simp), if_neg cs]; rfl) (by rw [hr5, if_neg (by simp)])
        · rintro t ⟨hst, z11, rfl⟩
          have e : (nt (k - k) - 1 < 0) := by
            rw [show k - k = 0 from by omega]; decide
          simp only [b_X12_run_10, if_pos e]
          apply ok_map
          exact pick _ _ _ rfl
