/-! a MOVE line of the reference; all lines -/
theorem mmove_ok {l N k : Nat} {tb : Nat → Nat} {I I1 : xI} {J : xJ} {Q : Unit × xI × xJ → Prop} (h : Rm l tb N I1 J) (hk : k < N) (c6 : kk tb k = 6) (hR : RW (Wt tb N k) I1) (hB : WB tb k (Wt tb N k)) (hM : (Wt tb N k).1 = 0 → fMa (At tb N k) (I1 71)) (hf : ∀ c j, ¬ c = 71 → ¬ woReg c j → I1 c j = I c j) (z : Option Value) : Ok (f_X12_means_18 (nt (nS tb k)) (nt k) z I1 J) (Sum.elim (Mi l tb N I J (k + 1)) Q) := by
  have hW := h.1
  have h400 := hW.2.1
  have hir := inp_r tb N
  have hd := Wf_due hW hk (by omega)
  obtain ⟨_, _, k6, _⟩ := Wf_k2 hW hk hd
  obtain ⟨p4, q1, q2, q3, q4⟩ := k6 c6
  have hlt := st_lt tb k
  have hf6 := fnd_6 (k := k + 1) hW
  have hf63 := fnd_6 (k := k + 3) hW
  have ech : chk tb N k = [(if (fnd tb N (k + 1)).isSome = true then 0 else 4, k + 1), (if vv tb (k + 2) < inp tb N then 0 else 5, k + 2), (if kk tb (k + 3) = 1 ∧ (fnd tb N (k + 3)).isSome = false then 4 else 0, k + 3), (if kk tb (k + 4) = 2 ∧ 3 < vv tb (k + 4) then 5 else 0, k + 4)] := by unfold chk; rw [if_neg (by omega), if_neg (by omega), if_pos c6]
  have eW : Wt tb N (k + 1) = wup tb (wup tb (wup tb (wup tb (Wt tb N k) (if (fnd tb N (k + 1)).isSome = true then 0 else 4, k + 1)) (if vv tb (k + 2) < inp tb N then 0 else 5, k + 2)) (if kk tb (k + 3) = 1 ∧ (fnd tb N (k + 3)).isSome = false then 4 else 0, k + 3)) (if kk tb (k + 4) = 2 ∧ 3 < vv tb (k + 4) then 5 else 0, k + 4) := by
    rw [Wt_s, ech]; rfl
  have hb1 : ¬ (Wt tb N k).1 = 0 → (Wt tb N k).2 < st tb (k + 1) := fun h0 => Nat.lt_trans (hB k (Nat.le_refl _) hd h0) hlt
  simp only [f_X12_means_18, nt_addl]
  apply ok_bind
  refine (rnamed_ok (J := J) h (show k + 1 < N from by omega) q1 hR hb1).imp ?_
  rintro ⟨v, I2, J2⟩ ⟨rfl, v1, r2, f2⟩
  dsimp only at v1 r2 f2 ⊢
  subst v1
  have h2 : Rm l tb N I2 J2 := Rm_fr h (fun c j _ hc => f2 c j hc)
  have e20 : I2 61 20 - 1 = nt (inp tb N - 1) := by
    rw [h2.2.2.2.2.2]; exact nt_sub (b := 1) hir.1
  simp only [f_X12_means_19, nt_addl, e20]
  apply ok_bind
  refine (rbound_ok (a := 0) (b := inp tb N - 1) (c := if vv tb (k + 2) < inp tb N then 0 else 5) (J := J2) h2 (show k + 2 < N from by omega) q2 r2 (wup_b _ hb1) (by omega) (by omega) (by
    by_cases c : vv tb (k + 2) < inp tb N
    · rw [if_pos c, if_pos (by omega)]
    · rw [if_neg c, if_neg (by omega)])).imp ?_
  rintro ⟨v, I3, J3⟩ ⟨rfl, v2, r3, f3⟩
  dsimp only at v2 r3 f3 ⊢
  subst v2
  have h3 : Rm l tb N I3 J3 := Rm_fr h2 (fun c j _ hc => f3 c j hc)
  have hb3 := wup_b (if vv tb (k + 2) < inp tb N then 0 else 5) (wup_b (if (fnd tb N (k + 1)).isSome = true then 0 else 4) hb1)
  -- where it goes
  have hX : (if 0 ≤ vv tb (k + 2) ∧ vv tb (k + 2) ≤ inp tb N - 1 then vv tb (k + 2) else 0) < 4 := by split <;> omega
  have hXv : vv tb (k + 2) < inp tb N → (if 0 ≤ vv tb (k + 2) ∧ vv tb (k + 2) ≤ inp tb N - 1 then vv tb (k + 2) else 0) = vv tb (k + 2) := fun h => if_pos (by omega)
  generalize (if 0 ≤ vv tb (k + 2) ∧ vv tb (k + 2) ≤ inp tb N - 1 then vv tb (k + 2) else 0) = X at hX hXv ⊢
  generalize hS : (fnd tb N (k + 1)).getD 0 = S at hf6 ⊢
  have e4s : (4 : Int32) * nt S = nt (4 * S) := nt_mul 4 S
  rw [e4s]
  have es : nS tb k = nS tb (k + 1) := by
    unfold nS
    rw [SL_s, if_neg (show ¬ kd tb (st tb k) = 4 from by show ¬ kk tb k = 4; omega)]
  -- the end
  have fin : ∀ (I4 : xI) (t a : Option Nat) (z3 : Int32), RW (Wt tb N (k + 1)) I4 → ((Wt tb N (k + 1)).1 = 0 → t = mTo tb N k ∧ a = mAn tb k) → (∀ j, I4 71 j = if j = 4 * S + X then ov t else I3 71 j) → (∀ c j, ¬ c = 71 → ¬ woReg c j → I4 c j = I3 c j) → Ok (f_X12_means_28 (nt (nS tb k)) (nt k) z3 (nt (24 + (4 * S + X))) (ov a) I4 J3) (Sum.elim (Mi l tb N I J3 (k + 1)) Q) := by
    intro I4 t a z3 r4 hta h71 f4
    simp (disch := omega) only [f_X12_means_28, nt_clamp, nt_le, nt_lt, nt_eq, lit_le, lit_lt, le_lit, lt_lit, eq_lit, lit_eq, nt_neg, nt_ge, nt_add, nt_mul, nt_addl, lit_add, nt_mull, lit_mul, nt_sub, nt_subl, lit_sub, nt_divl, nt_m1, nt_m2, nt_m1', nt_m2', false_or, if_neg]
    refine mi_of hk es _ ?_ ?_ ?_ ?_
    · refine ⟨?_, r4.2.1, fun h0 => ⟨?_, (r4.2.2 h0).2⟩⟩
      · rw [xup_bj _ _ _ _ _ (by omega)]; exact r4.1
      · rw [xup_bj _ _ _ _ _ (by omega)]; exact (r4.2.2 h0).1
    · refine WB_line hW hk hd ?_
      intro h0
      rw [eW] at h0 ⊢
      refine Nat.lt_of_lt_of_le (wup_b _ (wup_b _ hb3) h0) (st_mono tb ?_)
      rw [c6]; show k + 4 + 1 ≤ k + 1 + 5; omega
    · intro h0
      obtain ⟨rfl, rfl⟩ := hta h0
      have h00 := h0
      rw [Wt_s] at h00
      obtain ⟨w0, wz⟩ := wup_zero tb _ _ h00
      rw [ech] at wz
      have z2 := wz _ (List.mem_cons_of_mem _ List.mem_cons_self)
      dsimp only at z2
      have hv8 : vv tb (k + 2) < inp tb N := by
        by_cases c : vv tb (k + 2) < inp tb N
        · exact c
        · rw [if_neg c] at z2; omega
      rw [At_s, if_pos c6, hS]
      have eX := hXv hv8
      rw [← eX]
      refine fMa_set (hM w0) hf6 hX ?_
      intro j
      rw [xup_if]
      split
      · rfl
      · rw [h71]
        split
        · rfl
        · rw [f3 71 j (by unfold woReg; omega), f2 71 j (by unfold woReg; omega)]
    · intro c j h1 hc
      rw [xup_bj _ _ _ _ _ h1]
      exact (f4 c j h1 hc).trans ((f3 c j hc).trans ((f2 c j hc).trans (hf c j h1 hc)))
  -- the answer
  have ans : ∀ (I4 : xI) (t : Option Nat), RW (wup tb (wup tb (wup tb (Wt tb N k) (if (fnd tb N (k + 1)).isSome = true then 0 else 4, k + 1)) (if vv tb (k + 2) < inp tb N then 0 else 5, k + 2)) (if kk tb (k + 3) = 1 ∧ (fnd tb N (k + 3)).isSome = false then 4 else 0, k + 3)) I4 → ((Wt tb N (k + 1)).1 = 0 → t = mTo tb N k) → (∀ c j, ¬ woReg c j → I4 c j = I3 c j) → Ok (f_X12_means_24 (nt (nS tb k)) (nt k) (nt (4 * S + X)) (nt (4 * S + X)) (ov t) I4 J3) (Sum.elim (Mi l tb N I J3 (k + 1)) Q) := by
    intro I4 t r4 ht f4
    have e64 := (Rm_tok h3 p4).1
    have e64' : xup I4 71 (4 * S + X) (ov t) 64 (k + 4) = nt (rk (kk tb (k + 4))) := by
      rw [xup_bj _ _ _ _ _ (by omega), f4 64 _ (by unfold woReg; omega), e64]
    have f5 : ∀ c j, ¬ c = 71 → ¬ woReg c j → xup I4 71 (4 * S + X) (ov t) c j = I3 c j := by
      intro c j h1 hc
      rw [xup_bj _ _ _ _ _ h1]; exact f4 c j hc
    have h71 : ∀ j, xup I4 71 (4 * S + X) (ov t) 71 j = if j = 4 * S + X then ov t else I3 71 j := by
      intro j
      rw [xup_if]
      split
      · rfl
      · exact f4 71 j (by unfold woReg; omega)
    have r5 : RW (wup tb (wup tb (wup tb (Wt tb N k) (if (fnd tb N (k + 1)).isSome = true then 0 else 4, k + 1)) (if vv tb (k + 2) < inp tb N then 0 else 5, k + 2)) (if kk tb (k + 3) = 1 ∧ (fnd tb N (k + 3)).isSome = false then 4 else 0, k + 3)) (xup I4 71 (4 * S + X) (ov t)) := by
      refine ⟨?_, r4.2.1, fun h0 => ⟨?_, (r4.2.2 h0).2⟩⟩
      · rw [xup_bj _ _ _ _ _ (by omega)]; exact r4.1
      · rw [xup_bj _ _ _ _ _ (by omega)]; exact (r4.2.2 h0).1
    simp (disch := omega) only [f_X12_means_24, nt_clamp, nt_le, nt_lt, nt_eq, lit_le, lit_lt, le_lit, lt_lit, eq_lit, lit_eq, nt_neg, nt_ge, nt_add, nt_mul, nt_addl, lit_add, nt_mull, lit_mul, nt_sub, nt_subl, lit_sub, nt_divl, nt_m1, nt_m2, nt_m1', nt_m2', false_or, if_neg, e64']
    generalize xup I4 71 (4 * S + X) (ov t) = I5 at f5 h71 r5 ⊢
    have h5 : Rm l tb N I5 J3 := Rm_fr h3 f5
    rcases q4 with q4 | q4
    · have hv4 : vv tb (k + 4) < 10000 := tvl_lt hW.1 q4
      rw [q4, if_pos (by decide)]
      simp only [f_X12_means_25, nt_addl]
      apply ok_bind
      refine (rbound_ok (a := 0) (b := 3) (c := if kk tb (k + 4) = 2 ∧ 3 < vv tb (k + 4) then 5 else 0) (J := J3) h5 p4 q4 r5 (wup_b _ hb3) (by omega) (by omega) (by
        by_cases c : 3 < vv tb (k + 4)
        · rw [if_pos ⟨q4, c⟩, if_neg (by omega)]
        · rw [if_neg (fun h => c h.2), if_pos (by omega)])).imp ?_
      rintro ⟨v, I6, J6⟩ ⟨rfl, v6, r6, f6⟩
      dsimp only at v6 r6 f6 ⊢
      subst v6
      rw [← eW] at r6
      unfold f_X12_means_26
      refine fin I6 t (some (if 0 ≤ vv tb (k + 4) ∧ vv tb (k + 4) ≤ 3 then vv tb (k + 4) else 0)) _ r6 ?_ ?_ ?_
      · intro h0
        refine ⟨ht h0, ?_⟩
        rw [Wt_s, ech] at h0
        obtain ⟨_, wz⟩ := wup_zero tb _ _ h0
        have z4 := wz _ (List.mem_cons_of_mem _ (List.mem_cons_of_mem _ (List.mem_cons_of_mem _ List.mem_cons_self)))
        dsimp only at z4
        have : ¬ 3 < vv tb (k + 4) := by
          intro c
          rw [if_pos ⟨q4, c⟩] at z4; omega
        unfold mAn
        rw [if_pos q4, if_pos (by omega)]
      · intro j
        rw [f6 71 j (by unfold woReg; omega)]; exact h71 j
      · intro c j h1 hc
        exact (f6 c j hc).trans (f5 c j h1 hc)
    · rw [q4, if_neg (by decide)]
      unfold f_X12_means_27
      refine fin I5 t none _ ?_ ?_ h71 f5
      · have e0 : (if kk tb (k + 4) = 2 ∧ 3 < vv tb (k + 4) then 5 else 0) = 0 := if_neg (fun h => by omega)
        rw [eW, e0, wup_0]; exact r5
      · intro h0
        refine ⟨ht h0, ?_⟩
        unfold mAn; rw [if_neg (by omega)]
  have e64 := (Rm_tok h3 (show k + 3 < N from by omega)).1
  simp (disch := omega) only [f_X12_means_20, nt_clamp, nt_le, nt_lt, nt_eq, lit_le, lit_lt, le_lit, lt_lit, eq_lit, lit_eq, nt_neg, nt_ge, nt_add, nt_mul, nt_addl, lit_add, nt_mull, lit_mul, nt_sub, nt_subl, lit_sub, nt_divl, nt_m1, nt_m2, nt_m1', nt_m2', false_or, if_neg, e64]
  rcases q3 with q3 | q3
  · rw [q3, if_pos (by decide)]
    simp only [f_X12_means_21, nt_addl]
    apply ok_bind
    refine (rnamed_ok (J := J3) h3 (show k + 3 < N from by omega) q3 r3 hb3).imp ?_
    rintro ⟨v, I4, J4⟩ ⟨rfl, v4, r4, f4⟩
    dsimp only at v4 r4 f4 ⊢
    subst v4
    have ec : (if (fnd tb N (k + 3)).isSome = true then 0 else 4) = (if kk tb (k + 3) = 1 ∧ (fnd tb N (k + 3)).isSome = false then 4 else 0) := by
      cases e : fnd tb N (k + 3) with
      | none => rw [if_neg (by decide), if_pos ⟨q3, rfl⟩]
      | some s => rw [if_pos (show (some s).isSome = true from rfl), if_neg (fun h => by cases h.2)]
    rw [ec] at r4
    unfold f_X12_means_22
    refine ans I4 (some ((fnd tb N (k + 3)).getD 0)) r4 ?_ f4
    intro h0
    rw [Wt_s, ech] at h0
    obtain ⟨_, wz⟩ := wup_zero tb _ _ h0
    have z3 := wz _ (List.mem_cons_of_mem _ (List.mem_cons_of_mem _ List.mem_cons_self))
    dsimp only at z3
    unfold mTo
    rw [if_pos q3]
    cases e : fnd tb N (k + 3) with
    | some s => rfl
    | none => rw [e, if_pos ⟨q3, rfl⟩] at z3; omega
  · rw [q3, if_neg (by decide)]
    unfold f_X12_means_23
    refine ans I3 none ?_ ?_ (fun _ _ _ => rfl)
    · have e0 : (if kk tb (k + 3) = 1 ∧ (fnd tb N (k + 3)).isSome = false then 4 else 0) = 0 := if_neg (fun h => by omega)
      rw [e0, wup_0]; exact r3
    · intro _
      unfold mTo; rw [if_neg (by omega)]
theorem rk_k : ∀ k, k < 9 → (nt (rk k) = 20 ↔ k = 4) ∧ (nt (rk k) = 21 ↔ k = 5) ∧ (nt (rk k) = 22 ↔ k = 6) ∧ (nt (rk k) = 24 ↔ k = 7) := by decide
theorem means_ok {l N : Nat} {tb : Nat → Nat} {I : xI} {J : xJ} (h : Rm l tb N I J) (h14 : I 61 14 = 0) (h10 : I 61 10 = nt (N + 1)) : Ok (f_X12_means I J) (fun o => o.2.2 = J ∧ RW (Wt tb N N) o.2.1 ∧ ((Wt tb N N).1 = 0 → fMa (At tb N N) (o.2.1 71)) ∧ ∀ c j, ¬ c = 71 → ¬ woReg c j → o.2.1 c j = I c j) := by
  have hW := h.1
  have h400 := hW.2.1
  unfold f_X12_means f_X12_means_0 f_X12_means_1
  refine ok_loop (fun k s => ∃ I1, s = (nt k, I1, J) ∧ (∀ j, j < k → I1 71 j = -2) ∧ ∀ c j, ¬ c = 71 → I1 c j = I c j) 48 ?_ ?_ 5000 0 _ (by omega) (by omega) ⟨I, rfl, fun j hj => absurd hj (by omega), fun _ _ _ => rfl⟩
  · rintro k hk s ⟨I1, rfl, h1, h2⟩
    simp (disch := omega) only [b_X12_means_1, f_X12_means_2, nt_clamp, nt_le, nt_lt, nt_eq, lit_le, lit_lt, le_lit, lt_lit, eq_lit, lit_eq, nt_neg, nt_ge, nt_add, nt_mul, nt_addl, lit_add, nt_mull, lit_mul, nt_sub, nt_subl, lit_sub, nt_divl, nt_m1, nt_m2, nt_m1', nt_m2', if_neg, false_or]
    refine ok_some ⟨_, rfl, ?_, ?_⟩
    · intro j hj
      rw [xup_if]
      by_cases c : j = k
      · rw [if_pos c]
      · rw [if_neg c]; exact h1 j (by omega)
    · intro c j hc
      rw [xup_bj _ _ _ _ _ hc]; exact h2 c j hc
  rintro s ⟨I1, rfl, a1, a2⟩
  simp (disch := omega) only [b_X12_means_1, nt_clamp, nt_le, nt_lt, nt_eq, lit_le, lit_lt, le_lit, lt_lit, eq_lit, lit_eq, nt_neg, nt_ge, nt_add, nt_mul, nt_addl, lit_add, nt_mull, lit_mul, nt_sub, nt_subl, lit_sub, nt_divl, nt_m1, nt_m2, nt_m1', nt_m2', if_pos]
  apply ok_map
  unfold f_X12_means_3 f_X12_means_4
  refine ok_loop (fun k s => ∃ I2, s = (nt k, I2, J) ∧ (∀ j, j < 48 → I2 71 j = -2) ∧ (∀ j, j < k → I2 71 (48 + j) = nt j) ∧ ∀ c j, ¬ c = 71 → I2 c j = I c j) 6 ?_ ?_ 5000 0 _ (by omega) (by omega) ⟨I1, rfl, a1, fun j hj => absurd hj (by omega), a2⟩
  · rintro k hk s ⟨I2, rfl, h1, h2, h3⟩
    simp (disch := omega) only [b_X12_means_4, f_X12_means_5, nt_clamp, nt_le, nt_lt, nt_eq, lit_le, lit_lt, le_lit, lt_lit, eq_lit, lit_eq, nt_neg, nt_ge, nt_add, nt_mul, nt_addl, lit_add, nt_mull, lit_mul, nt_sub, nt_subl, lit_sub, nt_divl, nt_m1, nt_m2, nt_m1', nt_m2', if_neg, false_or]
    refine ok_some ⟨_, rfl, ?_, ?_, ?_⟩
    · intro j hj
      rw [xup_if, if_neg (by omega)]; exact h1 j hj
    · intro j hj
      rw [xup_if]
      by_cases c : j = k
      · rw [if_pos (by omega), c]
      · rw [if_neg (by omega)]; exact h2 j (by omega)
    · intro c j hc
      rw [xup_bj _ _ _ _ _ hc]; exact h3 c j hc
  rintro s ⟨I2, rfl, b1, b2, b3⟩
  simp (disch := omega) only [b_X12_means_4, nt_clamp, nt_le, nt_lt, nt_eq, lit_le, lit_lt, le_lit, lt_lit, eq_lit, lit_eq, nt_neg, nt_ge, nt_add, nt_mul, nt_addl, lit_add, nt_mull, lit_mul, nt_sub, nt_subl, lit_sub, nt_divl, nt_m1, nt_m2, nt_m1', nt_m2', if_pos]
  apply ok_map
  unfold f_X12_means_6 f_X12_means_7
  have hm0 : fMa A0 (I2 71) := by
    refine ⟨fun s x hs hx => b1 _ (by omega), fun s x hs hx => b1 _ (by omega), fun s hs => ?_⟩
    rw [b2 s hs]
    show nt s = nt (if s < 6 then s else 0)
    rw [if_pos hs]
  refine ok_loop (Mi l tb N I J) (N + 1) ?_ ?_ 5000 0 _ (by omega) (by omega) ⟨none, I2, ?_, ?_, ?_, ?_, ?_⟩
  · rintro k hk s ⟨z, I3, rfl, r1, r2, r3, f3⟩
    have h3 : Rm l tb N I3 J := Rm_fr h f3
    have e10 : I3 61 10 = nt (N + 1) := (f3 61 10 (by omega) (by unfold woReg; omega)).trans h10
    simp (disch := omega) only [b_X12_means_7, e10, nt_clamp, nt_le, nt_lt, nt_eq, lit_le, lit_lt, le_lit, lt_lit, eq_lit, lit_eq, nt_neg, nt_ge, nt_add, nt_mul, nt_addl, lit_add, nt_mull, lit_mul, nt_sub, nt_subl, lit_sub, nt_divl, nt_m1, nt_m2, nt_m1', nt_m2', if_neg, f_X12_means_8, false_or]
    by_cases c : k < N
    · rw [show min k N = k from by omega] at r1 r2 r3 ⊢
      have e64 := (Rm_tok h3 c).1
      have hk9 : kk tb k < 9 := kd_lt _ _
      obtain ⟨x4, x5, x6, x7⟩ := rk_k _ hk9
      rw [e64]
      unfold f_X12_means_9
      by_cases c4 : kk tb k = 4
      · rw [if_pos (x4.mpr c4)]
        exact mstate_ok h3 c c4 r1 r2 r3 f3 z
      rw [if_neg (fun h => c4 (x4.mp h))]
      by_cases c5 : kk tb k = 5
      · rw [if_pos (x5.mpr c5)]
        exact minputs_ok h3 c c5 r1 r2 r3 f3 z
      rw [if_neg (fun h => c5 (x5.mp h))]
      by_cases c6 : kk tb k = 6
      · rw [if_pos (x6.mpr c6)]
        exact mmove_ok h3 c c6 r1 r2 r3 f3 z
      rw [if_neg (fun h => c6 (x6.mp h))]
      have skip : ¬ kk tb k = 7 → Ok (f_X12_means_32 (nt (nS tb k)) (nt k) z I3 J) (Sum.elim (Mi l tb N I J (k + 1)) (fun o => o.2.2 = J ∧ RW (Wt tb N N) o.2.1 ∧ ((Wt tb N N).1 = 0 → fMa (At tb N N) (o.2.1 71)) ∧ ∀ c j, ¬ c = 71 → ¬ woReg c j → o.2.1 c j = I c j)) := by
        intro c7
        have eW : Wt tb N (k + 1) = Wt tb N k := by rw [Wt_s, chk_nil ⟨c4, c5, c6, c7⟩]; rfl
        have eA : At tb N (k + 1) = At tb N k := by rw [At_s, if_neg c6, if_neg c7]
        refine mi_of c ?_ z ?_ ?_ ?_ f3
        · unfold nS; rw [SL_s, if_neg (show ¬ kd tb (st tb k) = 4 from c4)]
        · rw [eW]; exact r1
        · rw [eW]; exact fun t ht => r2 t (by omega)
        · rw [eW, eA]; exact r3
      by_cases c7 : kk tb k = 7
      · by_cases c23 : nt (rk (kk tb k)) = 23
        · exfalso
          rw [c7] at c23
          exact absurd c23 (by decide)
        · rw [if_neg c23, if_pos (x7.mpr c7)]
          exact mcode_ok h3 c c7 r1 r2 r3 f3 z
      · by_cases c23 : nt (rk (kk tb k)) = 23
        · rw [if_pos c23]; exact skip c7
        · rw [if_neg c23, if_neg (fun h => c7 (x7.mp h))]; exact skip c7
    · have e : k = N := by omega
      subst e
      rw [Rm_end h3]
      unfold f_X12_means_9
      rw [if_neg (by decide), if_neg (by decide), if_neg (by decide), if_neg (by decide), if_neg (by decide)]
      simp only [f_X12_means_32, nt_addl]
      refine ok_some ⟨z, I3, ?_, ?_, ?_, ?_, f3⟩
      · rw [show min (k + 1) k = min k k from by omega]
      · rw [show min (k + 1) k = min k k from by omega]; exact r1
      · rw [show min (k + 1) k = min k k from by omega]; exact fun t ht => r2 t (by omega)
      · rw [show min (k + 1) k = min k k from by omega]; exact r3
  · rintro s ⟨z, I3, rfl, r1, r2, r3, f3⟩
    have e10 : I3 61 10 = nt (N + 1) := (f3 61 10 (by omega) (by unfold woReg; omega)).trans h10
    rw [show min (N + 1) N = N from by omega] at r1 r2 r3 ⊢
    simp (disch := omega) only [b_X12_means_7, e10, nt_clamp, nt_le, nt_lt, nt_eq, lit_le, lit_lt, le_lit, lt_lit, eq_lit, lit_eq, nt_neg, nt_ge, nt_add, nt_mul, nt_addl, lit_add, nt_mull, lit_mul, nt_sub, nt_subl, lit_sub, nt_divl, nt_m1, nt_m2, nt_m1', nt_m2', if_pos, f_X12_means_33]
    apply ok_map
    exact ok_some ⟨rfl, r1, r3, f3⟩
  · rw [show min 0 N = 0 from by omega]; rfl
  · rw [show min 0 N = 0 from by omega]
    exact ⟨(b3 61 14 (by omega)).trans h14, Nat.zero_le _, fun h => absurd rfl h⟩
  · rw [show min 0 N = 0 from by omega]
    exact fun t _ _ h => absurd rfl h
  · rw [show min 0 N = 0 from by omega]
    exact fun _ => hm0
  · exact fun c j hc _ => b3 c j hc
