/-! the reference's means -/
/-- the state of the loop before token k -/
def Mi (l : Nat) (tb : Nat → Nat) (N : Nat) (I : xI) (J : xJ) (k : Nat) (s : Int32 × Int32 × Option Value × xI × xJ) : Prop := ∃ z I', s = (nt (nS tb (min k N)), nt k, z, I', J) ∧ RW (Wt tb N (min k N)) I' ∧ WB tb k (Wt tb N (min k N)) ∧ ((Wt tb N (min k N)).1 = 0 → fMa (At tb N (min k N)) (I' 71)) ∧ ∀ c j, ¬ c = 71 → ¬ woReg c j → I' c j = I c j
theorem mi_of {l N k : Nat} {tb : Nat → Nat} {I : xI} {J : xJ} {Q : Unit × xI × xJ → Prop} (hk : k < N) {x1 : Nat} (h1 : x1 = nS tb (k + 1)) (z : Option Value) {I' : xI} (hR : RW (Wt tb N (k + 1)) I') (hB : WB tb (k + 1) (Wt tb N (k + 1))) (hM : (Wt tb N (k + 1)).1 = 0 → fMa (At tb N (k + 1)) (I' 71)) (hf : ∀ c j, ¬ c = 71 → ¬ woReg c j → I' c j = I c j) : Ok (f_X12_means_32 (nt x1) (nt k) z I' J) (Sum.elim (Mi l tb N I J (k + 1)) Q) := by
  unfold f_X12_means_32
  rw [nt_addl]
  refine ok_some ⟨z, I', ?_, ?_⟩
  · rw [h1, show min (k + 1) N = k + 1 from by omega]
  · rw [show min (k + 1) N = k + 1 from by omega]
    exact ⟨hR, hB, hM, hf⟩
theorem jln {l N s k : Nat} {tb : Nat → Nat} {I : xI} {J : xJ} (h : Rm l tb N I J) (hs : s < nS tb N) : ∃ v, v < 1000000000000000000 ∧ J 69 s = jl v ∧ nmv tb N s = v := by
  obtain ⟨i, ei, ed⟩ := SL_at hs
  obtain ⟨hi1, hi2⟩ := SL_mem ei
  obtain ⟨hi3, hi4⟩ := Wf_name h.1 hi1 hi2
  exact ⟨_, nm_lt h.1.1 hi4, h.2.2.2.2.1 s i ei, by unfold nmv; rw [ed]⟩
theorem mstate_ok {l N k : Nat} {tb : Nat → Nat} {I I1 : xI} {J : xJ} {Q : Unit × xI × xJ → Prop} (h : Rm l tb N I1 J) (hk : k < N) (c4 : kk tb k = 4) (hR : RW (Wt tb N k) I1) (hB : WB tb k (Wt tb N k)) (hM : (Wt tb N k).1 = 0 → fMa (At tb N k) (I1 71)) (hf : ∀ c j, ¬ c = 71 → ¬ woReg c j → I1 c j = I c j) (z : Option Value) : Ok (f_X12_means_10 (nt (nS tb k)) (nt k) z I1 J) (Sum.elim (Mi l tb N I J (k + 1)) Q) := by
  have hW := h.1
  have h4 := hW.2.1
  have hn6 := Wf_nS hW (Nat.le_refl N)
  have hd := Wf_due hW hk (by omega)
  obtain ⟨p1, p2⟩ := Wf_name hW hk c4
  obtain ⟨o1, o2⟩ := SL_ord hk c4
  have eown := h.2.2.2.2.1 _ _ o1
  have hown := nm_lt hW.1 p2
  have hlt := st_lt tb k
  have ech : chk tb N k = [(if ex (nS tb k) (fun s => decide (nmv tb N s = nm tb (st tb (k + 1)))) = true then 3 else 0, k + 1)] := if_pos c4
  have eW : Wt tb N (k + 1) = wup tb (Wt tb N k) (if ex (nS tb k) (fun s => decide (nmv tb N s = nm tb (st tb (k + 1)))) = true then 3 else 0, k + 1) := by
    rw [Wt_s, ech]; rfl
  have hb1 : ¬ (Wt tb N k).1 = 0 → (Wt tb N k).2 < st tb (k + 1) := fun h0 => Nat.lt_trans (hB k (Nat.le_refl _) hd h0) hlt
  unfold f_X12_means_10 f_X12_means_11
  refine ok_loop (fun s t => ∃ I2, t = (nt (nS tb k), nt k, nt s, I2, J) ∧ RW (wup tb (Wt tb N k) (if ex s (fun s => decide (nmv tb N s = nm tb (st tb (k + 1)))) = true then 3 else 0, k + 1)) I2 ∧ ∀ c j, ¬ woReg c j → I2 c j = I1 c j) (nS tb k) ?_ ?_ 5000 0 _ (by omega) (by omega) ⟨I1, rfl, by rw [show ex 0 (fun s => decide (nmv tb N s = nm tb (st tb (k + 1)))) = false from rfl, if_neg (by decide), wup_0]; exact hR, fun _ _ _ => rfl⟩
  · rintro s hs t ⟨I2, rfl, r2, f2⟩
    have hRm2 : Rm l tb N I2 J := Rm_fr h (fun c j _ hc => f2 c j hc)
    obtain ⟨v, v1, v2, v3⟩ := jln (k := 0) h (show s < nS tb N from by omega)
    simp (disch := omega) only [b_X12_means_11, nt_clamp, nt_le, nt_lt, nt_eq, lit_le, lit_lt, le_lit, lt_lit, eq_lit, lit_eq, nt_neg, nt_ge, nt_add, nt_mul, nt_addl, lit_add, nt_mull, lit_mul, nt_sub, nt_subl, lit_sub, nt_divl, nt_m1, nt_m2, nt_m1', nt_m2', if_neg, f_X12_means_12, false_or, v2, eown, lgc, jl_eq v1 hown]
    have exs : ex (s + 1) (fun s => decide (nmv tb N s = nm tb (st tb (k + 1)))) = (ex s (fun s => decide (nmv tb N s = nm tb (st tb (k + 1)))) || decide (nmv tb N s = nm tb (st tb (k + 1)))) := rfl
    by_cases c : v = nm tb (st tb (k + 1))
    · rw [if_pos c]
      simp only [f_X12_means_13, nt_addl]
      apply ok_bind
      have e1 : ex (s + 1) (fun s => decide (nmv tb N s = nm tb (st tb (k + 1)))) = true := by
        rw [exs, decide_eq_true (show nmv tb N s = nm tb (st tb (k + 1)) from by rw [v3, c]), Bool.or_true]
      have key : Ok (f_X12_wrong 3 (nt (k + 1)) I2 J) (fun o => o.2.2 = J ∧ RW (wup tb (Wt tb N k) (3, k + 1)) o.2.1 ∧ ∀ c j, ¬ woReg c j → o.2.1 c j = I2 c j) := by
        cases eb : ex s (fun s => decide (nmv tb N s = nm tb (st tb (k + 1)))) with
        | false =>
          rw [eb, if_neg (by decide), wup_0] at r2
          exact rwrong_ok (a := 3) hRm2 p1 r2 (fun h0 => Or.inl (hb1 h0)) (by omega) (by omega)
        | true =>
          rw [eb, if_pos rfl] at r2
          have q := rwrong_ok (a := 3) (J := J) hRm2 p1 r2 (fun h0 => by
            by_cases cw : (Wt tb N k).1 = 0
            · rw [show wup tb (Wt tb N k) (3, k + 1) = (3, st tb (k + 1)) from if_pos ⟨cw, (show ¬ (3 : Nat) = 0 from by decide)⟩]
              exact Or.inr ⟨rfl, rfl⟩
            · rw [show wup tb (Wt tb N k) (3, k + 1) = Wt tb N k from if_neg (fun h => cw h.1)]
              exact Or.inl (hb1 cw)) (by omega) (by omega)
          have e : wup tb (wup tb (Wt tb N k) (3, k + 1)) (3, k + 1) = wup tb (Wt tb N k) (3, k + 1) := by
            by_cases cw : (Wt tb N k).1 = 0
            · rw [show wup tb (Wt tb N k) (3, k + 1) = (3, st tb (k + 1)) from if_pos ⟨cw, (show ¬ (3 : Nat) = 0 from by decide)⟩]
              exact if_neg (fun h => absurd h.1 (show ¬ (3 : Nat) = 0 from by decide))
            · rw [show wup tb (Wt tb N k) (3, k + 1) = Wt tb N k from if_neg (fun h => cw h.1)]
              exact if_neg (fun h => cw h.1)
          rw [e] at q
          exact q
      refine key.imp ?_
      rintro ⟨_, I3, J3⟩ ⟨rfl, r3, f3⟩
      simp only [f_X12_means_14, nt_addl]
      refine ok_some ⟨I3, rfl, ?_, fun c j hc => (f3 c j hc).trans (f2 c j hc)⟩
      rw [e1, if_pos rfl]; exact r3
    · rw [if_neg c]
      simp only [f_X12_means_14, nt_addl]
      refine ok_some ⟨I2, rfl, ?_, f2⟩
      rw [exs, decide_eq_false (show ¬ nmv tb N s = nm tb (st tb (k + 1)) from by rw [v3]; exact c), Bool.or_false]
      exact r2
  · rintro t ⟨I2, rfl, r2, f2⟩
    simp (disch := omega) only [b_X12_means_11, nt_clamp, nt_le, nt_lt, nt_eq, lit_le, lit_lt, le_lit, lt_lit, eq_lit, lit_eq, nt_neg, nt_ge, nt_add, nt_mul, nt_addl, lit_add, nt_mull, lit_mul, nt_sub, nt_subl, lit_sub, nt_divl, nt_m1, nt_m2, nt_m1', nt_m2', if_pos, f_X12_means_15]
    apply ok_map
    have es : nS tb k + 1 = nS tb (k + 1) := by
      unfold nS
      rw [SL_s, if_pos (show kd tb (st tb k) = 4 from c4), List.length_append]; rfl
    rw [← eW] at r2
    have eA : At tb N (k + 1) = At tb N k := by rw [At_s, if_neg (by omega), if_neg (by omega)]
    refine (mi_of (Q := Q) (I := I) (l := l) hk es _ r2 ?_ ?_ (fun c j h1 h2 => (f2 c j h2).trans (hf c j h1 h2))).imp (fun t ht => ht)
    · refine WB_line hW hk hd ?_
      intro h0
      rw [eW] at h0 ⊢
      refine Nat.lt_of_lt_of_le (wup_b _ hb1 h0) (st_mono tb ?_)
      rw [c4]; show k + 1 + 1 ≤ k + 1 + 2; omega
    · intro h0
      rw [eA]
      have : (Wt tb N k).1 = 0 := by
        rw [Wt_s] at h0
        exact (wup_zero tb _ _ h0).1
      have e71 : I2 71 = I1 71 := funext fun j => f2 71 j (by unfold woReg; omega)
      rw [e71]; exact hM this
theorem minputs_ok {l N k : Nat} {tb : Nat → Nat} {I I1 : xI} {J : xJ} {Q : Unit × xI × xJ → Prop} (h : Rm l tb N I1 J) (hk : k < N) (c5 : kk tb k = 5) (hR : RW (Wt tb N k) I1) (hB : WB tb k (Wt tb N k)) (hM : (Wt tb N k).1 = 0 → fMa (At tb N k) (I1 71)) (hf : ∀ c j, ¬ c = 71 → ¬ woReg c j → I1 c j = I c j) (z : Option Value) : Ok (f_X12_means_16 (nt (nS tb k)) (nt k) z I1 J) (Sum.elim (Mi l tb N I J (k + 1)) Q) := by
  have hW := h.1
  have hd := Wf_due hW hk (by omega)
  obtain ⟨_, k5, _, _⟩ := Wf_k2 hW hk hd
  obtain ⟨p1, p2⟩ := k5 c5
  have hlt := st_lt tb k
  have ech : chk tb N k = [(if 1 ≤ vv tb (k + 1) ∧ vv tb (k + 1) ≤ 4 then 0 else 5, k + 1)] := by unfold chk; rw [if_neg (by omega), if_pos c5]
  have eW : Wt tb N (k + 1) = wup tb (Wt tb N k) (if 1 ≤ vv tb (k + 1) ∧ vv tb (k + 1) ≤ 4 then 0 else 5, k + 1) := by
    rw [Wt_s, ech]; rfl
  have hb1 : ¬ (Wt tb N k).1 = 0 → (Wt tb N k).2 < st tb (k + 1) := fun h0 => Nat.lt_trans (hB k (Nat.le_refl _) hd h0) hlt
  simp only [f_X12_means_16, nt_addl]
  apply ok_bind
  refine (rbound_ok (a := 1) (b := 4) (J := J) h p1 p2 hR hb1 (by omega) (by omega) rfl).imp ?_
  rintro ⟨v, I2, J2⟩ ⟨rfl, _, r2, f2⟩
  dsimp only at r2 f2 ⊢
  rw [← eW] at r2
  have es : nS tb k = nS tb (k + 1) := by
    unfold nS
    rw [SL_s, if_neg (show ¬ kd tb (st tb k) = 4 from by show ¬ kk tb k = 4; omega)]
  have eA : At tb N (k + 1) = At tb N k := by rw [At_s, if_neg (by omega), if_neg (by omega)]
  unfold f_X12_means_17
  refine mi_of hk es _ r2 ?_ ?_ (fun c j h1 h2 => (f2 c j h2).trans (hf c j h1 h2))
  · refine WB_line hW hk hd ?_
    intro h0
    rw [eW] at h0 ⊢
    refine Nat.lt_of_lt_of_le (wup_b _ hb1 h0) (st_mono tb ?_)
    rw [c5]; show k + 1 + 1 ≤ k + 1 + 2; omega
  · intro h0
    rw [eA]
    have : (Wt tb N k).1 = 0 := by
      rw [Wt_s] at h0
      exact (wup_zero tb _ _ h0).1
    have e71 : I2 71 = I1 71 := funext fun j => f2 71 j (by unfold woReg; omega)
    rw [e71]; exact hM this
theorem fnd_6 {l N k : Nat} {tb : Nat → Nat} (h : Wf l tb N) : (fnd tb N k).getD 0 < 6 := by
  have hn6 := Wf_nS h (Nat.le_refl N)
  cases e : fnd tb N k with
  | none => decide
  | some s => have := fnd_lt e; show s < 6; omega
theorem mcode_ok {l N k : Nat} {tb : Nat → Nat} {I I1 : xI} {J : xJ} {Q : Unit × xI × xJ → Prop} (h : Rm l tb N I1 J) (hk : k < N) (c7 : kk tb k = 7) (hR : RW (Wt tb N k) I1) (hB : WB tb k (Wt tb N k)) (hM : (Wt tb N k).1 = 0 → fMa (At tb N k) (I1 71)) (hf : ∀ c j, ¬ c = 71 → ¬ woReg c j → I1 c j = I c j) (z : Option Value) : Ok (f_X12_means_29 (nt (nS tb k)) (nt k) z I1 J) (Sum.elim (Mi l tb N I J (k + 1)) Q) := by
  have hW := h.1
  have hd := Wf_due hW hk (by omega)
  obtain ⟨_, _, _, k7⟩ := Wf_k2 hW hk hd
  obtain ⟨p2, q1, q2⟩ := k7 c7
  have hlt := st_lt tb k
  have hf6 := fnd_6 (k := k + 1) hW
  have ech : chk tb N k = [(if (fnd tb N (k + 1)).isSome = true then 0 else 4, k + 1), (if vv tb (k + 2) < 8 then 0 else 5, k + 2)] := by unfold chk; rw [if_neg (by omega), if_neg (by omega), if_neg (by omega), if_pos c7]
  have eW : Wt tb N (k + 1) = wup tb (wup tb (Wt tb N k) (if (fnd tb N (k + 1)).isSome = true then 0 else 4, k + 1)) (if vv tb (k + 2) < 8 then 0 else 5, k + 2) := by
    rw [Wt_s, ech]; rfl
  have hb1 : ¬ (Wt tb N k).1 = 0 → (Wt tb N k).2 < st tb (k + 1) := fun h0 => Nat.lt_trans (hB k (Nat.le_refl _) hd h0) hlt
  simp only [f_X12_means_29, nt_addl]
  apply ok_bind
  refine (rnamed_ok (J := J) h (show k + 1 < N from by omega) q1 hR hb1).imp ?_
  rintro ⟨v, I2, J2⟩ ⟨rfl, v1, r2, f2⟩
  dsimp only at v1 r2 f2 ⊢
  subst v1
  have h2 : Rm l tb N I2 J2 := Rm_fr h (fun c j _ hc => f2 c j hc)
  simp only [f_X12_means_30, nt_addl]
  apply ok_bind
  refine (rbound_ok (a := 0) (b := 7) (c := if vv tb (k + 2) < 8 then 0 else 5) (J := J2) h2 p2 q2 r2 (wup_b _ hb1) (by omega) (by omega) (by
    by_cases c : vv tb (k + 2) < 8
    · rw [if_pos c, if_pos (by omega)]
    · rw [if_neg c, if_neg (by omega)])).imp ?_
  rintro ⟨v, I3, J3⟩ ⟨rfl, v2, r3, f3⟩
  dsimp only at v2 r3 f3 ⊢
  subst v2
  have es : nS tb k = nS tb (k + 1) := by
    unfold nS
    rw [SL_s, if_neg (show ¬ kd tb (st tb k) = 4 from by show ¬ kk tb k = 4; omega)]
  simp (disch := omega) only [f_X12_means_31, nt_clamp, nt_le, nt_lt, nt_eq, lit_le, lit_lt, le_lit, lt_lit, eq_lit, lit_eq, nt_neg, nt_ge, nt_add, nt_mul, nt_addl, lit_add, nt_mull, lit_mul, nt_sub, nt_subl, lit_sub, nt_divl, nt_m1, nt_m2, nt_m1', nt_m2', false_or, if_neg]
  rw [← eW] at r3
  refine mi_of hk es _ ?_ ?_ ?_ ?_
  · refine ⟨?_, r3.2.1, fun h0 => ⟨?_, (r3.2.2 h0).2⟩⟩
    · rw [xup_bj _ _ _ _ _ (by omega)]; exact r3.1
    · rw [xup_bj _ _ _ _ _ (by omega)]; exact (r3.2.2 h0).1
  · refine WB_line hW hk hd ?_
    intro h0
    rw [eW] at h0 ⊢
    refine Nat.lt_of_lt_of_le (wup_b _ (wup_b _ hb1) h0) (st_mono tb ?_)
    rw [c7]; show k + 2 + 1 ≤ k + 1 + 3; omega
  · intro h0
    have h00 := h0
    rw [Wt_s] at h00
    obtain ⟨w0, wz⟩ := wup_zero tb _ _ h00
    rw [ech] at wz
    have z2 := wz _ (List.mem_cons_of_mem _ List.mem_cons_self)
    dsimp only at z2
    have hv8 : vv tb (k + 2) < 8 := by
      by_cases c : vv tb (k + 2) < 8
      · exact c
      · rw [if_neg c] at z2; omega
    rw [At_s, if_neg (by omega), if_pos c7]
    refine fMa_code (hM w0) hf6 ?_
    intro j
    rw [xup_if, if_pos (show 0 ≤ vv tb (k + 2) ∧ vv tb (k + 2) ≤ 7 from by omega)]
    split
    · rfl
    · rw [f3 71 j (by unfold woReg; omega), f2 71 j (by unfold woReg; omega)]
  · intro c j h1 hc
    rw [xup_bj _ _ _ _ _ h1]
    exact (f3 c j hc).trans ((f2 c j hc).trans (hf c j h1 hc))
