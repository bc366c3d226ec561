/-! the class takes what it read -/
theorem begin5_ok {n m : Nat} {I : xI} {J : xJ} : Ok (f_X5_begin (nt n) (nt m) I J) (fun o => o.2.2 = J ∧ cMa n m A0 (o.2.1 1 0) (o.2.1 1 1) (o.2.1 2) (o.2.1 3) (o.2.1 4) ∧ o.2.1 1 2 = I 1 2 + 1 ∧ ∀ c j, ¬ (1 ≤ c ∧ c ≤ 4) → o.2.1 c j = I c j) := by
  unfold f_X5_begin f_X5_begin_0
  apply ok_bind
  refine (fill2_ok (I := xup (xup I 1 0 (nt n)) 1 1 (nt m)) (J := J) (-2)).imp ?_
  rintro ⟨_, I1, J1⟩ ⟨rfl, a1, a2⟩
  dsimp only at a1 a2 ⊢
  unfold f_X5_begin_1
  apply ok_bind
  refine (fill3_ok (I := I1) (J := J1) (-2)).imp ?_
  rintro ⟨_, I2, J2⟩ ⟨rfl, b1, b2⟩
  dsimp only at b1 b2 ⊢
  unfold f_X5_begin_2 f_X5_begin_3
  refine ok_loop (fun k s => ∃ I', s = (nt n, nt m, nt k, I', J2) ∧ (∀ j, j < k → I' 4 j = nt j) ∧ ∀ c j, ¬ c = 4 → I' c j = I2 c j) 6 ?_ ?_ 5000 0 _ (by omega) (by omega) ⟨I2, rfl, fun j hj => absurd hj (by omega), fun _ _ _ => rfl⟩
  · rintro k hk s ⟨I', rfl, h1, h2⟩
    simp (disch := omega) only [b_X5_begin_3, f_X5_begin_4, nt_clamp, nt_le, nt_lt, nt_eq, lit_le, lit_lt, le_lit, lt_lit, eq_lit, lit_eq, nt_neg, nt_ge, nt_add, nt_mul, nt_addl, lit_add, nt_mull, lit_mul, nt_sub, nt_subl, lit_sub, nt_divl, nt_m1, nt_m2, nt_m1', nt_m2', if_neg, false_or]
    refine ok_some ⟨_, rfl, ?_, ?_⟩
    · intro j hj
      rw [xup_if]
      by_cases c : j = k
      · rw [if_pos c, c]
      · rw [if_neg c]; exact h1 j (by omega)
    · intro c j hc
      rw [xup_bj _ _ _ _ _ hc]; exact h2 c j hc
  · rintro s ⟨I', rfl, h1, h2⟩
    simp (disch := omega) only [b_X5_begin_3, f_X5_begin_5, nt_clamp, nt_le, nt_lt, nt_eq, lit_le, lit_lt, le_lit, lt_lit, eq_lit, lit_eq, nt_neg, nt_ge, nt_add, nt_mul, nt_addl, lit_add, nt_mull, lit_mul, nt_sub, nt_subl, lit_sub, nt_divl, nt_m1, nt_m2, nt_m1', nt_m2', if_pos]
    apply ok_map
    have g : ∀ c j, ¬ (1 ≤ c ∧ c ≤ 4) → xup I' 1 2 (I' 1 2 + 1) c j = I c j := by
      intro c j hc
      rw [xup_bj _ _ _ _ _ (by omega), h2 c j (by omega), b2 c j (by omega), a2 c j (by omega), xup_bj _ _ _ _ _ (by omega), xup_bj _ _ _ _ _ (by omega)]
    have g12 : I' 1 2 = I 1 2 := by
      rw [h2 1 2 (by omega), b2 1 2 (by omega), a2 1 2 (by omega), xup_j _ _ _ _ (by omega), xup_j _ _ _ _ (by omega)]
    refine ok_some ⟨rfl, ⟨?_, ?_, ?_, ?_, ?_⟩, ?_, g⟩
    · show xup I' 1 2 (I' 1 2 + 1) 1 0 = nt n
      rw [xup_j _ _ _ _ (by omega), h2 1 0 (by omega), b2 1 0 (by omega), a2 1 0 (by omega), xup_j _ _ _ _ (by omega), xup_at]
    · show xup I' 1 2 (I' 1 2 + 1) 1 1 = nt m
      rw [xup_j _ _ _ _ (by omega), h2 1 1 (by omega), b2 1 1 (by omega), a2 1 1 (by omega), xup_at]
    · intro s x hs hx
      show xup I' 1 2 (I' 1 2 + 1) 2 (s * 4 + x) = -2
      rw [xup_bj _ _ _ _ _ (by omega), h2 2 _ (by omega), b2 2 _ (by omega), a1, if_pos (by omega)]
    · intro s x hs hx
      show xup I' 1 2 (I' 1 2 + 1) 3 (s * 4 + x) = -2
      rw [xup_bj _ _ _ _ _ (by omega), h2 3 _ (by omega), b1, if_pos (by omega)]
    · intro s hs
      show xup I' 1 2 (I' 1 2 + 1) 4 s = nt (if s < 6 then s else 0)
      rw [xup_bj _ _ _ _ _ (by omega), h1 s hs, if_pos hs]
    · show xup I' 1 2 (I' 1 2 + 1) 1 2 = I 1 2 + 1
      rw [xup_at, g12]
/-- what no fault says of a line -/
theorem chk6_0 {l N t : Nat} {tb : Nat → Nat} (hW : Wf l tb N) (h0 : (Wt tb N N).1 = 0) (ht : t < N) (hd : due tb t = false) (c6 : kk tb t = 6) : (∃ s, fnd tb N (t + 1) = some s ∧ s < nS tb N) ∧ vv tb (t + 2) < inp tb N ∧ (kk tb (t + 3) = 1 → ∃ s, fnd tb N (t + 3) = some s ∧ s < nS tb N) ∧ (kk tb (t + 4) = 2 → vv tb (t + 4) < 4) := by
  have hz := (Wt_zero N h0 t (by omega)).2 ht
  have ech : chk tb N t = [(if (fnd tb N (t + 1)).isSome = true then 0 else 4, t + 1), (if vv tb (t + 2) < inp tb N then 0 else 5, t + 2), (if kk tb (t + 3) = 1 ∧ (fnd tb N (t + 3)).isSome = false then 4 else 0, t + 3), (if kk tb (t + 4) = 2 ∧ 3 < vv tb (t + 4) then 5 else 0, t + 4)] := by unfold chk; rw [if_neg (by omega), if_neg (by omega), if_pos c6]
  rw [ech] at hz
  have z1 := hz _ (List.mem_cons_self)
  have z2 := hz _ (List.mem_cons_of_mem _ List.mem_cons_self)
  have z3 := hz _ (List.mem_cons_of_mem _ (List.mem_cons_of_mem _ List.mem_cons_self))
  have z4 := hz _ (List.mem_cons_of_mem _ (List.mem_cons_of_mem _ (List.mem_cons_of_mem _ List.mem_cons_self)))
  dsimp only at z1 z2 z3 z4
  refine ⟨?_, ?_, ?_, ?_⟩
  · cases e : fnd tb N (t + 1) with
    | some s => exact ⟨s, rfl, fnd_lt e⟩
    | none => rw [e, if_neg (by decide)] at z1; omega
  · by_cases c : vv tb (t + 2) < inp tb N
    · exact c
    · rw [if_neg c] at z2; omega
  · intro k1
    cases e : fnd tb N (t + 3) with
    | some s => exact ⟨s, rfl, fnd_lt e⟩
    | none => rw [e, if_pos ⟨k1, rfl⟩] at z3; omega
  · intro k2
    by_cases c : 3 < vv tb (t + 4)
    · rw [if_pos ⟨k2, c⟩] at z4; omega
    · omega
theorem chk7_0 {l N t : Nat} {tb : Nat → Nat} (hW : Wf l tb N) (h0 : (Wt tb N N).1 = 0) (ht : t < N) (hd : due tb t = false) (c7 : kk tb t = 7) : (∃ s, fnd tb N (t + 1) = some s ∧ s < nS tb N) ∧ vv tb (t + 2) < 8 := by
  have hz := (Wt_zero N h0 t (by omega)).2 ht
  have ech : chk tb N t = [(if (fnd tb N (t + 1)).isSome = true then 0 else 4, t + 1), (if vv tb (t + 2) < 8 then 0 else 5, t + 2)] := by unfold chk; rw [if_neg (by omega), if_neg (by omega), if_neg (by omega), if_pos c7]
  rw [ech] at hz
  have z1 := hz _ (List.mem_cons_self)
  have z2 := hz _ (List.mem_cons_of_mem _ List.mem_cons_self)
  dsimp only at z1 z2
  refine ⟨?_, ?_⟩
  · cases e : fnd tb N (t + 1) with
    | some s => exact ⟨s, rfl, fnd_lt e⟩
    | none => rw [e, if_neg (by decide)] at z1; omega
  · by_cases c : vv tb (t + 2) < 8
    · exact c
    · rw [if_neg c] at z2; omega
/-- the target and the answer that a line tells -/
def mTo (tb : Nat → Nat) (N t : Nat) : Option Nat := if kk tb (t + 3) = 1 then fnd tb N (t + 3) else none
def mAn (tb : Nat → Nat) (t : Nat) : Option Nat := if kk tb (t + 4) = 2 then some (vv tb (t + 4)) else none
theorem At_V {l N : Nat} {tb : Nat → Nat} (hW : Wf l tb N) (h0 : (Wt tb N N).1 = 0) : ∀ t, t ≤ N → Vd (nS tb N) (inp tb N) (At tb N t) := by
  intro t
  induction t with
  | zero =>
    intro _
    refine ⟨fun s x t h => (by cases h), fun s x t h => (by cases h), fun s => ?_⟩
    show (if s < 6 then s else 0) < 8
    split <;> omega
  | succ t ih =>
    intro ht
    have V := ih (by omega)
    rw [At_s]
    by_cases c6 : kk tb t = 6
    · have hd := Wf_due hW (show t < N from ht) (by omega)
      obtain ⟨⟨s, e1, hs⟩, hx, h3, h4⟩ := chk6_0 hW h0 ht hd c6
      rw [if_pos c6, e1]
      refine Vd_set V hs hx ?_ ?_
      · intro k hk
        by_cases c : kk tb (t + 3) = 1
        · rw [if_pos c] at hk
          obtain ⟨s', e', hs'⟩ := h3 c
          rw [e'] at hk; cases hk; exact hs'
        · rw [if_neg c] at hk; cases hk
      · intro k hk
        by_cases c : kk tb (t + 4) = 2
        · rw [if_pos c] at hk
          cases hk; exact h4 c
        · rw [if_neg c] at hk; cases hk
    · rw [if_neg c6]
      by_cases c7 : kk tb t = 7
      · have hd := Wf_due hW (show t < N from ht) (by omega)
        rw [if_pos c7]
        exact Vd_code V (chk7_0 hW h0 ht hd c7).2
      · rw [if_neg c7]; exact V
theorem apply_ok {l N a : Nat} {tb : Nat → Nat} {I : xI} {J : xJ} (h : Cc l tb N I) (hN : Nm tb N I) (hin : I 30 4 = nt (inp tb N)) (h0 : (Wt tb N N).1 = 0) (ha : I 1 2 = nt a) : Ok (f_X8_apply_1 I J) (fun o => o.2.2 = J ∧ cMa (nS tb N) (inp tb N) (At tb N N) (o.2.1 1 0) (o.2.1 1 1) (o.2.1 2) (o.2.1 3) (o.2.1 4) ∧ (∃ u, u ≤ 400 ∧ o.2.1 1 2 = nt (a + 1 + u)) ∧ ∀ c j, ¬ (1 ≤ c ∧ c ≤ 4) → o.2.1 c j = I c j) := by
  have hW := h.2.2
  have h400 := hW.2.1
  have hn6 := Wf_nS hW (Nat.le_refl N)
  have hir := inp_r tb N
  unfold f_X8_apply_1 f_X8_apply_1_0
  rw [hN.1, hin]
  apply ok_bind
  refine (begin5_ok (n := nS tb N) (m := inp tb N) (I := I) (J := J)).imp ?_
  rintro ⟨_, I1, J1⟩ ⟨rfl, a1, a2, a3⟩
  dsimp only at a1 a2 a3 ⊢
  unfold f_X8_apply_1_1 f_X8_apply_1_2
  refine ok_while (fun s => ∃ (t : Nat) (z3 z4 z5 : Option Value) (I' : xI), s = (nt t, z3, z4, z5, I', J1) ∧ t ≤ N ∧ due tb t = false ∧ cMa (nS tb N) (inp tb N) (At tb N t) (I' 1 0) (I' 1 1) (I' 2) (I' 3) (I' 4) ∧ (∃ u, u ≤ t ∧ I' 1 2 = nt (a + 1 + u)) ∧ ∀ c j, ¬ (1 ≤ c ∧ c ≤ 4) → I' c j = I c j) (fun s => 1000 - s.1.toNatClampNeg) ?_ 5000 _ (by show 1000 - (0 : Int32).toNatClampNeg < 5000; omega) ⟨0, none, none, none, I1, rfl, Nat.zero_le _, rfl, a1, ⟨0, Nat.le_refl _, by rw [a2, ha]; exact nt_add a 1⟩, a3⟩
  rintro s ⟨t, z3, z4, z5, I2, rfl, ht, hd, hM, ⟨u, hu, hag⟩, hf⟩
  dsimp only
  rw [nt_clamp (show t < 2147483648 from by omega)]
  have hC : ∀ I', (∀ c j, ¬ (1 ≤ c ∧ c ≤ 4) → I' c j = I c j) → Cc l tb N I' ∧ Nm tb N I' := fun I' hf => ⟨Cc_fr h (fun c j hc => hf c j (by omega)), ⟨(hf 30 3 (by omega)).trans hN.1, fun s i hs => (hf 31 s (by omega)).trans (hN.2 s i hs)⟩⟩
  obtain ⟨hC2, hN2⟩ := hC I2 hf
  by_cases c : t < N
  · obtain ⟨_, hle, hd2, _⟩ := Wf_line hW c hd
    have e27 : I2 27 t = nt (kk tb t) := (hC2.2.1.2 t c).1
    have hkd : kk tb t < 9 := kd_lt _ _
    obtain ⟨_, k5, k6, k7⟩ := Wf_k2 hW c hd
    have eIn := (Wt_in hW c hd _ (Nat.le_refl _)).2
    -- the end of a line
    have fin : ∀ I3 (x3 : Int32) (z4 z5 : Option Value), cMa (nS tb N) (inp tb N) (At tb N (t + 1)) (I3 1 0) (I3 1 1) (I3 2) (I3 3) (I3 4) → (∃ u, u ≤ t + 1 ∧ I3 1 2 = nt (a + 1 + u)) → (∀ c j, ¬ (1 ≤ c ∧ c ≤ 4) → I3 c j = I c j) → Ok (f_X8_apply_1_20 (nt t) x3 z4 z5 I3 J1) (Sum.elim (fun s' => (∃ (t : Nat) (z3 z4 z5 : Option Value) (I' : xI), s' = (nt t, z3, z4, z5, I', J1) ∧ t ≤ N ∧ due tb t = false ∧ cMa (nS tb N) (inp tb N) (At tb N t) (I' 1 0) (I' 1 1) (I' 2) (I' 3) (I' 4) ∧ (∃ u, u ≤ t ∧ I' 1 2 = nt (a + 1 + u)) ∧ ∀ c j, ¬ (1 ≤ c ∧ c ≤ 4) → I' c j = I c j) ∧ 1000 - s'.1.toNatClampNeg < 1000 - t) (fun o => o.2.2 = J1 ∧ cMa (nS tb N) (inp tb N) (At tb N N) (o.2.1 1 0) (o.2.1 1 1) (o.2.1 2) (o.2.1 3) (o.2.1 4) ∧ (∃ u, u ≤ 400 ∧ o.2.1 1 2 = nt (a + 1 + u)) ∧ ∀ c j, ¬ (1 ≤ c ∧ c ≤ 4) → o.2.1 c j = I c j)) := by
      rintro I3 x3 y4 y5 m3 ⟨v, hv, g3⟩ f3
      have hC3 := (hC I3 f3).1
      simp only [f_X8_apply_1_20, lengthOf_ok hC3 c, Option.bind_some, f_X8_apply_1_21, nt_add]
      refine ok_some ⟨⟨t + 1 + (shp (kk tb t)).length, _, _, _, I3, by rw [← Nat.add_assoc], hle, hd2, ?_, ⟨v, by omega, g3⟩, f3⟩, ?_⟩
      · rw [eIn]; exact m3
      · show 1000 - (nt (t + (1 + (shp (kk tb t)).length))).toNatClampNeg < 1000 - t
        rw [nt_clamp (by omega)]; omega
    simp (disch := omega) only [b_X8_apply_1_2, hC2.2.1.1, nt_clamp, nt_le, nt_lt, nt_eq, lit_le, lit_lt, le_lit, lt_lit, eq_lit, lit_eq, nt_neg, nt_ge, nt_add, nt_mul, nt_addl, lit_add, nt_mull, lit_mul, nt_sub, nt_subl, lit_sub, nt_divl, nt_m1, nt_m2, nt_m1', nt_m2', if_neg, f_X8_apply_1_3, false_or, e27]
    by_cases c6 : kk tb t = 6
    · obtain ⟨p4, q1, q2, q3, q4⟩ := k6 c6
      obtain ⟨⟨s1, e1, hs1⟩, hx, g3, g4⟩ := chk6_0 hW h0 c hd c6
      have hv2 : vv tb (t + 2) < 10000 := tvl_lt hW.1 q2
      rw [if_pos c6]
      have step : ∀ (x4 x5 : Int32) (z5 : Option Value), x4 = ov (mTo tb N t) → x5 = ov (mAn tb t) → Ok (f_X8_apply_1_12 (nt t) (nt (kk tb t)) x4 z5 x5 I2 J1) (Sum.elim (fun s' => (∃ (t : Nat) (z3 z4 z5 : Option Value) (I' : xI), s' = (nt t, z3, z4, z5, I', J1) ∧ t ≤ N ∧ due tb t = false ∧ cMa (nS tb N) (inp tb N) (At tb N t) (I' 1 0) (I' 1 1) (I' 2) (I' 3) (I' 4) ∧ (∃ u, u ≤ t ∧ I' 1 2 = nt (a + 1 + u)) ∧ ∀ c j, ¬ (1 ≤ c ∧ c ≤ 4) → I' c j = I c j) ∧ 1000 - s'.1.toNatClampNeg < 1000 - t) (fun o => o.2.2 = J1 ∧ cMa (nS tb N) (inp tb N) (At tb N N) (o.2.1 1 0) (o.2.1 1 1) (o.2.1 2) (o.2.1 3) (o.2.1 4) ∧ (∃ u, u ≤ 400 ∧ o.2.1 1 2 = nt (a + 1 + u)) ∧ ∀ c j, ¬ (1 ≤ c ∧ c ≤ 4) → o.2.1 c j = I c j)) := by
        intro x4 x5 y5 e4 e5
        simp (disch := omega) only [f_X8_apply_1_12, nt_addl, stateIn_ok hC2 hN2 (show t + 1 < N from by omega) q1, e1, o1_s, Option.bind_some, f_X8_apply_1_13, valueOf_ok hC2 (show t + 2 < N from by omega) q2, f_X8_apply_1_14]
        apply ok_bind
        refine (putMove_ok (n := nS tb N) (m := inp tb N) hn6 hir.2 hM.1 hM.2.1 hs1 hx).imp ?_
        rintro ⟨_, I3, J3⟩ ⟨rfl, r1, r2, r3, r4⟩
        dsimp only at r1 r2 r3 r4 ⊢
        unfold f_X8_apply_1_15
        refine fin I3 _ _ _ ?_ ⟨u + 1, by omega, by rw [r1, hag]; exact nt_add _ 1⟩ ?_
        · rw [At_s, if_pos c6, e1, Option.getD_some]
          exact cMa_set hM (by omega) (by omega) (r4 1 0 (by omega) (by omega) (by omega)) (r4 1 1 (by omega) (by omega) (by omega)) (fun j => by rw [r2, e4]; rfl) (fun j => by rw [r3, e5]; rfl) (funext fun j => r4 4 j (by omega) (by omega) (by omega))
        · intro c' j hc
          exact (r4 c' j (by omega) (by omega) (by omega)).trans (hf c' j hc)
      have step2 : ∀ (x4 : Int32) (z4 : Option Value), x4 = ov (mTo tb N t) → Ok (f_X8_apply_1_8 (nt t) (nt (kk tb t)) z4 z5 x4 I2 J1) (Sum.elim (fun s' => (∃ (t : Nat) (z3 z4 z5 : Option Value) (I' : xI), s' = (nt t, z3, z4, z5, I', J1) ∧ t ≤ N ∧ due tb t = false ∧ cMa (nS tb N) (inp tb N) (At tb N t) (I' 1 0) (I' 1 1) (I' 2) (I' 3) (I' 4) ∧ (∃ u, u ≤ t ∧ I' 1 2 = nt (a + 1 + u)) ∧ ∀ c j, ¬ (1 ≤ c ∧ c ≤ 4) → I' c j = I c j) ∧ 1000 - s'.1.toNatClampNeg < 1000 - t) (fun o => o.2.2 = J1 ∧ cMa (nS tb N) (inp tb N) (At tb N N) (o.2.1 1 0) (o.2.1 1 1) (o.2.1 2) (o.2.1 3) (o.2.1 4) ∧ (∃ u, u ≤ 400 ∧ o.2.1 1 2 = nt (a + 1 + u)) ∧ ∀ c j, ¬ (1 ≤ c ∧ c ≤ 4) → o.2.1 c j = I c j)) := by
        intro x4 y4 e4
        simp (disch := omega) only [f_X8_apply_1_8, nt_addl, isOpen_ok hC2 p4, Option.bind_some, f_X8_apply_1_9, bi_0]
        rcases q4 with q4 | q4
        · rw [decide_eq_false (show ¬ kk tb (t + 4) = 8 from by omega), if_pos rfl]
          simp (disch := omega) only [f_X8_apply_1_11, nt_addl, valueOf_ok hC2 p4 q4, Option.bind_some]
          exact step x4 _ z5 e4 (by unfold mAn; rw [if_pos q4]; rfl)
        · rw [decide_eq_true q4, if_neg (by decide)]
          exact step x4 _ z5 e4 (by unfold mAn; rw [if_neg (by omega)]; rfl)
      simp (disch := omega) only [f_X8_apply_1_4, nt_addl, isOpen_ok hC2 (show t + 3 < N from by omega), Option.bind_some, f_X8_apply_1_5, bi_0]
      rcases q3 with q3 | q3
      · obtain ⟨s3, e3, hs3⟩ := g3 q3
        rw [decide_eq_false (show ¬ kk tb (t + 3) = 8 from by omega), if_pos rfl]
        simp (disch := omega) only [f_X8_apply_1_7, nt_addl, stateIn_ok hC2 hN2 (show t + 3 < N from by omega) q3, Option.bind_some]
        exact step2 _ z4 (by unfold mTo; rw [if_pos q3, e3]; rfl)
      · rw [decide_eq_true q3, if_neg (by decide)]
        exact step2 _ z4 (by unfold mTo; rw [if_neg (by omega)]; rfl)
    · rw [if_neg c6]
      simp (disch := omega) only [f_X8_apply_1_16, nt_clamp, nt_le, nt_lt, nt_eq, lit_le, lit_lt, le_lit, lt_lit, eq_lit, lit_eq, nt_neg, nt_ge, nt_add, nt_mul, nt_addl, lit_add, nt_mull, lit_mul, nt_sub, nt_subl, lit_sub, nt_divl, nt_m1, nt_m2, nt_m1', nt_m2']
      by_cases c7 : kk tb t = 7
      · obtain ⟨p2, q1, q2⟩ := k7 c7
        obtain ⟨⟨s1, e1, hs1⟩, hx⟩ := chk7_0 hW h0 c hd c7
        rw [if_pos c7]
        simp (disch := omega) only [f_X8_apply_1_17, nt_addl, stateIn_ok hC2 hN2 (show t + 1 < N from by omega) q1, e1, o1_s, Option.bind_some, f_X8_apply_1_18, valueOf_ok hC2 p2 q2, f_X8_apply_1_19, putCode_ok hn6 hM.1 hs1]
        refine fin _ _ _ _ ?_ ⟨u, by omega, ?_⟩ ?_
        · rw [At_s, if_neg c6, if_pos c7, e1, Option.getD_some]
          exact cMa_code hM (xup_bj _ _ _ _ _ (by omega)) (xup_bj _ _ _ _ _ (by omega)) (xup_b _ _ _ _ (by omega)) (xup_b _ _ _ _ (by omega)) (fun j => xup_if _ _ _ _ _)
        · rw [xup_bj _ _ _ _ _ (by omega)]; exact hag
        · intro c' j hc
          rw [xup_bj _ _ _ _ _ (by omega)]; exact hf c' j hc
      · rw [if_neg c7]
        refine fin _ _ _ _ ?_ ⟨u, by omega, hag⟩ hf
        rw [At_s, if_neg c6, if_neg c7]; exact hM
  · have e : t = N := by omega
    subst e
    simp (disch := omega) only [b_X8_apply_1_2, hC2.2.1.1, nt_clamp, nt_le, nt_lt, nt_eq, lit_le, lit_lt, le_lit, lt_lit, eq_lit, lit_eq, nt_neg, nt_ge, nt_add, nt_mul, nt_addl, lit_add, nt_mull, lit_mul, nt_sub, nt_subl, lit_sub, nt_divl, nt_m1, nt_m2, nt_m1', nt_m2', if_pos, f_X8_apply_1_22]
    apply ok_map
    exact ok_some ⟨rfl, hM, ⟨u, by omega, hag⟩, hf⟩
theorem emptyS_ok {I : xI} {J : xJ} : Ok (f_X4_emptySlots I J) (fun o => o.2.2 = J ∧ (∀ j, j < 3 → o.2.1 11 j = 0) ∧ ∀ c j, ¬ c = 11 → o.2.1 c j = I c j) := by
  unfold f_X4_emptySlots f_X4_emptySlots_0 f_X4_emptySlots_1
  refine ok_loop (fun k s => ∃ I', s = (nt k, I', J) ∧ (∀ j, j < k → I' 11 j = 0) ∧ ∀ c j, ¬ c = 11 → I' c j = I c j) 3 ?_ ?_ 5000 0 _ (by omega) (by omega) ⟨I, rfl, fun j hj => absurd hj (by omega), fun _ _ _ => rfl⟩
  · rintro k hk s ⟨I', rfl, h1, h2⟩
    simp (disch := omega) only [b_X4_emptySlots_1, f_X4_emptySlots_2, nt_clamp, nt_le, nt_lt, nt_eq, lit_le, lit_lt, le_lit, lt_lit, eq_lit, lit_eq, nt_neg, nt_ge, nt_add, nt_mul, nt_addl, lit_add, nt_mull, lit_mul, nt_sub, nt_subl, lit_sub, nt_divl, nt_m1, nt_m2, nt_m1', nt_m2', if_neg, false_or]
    refine ok_some ⟨_, rfl, ?_, ?_⟩
    · intro j hj
      rw [xup_if]
      by_cases c : j = k
      · rw [if_pos c]
      · rw [if_neg c]; exact h1 j (by omega)
    · intro c j hc
      rw [xup_bj _ _ _ _ _ hc]; exact h2 c j hc
  · rintro s ⟨I', rfl, h1, h2⟩
    simp (disch := omega) only [b_X4_emptySlots_1, f_X4_emptySlots_3, nt_clamp, nt_le, nt_lt, nt_eq, lit_le, lit_lt, le_lit, lt_lit, eq_lit, lit_eq, nt_neg, nt_ge, nt_add, nt_mul, nt_addl, lit_add, nt_mull, lit_mul, nt_sub, nt_subl, lit_sub, nt_divl, nt_m1, nt_m2, nt_m1', nt_m2', if_pos]
    apply ok_map
    exact ok_some ⟨rfl, h1, h2⟩
/-- what read leaves of the class -/
theorem cread_ok {l a : Nat} {tb : Nat → Nat} {I : xI} {J : xJ} (h : Tp l tb I) (ha : I 1 2 = nt a) : Ok (f_X11_read I J) (fun o => o.2.2 = J ∧ o.1 = nt (fno l tb) ∧ o.2.1 0 11 = plc l tb ∧ o.2.1 24 1 = 0 ∧ (fno l tb = 0 → Wf l tb (sK l tb) ∧ (Wt tb (sK l tb) (sK l tb)).1 = 0 ∧ cMa (nS tb (sK l tb)) (inp tb (sK l tb)) (At tb (sK l tb) (sK l tb)) (o.2.1 1 0) (o.2.1 1 1) (o.2.1 2) (o.2.1 3) (o.2.1 4) ∧ (∃ u, u ≤ 400 ∧ o.2.1 1 2 = nt (a + 1 + u)) ∧ o.2.1 5 6 = 0 ∧ (∀ j, j < 3 → o.2.1 11 j = 0)) ∧ (¬ fno l tb = 0 → ∀ c j, (1 ≤ c ∧ c ≤ 4) ∨ (c = 5 ∧ j = 6) ∨ c = 11 → o.2.1 c j = I c j) ∧ ∀ c j, ¬ (26 ≤ c ∧ c ≤ 31) → ¬ (1 ≤ c ∧ c ≤ 4) → ¬ (c = 5 ∧ j = 6) → ¬ c = 11 → ¬ (c = 0 ∧ j = 11) → ¬ (c = 24 ∧ j = 1) → o.2.1 c j = I c j) := by
  unfold f_X11_read f_X11_read_0
  apply ok_bind
  refine (check_ok h).imp ?_
  rintro ⟨v, I1, J1⟩ ⟨rfl, a1, a2, a3, a4⟩
  dsimp only at a1 a2 a3 a4 ⊢
  subst a1
  have hfl : fno l tb ≤ 5 ∧ (fno l tb = 0 → sF l tb = 0 ∧ (Wt tb (sK l tb) (sK l tb)).1 = 0) := by
    have h2 := sF_le l tb
    unfold fno
    by_cases c : sF l tb = 0
    · rw [if_pos c]
      refine ⟨?_, fun h => ⟨c, h⟩⟩
      have key : ∀ t, (Wt tb (sK l tb) t).1 ≤ 5 := by
        intro t
        induction t with
        | zero => exact Nat.zero_le _
        | succ t ih =>
          rw [Wt_s]
          have g : ∀ (cs : List (Nat × Nat)) (w : Nat × Nat), w.1 ≤ 5 → (∀ c, c ∈ cs → c.1 ≤ 5) → (cs.foldl (wup tb) w).1 ≤ 5 := by
            intro cs
            induction cs with
            | nil => intro w hw _; exact hw
            | cons c cs ih =>
              intro w hw hc
              rw [List.foldl_cons]
              refine ih _ ?_ (fun d hd => hc d (List.mem_cons_of_mem _ hd))
              unfold wup
              split
              · exact hc c List.mem_cons_self
              · exact hw
          refine g _ _ ih ?_
          intro c hc
          unfold chk at hc
          by_cases c4 : kk tb t = 4
          · rw [if_pos c4] at hc
            rcases List.mem_cons.mp hc with rfl | hc
            · dsimp only; split <;> omega
            · cases hc
          rw [if_neg c4] at hc
          by_cases c5 : kk tb t = 5
          · rw [if_pos c5] at hc
            rcases List.mem_cons.mp hc with rfl | hc
            · dsimp only; split <;> omega
            · cases hc
          rw [if_neg c5] at hc
          by_cases c6 : kk tb t = 6
          · rw [if_pos c6] at hc
            rcases List.mem_cons.mp hc with rfl | hc
            · dsimp only; split <;> omega
            rcases List.mem_cons.mp hc with rfl | hc
            · dsimp only; split <;> omega
            rcases List.mem_cons.mp hc with rfl | hc
            · dsimp only; split <;> omega
            rcases List.mem_cons.mp hc with rfl | hc
            · dsimp only; split <;> omega
            · cases hc
          rw [if_neg c6] at hc
          by_cases c7 : kk tb t = 7
          · rw [if_pos c7] at hc
            rcases List.mem_cons.mp hc with rfl | hc
            · dsimp only; split <;> omega
            rcases List.mem_cons.mp hc with rfl | hc
            · dsimp only; split <;> omega
            · cases hc
          rw [if_neg c7] at hc
          cases hc
      exact key _
    · rw [if_neg c]; exact ⟨by omega, fun h => absurd h c⟩
  unfold f_X11_read_1
  by_cases c0 : fno l tb = 0
  · obtain ⟨b1, b2, b3⟩ := a3 c0
    rw [if_pos (by rw [c0]; rfl)]
    unfold f_X11_read_2
    apply ok_bind
    have f0 : ∀ c j, ¬ c = 0 → xup I1 0 11 (I1 30 6) c j = I1 c j := fun c j hc => xup_bj _ _ _ _ _ hc
    have e0 : xup I1 0 11 (I1 30 6) 0 11 = plc l tb := by rw [xup_at, a2]
    have f00 : ∀ j, ¬ j = 11 → xup I1 0 11 (I1 30 6) 0 j = I1 0 j := fun j hj => xup_j _ _ _ _ hj
    generalize xup I1 0 11 (I1 30 6) = I2 at f0 e0 f00 ⊢
    refine (apply_ok (a := a) (l := l) (tb := tb) (N := sK l tb) (Cc_fr b1 (fun c j hc => f0 c j (by omega))) ⟨(f0 30 3 (by omega)).trans b2.1, fun s i hs => (f0 31 s (by omega)).trans (b2.2 s i hs)⟩ ((f0 30 4 (by omega)).trans b3) (hfl.2 c0).2 ((f0 1 2 (by omega)).trans ((a4 1 2 (by omega)).trans ha))).imp ?_
    rintro ⟨_, I3, J3⟩ ⟨rfl, d1, d2, d3⟩
    dsimp only at d1 d2 d3 ⊢
    simp only [f_X11_read_3, f_X4_forgetDeeds, f_X4_forgetDeeds_0, Option.bind_some, f_X11_read_4]
    apply ok_bind
    refine (emptyS_ok (I := xup I3 5 6 0) (J := J3)).imp ?_
    rintro ⟨_, I4, J4⟩ ⟨rfl, g1, g2⟩
    dsimp only at g1 g2 ⊢
    have e4 : ∀ c j, ¬ c = 11 → ¬ c = 24 → ¬ c = 5 → xup I4 24 1 0 c j = I3 c j := by
      intro c j h1 h2 h3
      rw [xup_bj _ _ _ _ _ h2, g2 c j h1, xup_bj _ _ _ _ _ h3]
    refine ok_some ⟨rfl, rfl, ?_, (show xup I4 24 1 0 24 1 = 0 from xup_at _ _ _ _), ?_, ?_, ?_⟩
    · show xup I4 24 1 0 0 11 = _
      rw [e4 _ _ (by omega) (by omega) (by omega), d3 _ _ (by omega), e0]
    · intro _
      refine ⟨b1.2.2, (hfl.2 c0).2, cMa_fr d1 (fun c j h1 h2 => e4 c j (by omega) (by omega) (by omega)), ?_, ?_, ?_⟩
      · obtain ⟨u, hu, e⟩ := d2
        exact ⟨u, hu, (e4 1 2 (by omega) (by omega) (by omega)).trans e⟩
      · show xup I4 24 1 0 5 6 = 0
        rw [xup_bj _ _ _ _ _ (by omega), g2 _ _ (by omega), xup_at]
      · intro j hj
        show xup I4 24 1 0 11 j = 0
        rw [xup_bj _ _ _ _ _ (by omega), g1 j hj]
    · exact fun h => absurd c0 h
    · intro c j h1 h2 h3 h4 h5 h6
      show xup I4 24 1 0 c j = I c j
      have e1 : I3 c j = I c j := by
        rw [d3 c j h2]
        by_cases cz : c = 0
        · rw [cz, f00 j (by omega)]; exact a4 0 j (by omega)
        · rw [f0 c j cz]; exact a4 c j h1
      have e2 : xup I3 5 6 0 c j = I3 c j := xup_no _ _ _ _ (by omega)
      rw [xup_no _ _ _ _ (by omega), g2 c j h4, e2, e1]
  · rw [if_neg (by rw [show (0 : Int32) = nt 0 from rfl, nt_eq (by omega) (by omega)]; exact c0)]
    have e4 : ∀ c j, ¬ (c = 24 ∧ j = 1) → ¬ (c = 0 ∧ j = 11) → xup (xup I1 0 11 (I1 30 6)) 24 1 0 c j = I1 c j := by
      intro c j h1 h2
      rw [xup_no _ _ _ _ (by omega), xup_no _ _ _ _ (by omega)]
    unfold f_X11_read_5
    refine ok_some ⟨rfl, rfl, ?_, (show xup (xup I1 0 11 (I1 30 6)) 24 1 0 24 1 = 0 from xup_at _ _ _ _), fun h => absurd h c0, ?_, ?_⟩
    · show xup (xup I1 0 11 (I1 30 6)) 24 1 0 0 11 = _
      rw [xup_bj _ _ _ _ _ (by omega), xup_at, a2]
    · intro _ c j hc
      exact (e4 c j (by omega) (by omega)).trans (a4 c j (by omega))
    · intro c j h1 h2 h3 h4 h5 h6
      exact (e4 c j h6 h5).trans (a4 c j h1)
