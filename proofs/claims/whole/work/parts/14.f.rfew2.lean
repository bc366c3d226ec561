/-! the reference's fewest, found -/
theorem sub1_nt {n : Nat} (hn : n ≤ 6) : nt (2 ^ n) - 1 = nt (2 ^ n - 1) := nt_sub (b := 1) (pow_pos2 n)
theorem getD_of {C : List Nat} {i x : Nat} (h : C[i]? = some x) : C.getD i 0 = x := by
  rw [List.getD_eq_getElem?_getD, h]; rfl
theorem getD_Ls {C : List Nat} {c : Nat → Int32} (h : Ls C c) {i : Nat} (hi : i < C.length) : c i = nt (C.getD i 0) := by
  have e : C[i]? = some C[i] := List.getElem?_eq_getElem hi
  rw [getD_of e]; exact h i _ e
theorem hc4_ok {n m k : Nat} {w : aT} {I : xI} {J : xJ} {C : List Nat} {p : Nat → Nat} (hk : k ≤ 6) (hC : C.length ≤ 63) (h37 : I 61 37 = nt k) (hL : Ls C (I 77)) (hp : Pk C.length k p) (h80 : ∀ j, j < k → I 80 j = nt (p j)) {Q : (((Option Value) × (Option Value) × xI × xJ) ⊕ (Int32 × xI × xJ)) → Prop} (hQ : ∀ I', (∀ j, j < k → I' 79 j = cst C p j) → (∀ c j, ¬ c = 79 → I' c j = I c j) → Ok (f_X12_hasCover_6 (orf k (cst C p)) (nt k) I' J) Q) : Ok (f_X12_hasCover_4 0 0 I J) Q := by
  unfold f_X12_hasCover_4
  refine ok_loop (fun i s => ∃ I', s = (orf i (cst C p), nt i, I', J) ∧ (∀ j, j < i → I' 79 j = cst C p j) ∧ ∀ c j, ¬ c = 79 → I' c j = I c j) k ?_ ?_ 5000 0 _ (by omega) (by omega) ⟨I, rfl, fun j hj => absurd hj (by omega), fun _ _ _ => rfl⟩
  · rintro i hi s ⟨I', rfl, g1, g2⟩
    have hb := hp.1 i hi
    have e37 : I' 61 37 = nt k := (g2 61 37 (by omega)).trans h37
    have e80 : I' 80 i = nt (p i) := (g2 80 i (by omega)).trans (h80 i hi)
    have e77 : I' 77 (p i) = cst C p i := (g2 77 (p i) (by omega)).trans (getD_Ls hL hb)
    simp (disch := omega) only [b_X12_hasCover_4, f_X12_hasCover_5, e37, e80, nt_clamp, nt_le, nt_lt, nt_eq, lit_le, lit_lt, le_lit, lt_lit, eq_lit, lit_eq, nt_neg, nt_ge, nt_add, nt_mul, nt_addl, lit_add, nt_mull, lit_mul, nt_sub, nt_subl, lit_sub, nt_divl, nt_m1, nt_m2, nt_m1', nt_m2', false_or, if_neg, e77, xup_at]
    refine ok_some ⟨_, rfl, ?_, ?_⟩
    · intro j hj
      rw [xup_if]
      by_cases c : j = i
      · rw [if_pos c, c]
      · rw [if_neg c]; exact g1 j (by omega)
    · intro c j hc
      rw [xup_bj _ _ _ _ _ hc, g2 c j hc]
  · rintro s ⟨I', rfl, g1, g2⟩
    have e37 : I' 61 37 = nt k := (g2 61 37 (by omega)).trans h37
    simp (disch := omega) only [b_X12_hasCover_4, e37, nt_clamp, nt_le, nt_lt, nt_eq, lit_le, lit_lt, le_lit, lt_lit, eq_lit, lit_eq, nt_neg, nt_ge, nt_add, nt_mul, nt_addl, lit_add, nt_mull, lit_mul, nt_sub, nt_subl, lit_sub, nt_divl, nt_m1, nt_m2, nt_m1', nt_m2', if_pos]
    apply ok_map
    exact hQ I' g1 g2
theorem hasCover_ok {n m k : Nat} {w : aT} {I : xI} {J : xJ} (hn : n ≤ 6) (hm : m ≤ 4) (hk : k ≤ 6) (V : Vd n m w) (h0 : I 61 17 = nt n) (h1 : I 61 18 = nt m) (h : rMa n m w (I 70) 0) (h33 : I 61 33 = nt (cls n m w).length) (hL : Ls (cls n m w) (I 77)) (h37 : I 61 37 = nt k) : Ok (f_X12_hasCover I J) (fun o => o.2.2 = J ∧ (∀ c j, ¬ c = 79 → ¬ c = 80 → o.2.1 c j = I c j) ∧ ((o.1 = 1 ∧ ∃ p, LL (cls n m w).length k (cvr n m w (cls n m w) k) p ∧ ∀ i, i < k → o.2.1 79 i = cst (cls n m w) p i) ∨ (o.1 = 0 ∧ ∀ r, Pk (cls n m w).length k r → ¬ cvr n m w (cls n m w) k r))) := by
  have hlen : (cls n m w).length ≤ 63 := cls_len hn
  have h64 := pow_le hn
  have hpp := pow_pos2 n
  simp (disch := omega) only [f_X12_hasCover, f_X12_hasCover_0, h37, h33, nt_clamp, nt_le, nt_lt, nt_eq, lit_le, lit_lt, le_lit, lt_lit, eq_lit, lit_eq, nt_neg, nt_ge, nt_add, nt_mul, nt_addl, lit_add, nt_mull, lit_mul, nt_sub, nt_subl, lit_sub, nt_divl, nt_m1, nt_m2, nt_m1', nt_m2']
  by_cases hkN : k ≤ (cls n m w).length
  · rw [if_pos hkN]
    simp only [f_X12_hasCover_2, h37]
    apply ok_bind
    refine (firstPick_ok (by omega)).imp ?_
    rintro ⟨_, I1, J1⟩ ⟨rfl, a1, a2⟩
    dsimp only at a1 a2 ⊢
    unfold f_X12_hasCover_3
    refine ok_while (fun s => ∃ z1 z2 I' p, s = (z1, z2, I', J1) ∧ Pk (cls n m w).length k p ∧ (∀ j, j < k → I' 80 j = nt (p j)) ∧ (∀ r, Pk (cls n m w).length k r → lx k r p → ¬ cvr n m w (cls n m w) k r) ∧ ∀ c j, ¬ c = 79 → ¬ c = 80 → I' c j = I c j) (fun s => 1000000000000 - vl k (fun i => (s.2.2.1 80 i).toNatClampNeg)) ?_ 10000000000000 _ (by dsimp only; omega) ⟨none, none, I1, fun i => i, rfl, fp_pk hkN, a1, fun r hr hl => absurd hl (fp_least hr), fun c j _ hc => a2 c j hc⟩
    rintro s ⟨z1, z2, I', p, rfl, hp, g1, g2, g3⟩
    have c77 : I' 77 = I 77 := funext fun j => g3 77 j (by omega) (by omega)
    have hL' : Ls (cls n m w) (I' 77) := by rw [c77]; exact hL
    have e37 : I' 61 37 = nt k := (g3 61 37 (by omega) (by omega)).trans h37
    unfold b_X12_hasCover_3
    refine hc4_ok (n := n) (m := m) (w := w) hk hlen e37 hL' hp g1 ?_
    intro I2 q1 q2
    have e17 : I2 61 17 = nt n := ((q2 61 17 (by omega)).trans (g3 61 17 (by omega) (by omega))).trans h0
    have e18 : I2 61 18 = nt m := ((q2 61 18 (by omega)).trans (g3 61 18 (by omega) (by omega))).trans h1
    have f37 : I2 61 37 = nt k := (q2 61 37 (by omega)).trans e37
    have f33 : I2 61 33 = nt (cls n m w).length := ((q2 61 33 (by omega)).trans (g3 61 33 (by omega) (by omega))).trans h33
    have c70 : I2 70 = I 70 := funext fun j => (q2 70 j (by omega)).trans (g3 70 j (by omega) (by omega))
    have hM2 : rMa n m w (I2 70) 0 := by rw [c70]; exact h
    have h80 : ∀ j, j < k → I2 80 j = nt (p j) := fun j hj => (q2 80 j (by omega)).trans (g1 j hj)
    have fr2 : ∀ c j, ¬ c = 79 → ¬ c = 80 → I2 c j = I c j := fun c j c1 c2 => (q2 c j c1).trans (g3 c j c1 c2)
    have goOn : ∀ x1 x2, ¬ cvr n m w (cls n m w) k p → Ok (f_X12_hasCover_10 x1 x2 I2 J1) (Sum.elim (fun s' => (∃ z1 z2 I' p, s' = (z1, z2, I', J1) ∧ Pk (cls n m w).length k p ∧ (∀ j, j < k → I' 80 j = nt (p j)) ∧ (∀ r, Pk (cls n m w).length k r → lx k r p → ¬ cvr n m w (cls n m w) k r) ∧ ∀ c j, ¬ c = 79 → ¬ c = 80 → I' c j = I c j) ∧ 1000000000000 - vl k (fun i => (s'.2.2.1 80 i).toNatClampNeg) < 1000000000000 - vl k (fun i => (I' 80 i).toNatClampNeg)) (fun o => o.2.2 = J1 ∧ (∀ c j, ¬ c = 79 → ¬ c = 80 → o.2.1 c j = I c j) ∧ ((o.1 = 1 ∧ ∃ p, LL (cls n m w).length k (cvr n m w (cls n m w) k) p ∧ ∀ i, i < k → o.2.1 79 i = cst (cls n m w) p i) ∨ (o.1 = 0 ∧ ∀ r, Pk (cls n m w).length k r → ¬ cvr n m w (cls n m w) k r)))) := by
      intro x1 x2 hno
      simp only [f_X12_hasCover_10, f37, f33]
      apply ok_bind
      refine (nextPick_ok (by omega) (by omega) hp h80).imp ?_
      rintro ⟨b, I3, J3⟩ ⟨rfl, b1, b2⟩
      dsimp only at b1 b2 ⊢
      rcases b2 with ⟨rfl, q, hq, b3, b4, b5⟩ | ⟨rfl, b3⟩
      · simp only [f_X12_hasCover_11, e10, if_false]
        refine ok_some ⟨⟨_, _, I3, q, rfl, hq, b3, ?_, fun c j c1 c2 => (b1 c j c2).trans (fr2 c j c1 c2)⟩, ?_⟩
        · intro r hr hl
          rcases lx_tri k r p with c | c | c
          · exact g2 r hr c
          · exact absurd hl (b5 r hr c)
          · exact fun hcv => hno (cvr_congr c hcv)
        · dsimp only
          have v1 : vl k (fun i => (I3 80 i).toNatClampNeg) = vl k q := vl_congr fun i hi => by
            have := hq.1 i hi
            rw [b3 i hi, nt_clamp (by omega)]
          have v2 : vl k (fun i => (I' 80 i).toNatClampNeg) = vl k p := vl_congr fun i hi => by
            have := hp.1 i hi
            rw [g1 i hi, nt_clamp (by omega)]
          have v3 : vl k p < vl k q := vl_lt (fun i hi => by have := hp.1 i hi; omega) b4
          have v4 : vl k q < 64 ^ k := vl_max (fun i hi => by have := hq.1 i hi; omega)
          have v5 : 64 ^ k ≤ 64 ^ 6 := Nat.pow_le_pow_right (by omega) hk
          have v6 : (64 : Nat) ^ 6 = 68719476736 := by decide
          rw [v1, v2]
          omega
      · simp only [f_X12_hasCover_11, if_true, f_X12_hasCover_12, Option.map_some]
        refine ok_some ⟨rfl, fun c j c1 c2 => (b1 c j c2).trans (fr2 c j c1 c2), Or.inr ⟨rfl, ?_⟩⟩
        intro r hr
        rcases lx_tri k r p with c | c | c
        · exact g2 r hr c
        · exact absurd c (b3 r hr)
        · exact fun hcv => hno (cvr_congr c hcv)
    simp (disch := omega) only [f_X12_hasCover_6, e17, nt_31, shl_nt, sub1_nt hn]
    by_cases hall : orf k (cst (cls n m w) p) = nt (2 ^ n - 1)
    · rw [if_pos hall]
      simp only [f_X12_hasCover_7, isCover_ok hn hm hk V e17 e18 hM2 f37, Option.bind_some, f_X12_hasCover_8, bi_0]
      have ecv : cvb n m w k (I2 79) = cvb n m w k (cst (cls n m w) p) := cvb_congr q1
      rw [ecv]
      cases hcv : cvb n m w k (cst (cls n m w) p) with
      | false =>
        rw [if_pos rfl]
        exact goOn _ _ (fun hh => by rw [hh.2] at hcv; cases hcv)
      | true =>
        rw [if_neg (by decide)]
        simp only [f_X12_hasCover_9, Option.map_some]
        refine ok_some ⟨rfl, fr2, Or.inl ⟨rfl, p, ⟨hp, ⟨hall, hcv⟩, ?_⟩, q1⟩⟩
        intro r hr hc hl
        exact g2 r hr hl hc
    · rw [if_neg hall]
      exact goOn _ _ (fun hh => hall hh.1)
  · rw [if_neg hkN]
    refine ok_some ⟨rfl, fun _ _ _ _ => rfl, Or.inr ⟨rfl, ?_⟩⟩
    intro r hr
    rcases k with _ | k
    · omega
    · have := Pk_max hr (show 0 < k + 1 from by omega)
      omega
theorem laysFewest_ok {n m : Nat} {w : aT} {I : xI} {J : xJ} (hn : n ≤ 6) (hm : m ≤ 4) (V : Vd n m w) (h0 : I 61 17 = nt n) (h1 : I 61 18 = nt m) (h : rMa n m w (I 70) 0) (h33 : I 61 33 = nt (cls n m w).length) (hL : Ls (cls n m w) (I 77)) : Ok (f_X12_laysFewest I J) (fun o => o.2.2 = J ∧ (∀ c j, ¬ c = 79 → ¬ c = 80 → ¬ (c = 61 ∧ j = 37) → o.2.1 c j = I c j) ∧ ∃ k p, k ≤ n ∧ Fw n m w k p ∧ o.2.1 61 37 = nt k ∧ ∀ i, i < k → o.2.1 79 i = cst (cls n m w) p i) := by
  unfold f_X12_laysFewest f_X12_laysFewest_0 f_X12_laysFewest_1
  have one : ∀ k s, (k ≤ n ∧ ∃ I', s = (I', J) ∧ I' 61 37 = nt k ∧ (∀ k', k' < k → ∀ r, Pk (cls n m w).length k' r → ¬ cvr n m w (cls n m w) k' r) ∧ ∀ c j, ¬ c = 79 → ¬ c = 80 → ¬ (c = 61 ∧ j = 37) → I' c j = I c j) → Ok (b_X12_laysFewest_1 s.1 s.2) (Sum.elim (fun s => k + 1 ≤ n ∧ ∃ I', s = (I', J) ∧ I' 61 37 = nt (k + 1) ∧ (∀ k', k' < k + 1 → ∀ r, Pk (cls n m w).length k' r → ¬ cvr n m w (cls n m w) k' r) ∧ ∀ c j, ¬ c = 79 → ¬ c = 80 → ¬ (c = 61 ∧ j = 37) → I' c j = I c j) (fun o => o.2.2 = J ∧ (∀ c j, ¬ c = 79 → ¬ c = 80 → ¬ (c = 61 ∧ j = 37) → o.2.1 c j = I c j) ∧ ∃ k p, k ≤ n ∧ Fw n m w k p ∧ o.2.1 61 37 = nt k ∧ ∀ i, i < k → o.2.1 79 i = cst (cls n m w) p i)) := by
    rintro k s ⟨hkn, I', rfl, g1, g2, g3⟩
    have e17 : I' 61 17 = nt n := (g3 61 17 (by omega) (by omega) (by omega)).trans h0
    have e18 : I' 61 18 = nt m := (g3 61 18 (by omega) (by omega) (by omega)).trans h1
    have e33 : I' 61 33 = nt (cls n m w).length := (g3 61 33 (by omega) (by omega) (by omega)).trans h33
    have c70 : I' 70 = I 70 := funext fun j => g3 70 j (by omega) (by omega) (by omega)
    have c77 : I' 77 = I 77 := funext fun j => g3 77 j (by omega) (by omega) (by omega)
    unfold b_X12_laysFewest_1
    apply ok_bind
    refine (hasCover_ok (k := k) hn hm (by omega) V e17 e18 (by rw [c70]; exact h) e33 (by rw [c77]; exact hL) g1).imp ?_
    rintro ⟨b, I1, J1⟩ ⟨rfl, b1, b2⟩
    dsimp only at b1 b2 ⊢
    rcases b2 with ⟨rfl, p, hp, b3⟩ | ⟨rfl, b3⟩
    · simp only [f_X12_laysFewest_2, e10, if_false, f_X12_laysFewest_4, Option.map_some]
      refine ok_some ⟨rfl, fun c j c1 c2 c3 => (b1 c j c1 c2).trans (g3 c j c1 c2 c3), k, p, hkn, ⟨hp, g2⟩, (b1 61 37 (by omega) (by omega)).trans g1, b3⟩
    · have hlt : k < n := by
        rcases Nat.lt_or_ge k n with c | c
        · exact c
        · have : k = n := by omega
          subst this
          exact absurd (sgl_cvr hn V) (b3 _ (sgl_pk hn))
      have f37 : I1 61 37 = nt k := (b1 61 37 (by omega) (by omega)).trans g1
      simp only [f_X12_laysFewest_2, if_true, f_X12_laysFewest_3, f37, nt_addl]
      refine ok_some ⟨by omega, _, rfl, xup_at _ _ _ _, ?_, ?_⟩
      · intro k' hk' r hr
        by_cases c : k' = k
        · subst c; exact b3 r hr
        · exact g2 k' (by omega) r hr
      · intro c j c1 c2 c3
        rw [xup_no _ _ _ _ c3, b1 c j c1 c2, g3 c j c1 c2 c3]
  refine ok_loop (fun k s => k ≤ n ∧ ∃ I', s = (I', J) ∧ I' 61 37 = nt k ∧ (∀ k', k' < k → ∀ r, Pk (cls n m w).length k' r → ¬ cvr n m w (cls n m w) k' r) ∧ ∀ c j, ¬ c = 79 → ¬ c = 80 → ¬ (c = 61 ∧ j = 37) → I' c j = I c j) n ?_ ?_ 5000 0 _ (by omega) (by omega) ⟨by omega, _, rfl, xup_at _ _ _ _, fun k' hk' => absurd hk' (by omega), fun c j _ _ c3 => xup_no _ _ _ _ c3⟩
  · intro k hk s hs
    exact one k s hs
  · intro s hs
    refine (one n s hs).imp ?_
    intro o
    cases o with
    | inl s' => intro hh; have := hh.1; omega
    | inr r => exact id
