/-! cubes of the reference: laysCubes, cube, coded -/
/-- what is left -/
def lf (R : Nat) (q : Nat → Nat) : Nat → Nat
  | 0 => R
  | k + 1 => dif (lf R q k) (hh (q k))
theorem lf_lt {R : Nat} (hR : R < 256) (q : Nat → Nat) : ∀ k, lf R q k < 256 := by
  intro k
  cases k with
  | zero => exact hR
  | succ k => exact dif_lt _ _
theorem lf_tb {R : Nat} (hR : R < 256) {q : Nat → Nat} {b : Nat} : ∀ k, (lf R q k).testBit b = (R.testBit b && !ex k (fun i => (hh (q i)).testBit b)) := by
  intro k
  induction k with
  | zero => show R.testBit b = (R.testBit b && !false); rw [Bool.not_false, Bool.and_true]
  | succ k ih =>
    show (dif (lf R q k) (hh (q k))).testBit b = _
    rw [dif_tb (lf_lt hR q k), ih, ex_s, Bool.not_or, Bool.and_assoc]
theorem lf_0 {R : Nat} (hR : R < 256) {q : Nat → Nat} {k : Nat} : lf R q k = 0 ↔ ∀ b, R.testBit b = true → ∃ i, i < k ∧ (hh (q i)).testBit b = true := by
  constructor
  · intro h b hb
    have := lf_tb (b := b) (q := q) hR k
    rw [h, Nat.zero_testBit, hb, Bool.true_and] at this
    have : ex k (fun i => (hh (q i)).testBit b) = true := by
      cases e : ex k (fun i => (hh (q i)).testBit b) with
      | true => rfl
      | false => rw [e] at this; cases this
    exact ex_iff.mp this
  · intro h
    apply Nat.eq_of_testBit_eq
    intro b
    rw [lf_tb hR, Nat.zero_testBit]
    cases e : R.testBit b with
    | false => rfl
    | true => rw [ex_iff.mpr (h b e)]; rfl
def mlx (v off : Nat) : List Nat := fl (okc off) (3 ^ v)
def mlq (v off : Nat) (p : Nat → Nat) (i : Nat) : Nat := (mlx v off).getD (p i) 0
theorem mlq_ok {v off k : Nat} {p : Nat → Nat} (hp : Pk (mlx v off).length k p) {i : Nat} (hi : i < k) : mlq v off p i < 3 ^ v ∧ okc off (mlq v off p i) = true := fl_in (hp.1 i hi)
theorem mlq_pk {v off k : Nat} {p : Nat → Nat} (hp : Pk (mlx v off).length k p) : Pk (3 ^ v) k (mlq v off p) := by
  refine ⟨fun i hi => (mlq_ok hp hi).1, ?_⟩
  intro i j hij hj
  exact fl_inc (hp.2 i j hij hj) (hp.1 j hj)
def irx (off : Nat) (r : Nat → Nat) (i : Nat) : Nat := (fl (okc off) (r i)).length
theorem irx_at {v off R k : Nat} {r : Nat → Nat} (hr : Pk (3 ^ v) k r) (hc : cvp off R k r) {i : Nat} (hi : i < k) : (mlx v off)[irx off r i]? = some (r i) := fl_at (hc.1 i hi) (hr.1 i hi)
theorem irx_pk {v off R k : Nat} {r : Nat → Nat} (hr : Pk (3 ^ v) k r) (hc : cvp off R k r) : Pk (mlx v off).length k (irx off r) := by
  refine ⟨?_, ?_⟩
  · intro i hi
    have := irx_at hr hc hi
    exact (List.getElem?_eq_some_iff.mp this).1
  · intro i j hij hj
    exact fl_mono (hc.1 i (by omega)) (hr.2 i j hij hj)
theorem irx_q {v off R k : Nat} {r : Nat → Nat} (hr : Pk (3 ^ v) k r) (hc : cvp off R k r) {i : Nat} (hi : i < k) : mlq v off (irx off r) i = r i := by
  unfold mlq
  rw [getD_of (irx_at hr hc hi)]
theorem mlq_mono {v off k : Nat} {p p' : Nat → Nat} (hp : Pk (mlx v off).length k p) (hp' : Pk (mlx v off).length k p') {i : Nat} (hi : i < k) : (mlq v off p i < mlq v off p' i → p i < p' i) ∧ (mlq v off p i = mlq v off p' i → p i = p' i) := by
  have a : ∀ {x y : Nat}, x < y → y < (mlx v off).length → (mlx v off).getD x 0 < (mlx v off).getD y 0 := fun h h2 => fl_inc h h2
  have h1 := hp.1 i hi
  have h2 := hp'.1 i hi
  unfold mlq
  rcases Nat.lt_trichotomy (p i) (p' i) with c | c | c
  · have := a c h2; exact ⟨fun _ => c, fun e => by omega⟩
  · exact ⟨fun h => by rw [c] at h; omega, fun _ => c⟩
  · have := a c h1; exact ⟨fun h => by omega, fun e => by omega⟩
theorem mlq_LL {v off R k : Nat} {p : Nat → Nat} (hp : Pk (mlx v off).length k p) (hc : ∀ b, R.testBit b = true → ∃ i, i < k ∧ (hh (mlq v off p i)).testBit b = true) (hm : ∀ r, Pk (mlx v off).length k r → lx k r p → ¬ ∀ b, R.testBit b = true → ∃ i, i < k ∧ (hh (mlq v off r i)).testBit b = true) : LL (3 ^ v) k (cvp off R k) (mlq v off p) := by
  refine ⟨mlq_pk hp, ⟨fun i hi => (mlq_ok hp hi).2, hc⟩, ?_⟩
  intro r hr hcr hl
  have hi := irx_pk hr hcr
  refine hm (irx off r) hi ?_ ?_
  · obtain ⟨i, i1, i2, i3⟩ := hl
    refine ⟨i, i1, ?_, ?_⟩
    · refine (mlq_mono hi hp i1).1 ?_
      rw [irx_q hr hcr i1]; exact i2
    · intro j hj
      refine (mlq_mono hi hp (by omega)).2 ?_
      rw [irx_q hr hcr (by omega)]; exact i3 j hj
  · intro b hb
    obtain ⟨i, i1, i2⟩ := hcr.2 b hb
    exact ⟨i, i1, by rw [irx_q hr hcr i1]; exact i2⟩
def allb (v : Nat) : Int32 := nt (3 ^ v)
theorem lays22_ok {n k off on : Nat} {p : Nat → Nat} {I : xI} {J : xJ} {x1 x2 x3 x4 : Int32} (hn : n ≤ 6) (hk : k ≤ 8) (hon : on < 256) (h0 : I 61 17 = nt n) (h52 : I 61 52 = nt k) (hp : Pk (mlx (nb n) off).length k p) (hlen : (mlx (nb n) off).length ≤ 27) (h80 : ∀ j, j < k → I 80 j = nt (p j)) (h91 : ∀ i, i < (mlx (nb n) off).length → I 91 i = nt ((mlx (nb n) off).getD i 0)) {Q : ((Int32 × Int32 × Int32 × Int32 × (Option Value) × (Option Value) × xI × xJ) ⊕ (Unit × xI × xJ)) → Prop} (hQ : ∀ I', (∀ j, j < k → I' 90 j = nt (mlq (nb n) off p j)) → (∀ a j, ¬ a = 90 → I' a j = I a j) → Ok (f_X12_laysCubes_26 x1 x2 x3 x4 (nt (lf on (mlq (nb n) off p) k)) (nt k) I' J) Q) : Ok (f_X12_laysCubes_22 x1 x2 x3 x4 (nt on) 0 I J) Q := by
  have hb3 := nb_le n
  have hw := pow3 (nb n) (by omega)
  unfold f_X12_laysCubes_22
  refine ok_loop (fun i s => ∃ I', s = (x1, x2, x3, x4, nt (lf on (mlq (nb n) off p) i), nt i, I', J) ∧ (∀ j, j < i → I' 90 j = nt (mlq (nb n) off p j)) ∧ ∀ a j, ¬ a = 90 → I' a j = I a j) k ?_ ?_ 5000 0 _ (by omega) (by omega) ⟨I, rfl, fun j hj => absurd hj (by omega), fun _ _ _ => rfl⟩
  · rintro i hi s ⟨I', rfl, g1, g2⟩
    have hpi := hp.1 i hi
    have e52 : I' 61 52 = nt k := (g2 61 52 (by omega)).trans h52
    have e80 : I' 80 i = nt (p i) := (g2 80 i (by omega)).trans (h80 i hi)
    have e91 : I' 91 (p i) = nt (mlq (nb n) off p i) := (g2 91 (p i) (by omega)).trans (h91 _ hpi)
    have hq := mlq_ok hp hi
    have hq27 : mlq (nb n) off p i < 27 := Nat.lt_of_lt_of_le hq.1 hw.1
    simp (disch := omega) only [b_X12_laysCubes_22, f_X12_laysCubes_23, e52, e80, e91, nt_clamp, nt_le, nt_lt, nt_eq, lit_le, lit_lt, le_lit, lt_lit, eq_lit, lit_eq, nt_neg, nt_ge, nt_add, nt_mul, nt_addl, lit_add, nt_mull, lit_mul, nt_sub, nt_subl, lit_sub, nt_divl, nt_m1, nt_m2, nt_m1', nt_m2', false_or, if_neg, xup_at]
    rw [rbits_ok hn (show (xup I' 90 i (nt (mlq (nb n) off p i))) 61 17 = nt n from by rw [xup_bj _ _ _ _ _ (by omega)]; exact (g2 61 17 (by omega)).trans h0)]
    simp only [Option.bind_some, f_X12_laysCubes_24, heldBy_ok hb3 hq.1, f_X12_laysCubes_25, nt_dif (lf_lt hon _ i), nt_addl]
    refine ok_some ⟨_, rfl, ?_, ?_⟩
    · intro j hj
      rw [xup_if]
      by_cases c : j = i
      · rw [if_pos c, c]
      · rw [if_neg c]; exact g1 j (by omega)
    · intro a j ha
      rw [xup_bj _ _ _ _ _ ha]; exact g2 a j ha
  · rintro s ⟨I', rfl, g1, g2⟩
    have e52 : I' 61 52 = nt k := (g2 61 52 (by omega)).trans h52
    simp (disch := omega) only [b_X12_laysCubes_22, e52, nt_clamp, nt_le, nt_lt, nt_eq, lit_le, lit_lt, le_lit, lt_lit, eq_lit, lit_eq, nt_neg, nt_ge, nt_add, nt_mul, nt_addl, lit_add, nt_mull, lit_mul, nt_sub, nt_subl, lit_sub, nt_divl, nt_m1, nt_m2, nt_m1', nt_m2', if_pos]
    apply ok_map
    exact hQ I' g1 g2
theorem lays20_ok {n off on : Nat} {I : xI} {J : xJ} {x1 x2 x3 : Int32} {z1 z2 : Option Value} (hn : n ≤ 6) (hon : on < 256) (hon2 : on < 2 ^ 2 ^ nb n) (hd : on &&& off = 0) (h0 : I 61 17 = nt n) (h48 : I 61 48 = nt on) (h52 : I 61 52 = nt (mu off on)) (h54 : I 61 54 = nt (mlx (nb n) off).length) (h80 : ∀ j, j < mu off on → I 80 j = nt j) (h91 : ∀ i, i < (mlx (nb n) off).length → I 91 i = nt ((mlx (nb n) off).getD i 0)) : Ok (f_X12_laysCubes_20 x1 x2 x3 1 z1 z2 I J) (fun o => o.2.2 = J ∧ (∀ i, i < mu off on → o.2.1 90 i = nt (cbr (nb n) off on i)) ∧ LL (3 ^ nb n) (mu off on) (cvp off on (mu off on)) (cbr (nb n) off on) ∧ ∀ a j, ¬ a = 90 → ¬ a = 80 → o.2.1 a j = I a j) := by
  have hb3 := nb_le n
  have hw := pow3 (nb n) (by omega)
  have hk := mu_8 (off := off) hon
  have hlen : (mlx (nb n) off).length ≤ 27 := Nat.le_trans fl_le hw.1
  obtain ⟨r0, hr0, hcr0⟩ := pick_ex (v := nb n) (off := off) hb3 hon2 hd
  have hir := irx_pk hr0 hcr0
  have hirc : ∀ b, on.testBit b = true → ∃ i, i < mu off on ∧ (hh (mlq (nb n) off (irx off r0) i)).testBit b = true := by
    intro b hb
    obtain ⟨i, i1, i2⟩ := hcr0.2 b hb
    exact ⟨i, i1, by rw [irx_q hr0 hcr0 i1]; exact i2⟩
  have hkL : mu off on ≤ (mlx (nb n) off).length := by
    by_cases c : mu off on = 0
    · omega
    · have := Pk_max hir (show 0 < mu off on from by omega); omega
  unfold f_X12_laysCubes_20
  refine ok_while (fun s => ∃ z1 z2 I', (∀ a j, ¬ a = 90 → ¬ a = 80 → I' a j = I a j) ∧ ((s = (x1, x2, x3, 0, z1, z2, I', J) ∧ (∀ i, i < mu off on → I' 90 i = nt (cbr (nb n) off on i)) ∧ LL (3 ^ nb n) (mu off on) (cvp off on (mu off on)) (cbr (nb n) off on)) ∨ (s = (x1, x2, x3, 1, z1, z2, I', J) ∧ ∃ p, Pk (mlx (nb n) off).length (mu off on) p ∧ (∀ j, j < mu off on → I' 80 j = nt (p j)) ∧ ∀ r, Pk (mlx (nb n) off).length (mu off on) r → lx (mu off on) r p → ¬ ∀ b, on.testBit b = true → ∃ i, i < mu off on ∧ (hh (mlq (nb n) off r i)).testBit b = true))) (fun s => if s.2.2.2.1 = 0 then 0 else 1000000000000 - vlb 27 (mu off on) (fun i => (s.2.2.2.2.2.2.1 80 i).toNatClampNeg)) ?_ 10000000000000 _ (by dsimp only; split <;> omega) ⟨z1, z2, I, fun _ _ _ _ => rfl, Or.inr ⟨rfl, fun i => i, fp_pk hkL, h80, fun r hr hl => absurd hl (fp_least hr)⟩⟩
  rintro s ⟨z1, z2, I', g0, ⟨rfl, g1, g2⟩ | ⟨rfl, p, hp, g1, g2⟩⟩
  · simp only [b_X12_laysCubes_20, if_true, f_X12_laysCubes_32, Option.map_some]
    exact ok_some ⟨rfl, g1, g2, g0⟩
  · have e48 : I' 61 48 = nt on := (g0 61 48 (by omega) (by omega)).trans h48
    simp only [b_X12_laysCubes_20, e10, if_false, f_X12_laysCubes_21, e48]
    refine lays22_ok hn hk hon ((g0 61 17 (by omega) (by omega)).trans h0) ((g0 61 52 (by omega) (by omega)).trans h52) hp hlen g1 (fun i hi => (g0 91 i (by omega) (by omega)).trans (h91 i hi)) ?_
    intro I2 q1 q2
    have fr2 : ∀ a j, ¬ a = 90 → ¬ a = 80 → I2 a j = I a j := fun a j c1 c2 => (q2 a j c1).trans (g0 a j c1 c2)
    have hlf := lf_lt hon (mlq (nb n) off p) (mu off on)
    simp (disch := omega) only [f_X12_laysCubes_26, nt_clamp, nt_le, nt_lt, nt_eq, lit_le, lit_lt, le_lit, lt_lit, eq_lit, lit_eq, nt_neg, nt_ge, nt_add, nt_mul, nt_addl, lit_add, nt_mull, lit_mul, nt_sub, nt_subl, lit_sub, nt_divl, nt_m1, nt_m2, nt_m1', nt_m2']
    by_cases cz : lf on (mlq (nb n) off p) (mu off on) = 0
    · rw [if_pos cz]
      have hLL := mlq_LL hp ((lf_0 hon).mp cz) g2
      have hq := cbr_of hLL
      refine ok_some ⟨⟨_, _, I2, fr2, Or.inl ⟨rfl, ?_, hq.2⟩⟩, ?_⟩
      · intro i hi
        rw [q1 i hi, hq.1 i hi]
      · dsimp only
        rw [if_pos rfl]
        have v1 : vlb 27 (mu off on) (fun i => (I' 80 i).toNatClampNeg) = vlb 27 (mu off on) p := vlb_congr fun i hi => by
          have := hp.1 i hi
          rw [g1 i hi, nt_clamp (by omega)]
        have v4 : vlb 27 (mu off on) p < 27 ^ (mu off on) := vlb_max (fun i hi => by have := hp.1 i hi; omega)
        have v5 : 27 ^ (mu off on) ≤ 27 ^ 8 := Nat.pow_le_pow_right (by omega) hk
        have v6 : (27 : Nat) ^ 8 = 282429536481 := by decide
        rw [v1]
        omega
    · rw [if_neg cz]
      have hno : ¬ ∀ b, on.testBit b = true → ∃ i, i < mu off on ∧ (hh (mlq (nb n) off p i)).testBit b = true := fun hh0 => cz ((lf_0 hon).mpr hh0)
      simp only [f_X12_laysCubes_27, (fr2 61 52 (by omega) (by omega)).trans h52, (fr2 61 54 (by omega) (by omega)).trans h54]
      apply ok_bind
      refine (nextPick_ok hk (by omega) hp (fun j hj => (q2 80 j (by omega)).trans (g1 j hj))).imp ?_
      rintro ⟨b, I3, J3⟩ ⟨rfl, b1, b2⟩
      dsimp only at b1 b2 ⊢
      rcases b2 with ⟨rfl, q, hq, b3, b4, b5⟩ | ⟨rfl, b3⟩
      · simp only [f_X12_laysCubes_28, e10, if_false, f_X12_laysCubes_29, f_X12_laysCubes_31]
        refine ok_some ⟨⟨_, _, I3, fun a j c1 c2 => (b1 a j c2).trans (fr2 a j c1 c2), Or.inr ⟨rfl, q, hq, b3, ?_⟩⟩, ?_⟩
        · intro r hr hl
          rcases lx_tri (mu off on) r p with c | c | c
          · exact g2 r hr c
          · exact absurd hl (b5 r hr c)
          · intro hcv
            apply hno
            intro b hb
            obtain ⟨i, i1, i2⟩ := hcv b hb
            refine ⟨i, i1, ?_⟩
            unfold mlq at i2 ⊢
            rw [← c i i1]; exact i2
        · dsimp only
          rw [if_neg (by decide)]
          have v1 : vlb 27 (mu off on) (fun i => (I3 80 i).toNatClampNeg) = vlb 27 (mu off on) q := vlb_congr fun i hi => by
            have := hq.1 i hi
            rw [b3 i hi, nt_clamp (by omega)]
          have v2 : vlb 27 (mu off on) (fun i => (I' 80 i).toNatClampNeg) = vlb 27 (mu off on) p := vlb_congr fun i hi => by
            have := hp.1 i hi
            rw [g1 i hi, nt_clamp (by omega)]
          have v3 : vlb 27 (mu off on) p < vlb 27 (mu off on) q := vlb_lt (fun i hi => by have := hp.1 i hi; omega) b4
          have v4 : vlb 27 (mu off on) q < 27 ^ (mu off on) := vlb_max (fun i hi => by have := hq.1 i hi; omega)
          have v5 : 27 ^ (mu off on) ≤ 27 ^ 8 := Nat.pow_le_pow_right (by omega) hk
          have v6 : (27 : Nat) ^ 8 = 282429536481 := by decide
          rw [v1, v2]
          omega
      · exfalso
        rcases lx_tri (mu off on) (irx off r0) p with c | c | c
        · exact g2 _ hir c hirc
        · exact b3 _ hir c
        · apply hno
          intro b hb
          obtain ⟨i, i1, i2⟩ := hirc b hb
          refine ⟨i, i1, ?_⟩
          unfold mlq at i2 ⊢
          rw [← c i i1]; exact i2
theorem laysCubes_ok {n m x b : Nat} {w : aT} {I : xI} {J : xJ} (hn : n ≤ 6) (hm : m ≤ 4) (V : Vd n m w) (h0 : I 61 17 = nt n) (h : rMa n m w (I 70) 0) (hp : prp n w.2.2) (hx : x < m) (hb : b < nb n) (hT : rT I) (hK : rK I) : Ok (f_X12_laysCubes (nt b) (nt x) I J) (fun o => o.2.2 = J ∧ o.2.1 61 52 = nt (cmu w w.2.2 n x b) ∧ (∀ i, i < cmu w w.2.2 n x b → o.2.1 90 i = nt (crw n w w.2.2 x b i)) ∧ cLL n w w.2.2 x b ∧ rK o.2.1 ∧ ∀ a j, ¬ cReg a j → o.2.1 a j = I a j) := by
  have hb3 := nb_le n
  have hw := pow3 (nb n) (by omega)
  unfold f_X12_laysCubes f_X12_laysCubes_0
  apply ok_bind
  refine asThey_ok.imp ?_
  rintro ⟨_, I1, J1⟩ ⟨rfl, a1, a2⟩
  dsimp only at a1 a2 ⊢
  have e70 : I1 70 = I 70 := funext fun j => a2 70 j (by omega)
  unfold f_X12_laysCubes_1
  apply ok_bind
  refine (laysCodes_ok (c := w.2.2) hn hm V ((a2 61 17 (by omega)).trans h0) (by rw [e70]; exact h) (fun s hs => ⟨by rw [a1 s (by omega)]; have := h.2.2 s hs; rwa [Nat.zero_add] at this, V.2.2 s⟩) hx (show b < 3 from by omega)).imp ?_
  rintro ⟨_, I2, J2⟩ ⟨rfl, b1, b2, b3⟩
  dsimp only at b1 b2 b3 ⊢
  have fr2 : ∀ a j, ¬ cReg a j → I2 a j = I a j := by
    intro a j hr
    unfold cReg at hr
    exact (b3 a j (by omega)).trans (a2 a j (by omega))
  have hon := onS_lt w w.2.2 n x b
  have hoff := ofS_lt w w.2.2 n x b
  have hdj := onof (w := w) (x := x) (b := b) hp.1
  have hon2 := onS_v (x := x) (b := b) (w := w) hp.2
  show Ok (f_X12_laysCubes_2 (nt b) (nt x) I2 J2) (fun o => o.2.2 = J2 ∧ o.2.1 61 52 = nt (mu (ofS w w.2.2 n x b) (onS w w.2.2 n x b)) ∧ (∀ i, i < mu (ofS w w.2.2 n x b) (onS w w.2.2 n x b) → o.2.1 90 i = nt (cbr (nb n) (ofS w w.2.2 n x b) (onS w w.2.2 n x b) i)) ∧ LL (3 ^ nb n) (mu (ofS w w.2.2 n x b) (onS w w.2.2 n x b)) (cvp (ofS w w.2.2 n x b) (onS w w.2.2 n x b) (mu (ofS w w.2.2 n x b) (onS w w.2.2 n x b))) (cbr (nb n) (ofS w w.2.2 n x b) (onS w w.2.2 n x b)) ∧ rK o.2.1 ∧ ∀ a j, ¬ cReg a j → o.2.1 a j = I a j)
  have e48 := b1
  have e49 := b2
  generalize onS w w.2.2 n x b = on at *
  generalize ofS w w.2.2 n x b = off at *
  unfold f_X12_laysCubes_2
  apply ok_bind
  refine (howFew_ok hon hoff hdj e48 e49 (fun c hc => (fr2 87 c (by unfold cReg; omega)).trans (hT c hc)) (by intro R O r1 r2 r3; rw [b3 88 _ (by omega), a2 88 _ (by omega)]; exact hK R O r1 r2 r3)).imp ?_
  rintro ⟨_, I3, J3⟩ ⟨rfl, rfl, c1, c2⟩
  dsimp only at c1 c2 ⊢
  have fr3 : ∀ a j, ¬ cReg a j → I3 a j = I a j := by
    intro a j hr
    have hr' := hr
    unfold cReg at hr'
    exact (c2 a j (by omega) (by omega)).trans (fr2 a j hr)
  have e17 : I3 61 17 = nt n := (fr3 61 17 (by unfold cReg; omega)).trans h0
  have x17 : (xup I3 61 52 (nt (mu off on))) 61 17 = nt n := by rw [xup_j _ _ _ _ (by omega)]; exact e17
  have hall : f_X12_laysCubes_3 (nt b) (nt x) (nt (mu off on)) I3 J3 = f_X12_laysCubes_11 (nt b) (nt x) (nt (3 ^ nb n)) 0 (xup (xup I3 61 52 (nt (mu off on))) 61 54 0) J3 := by
    simp (disch := omega) only [f_X12_laysCubes_3, rbits_ok hn x17, Option.bind_some, f_X12_laysCubes_4, f_X12_laysCubes_5, f_X12_laysCubes_6, f_X12_laysCubes_7, f_X12_laysCubes_8, f_X12_laysCubes_9, f_X12_laysCubes_10, nt_clamp, nt_le, nt_lt, nt_eq, lit_le, lit_lt, le_lit, lt_lit, eq_lit, lit_eq, nt_neg, nt_ge, nt_add, nt_mul, nt_addl, lit_add, nt_mull, lit_mul, nt_sub, nt_subl, lit_sub, nt_divl, nt_m1, nt_m2, nt_m1', nt_m2']
    rcases (show nb n = 1 ∨ nb n = 2 ∨ nb n = 3 from by omega) with e | e | e
    · rw [e, if_pos rfl]; rfl
    · rw [e, if_neg (by decide), if_pos rfl]; rfl
    · rw [e, if_neg (by decide), if_neg (by decide)]; rfl
  rw [hall]
  have hk := mu_8 (off := off) hon
  unfold f_X12_laysCubes_11
  refine ok_loop (fun c s => ∃ I', s = (nt b, nt x, nt (3 ^ nb n), nt c, I', J3) ∧ I' 61 54 = nt (fl (okc off) c).length ∧ (∀ i, i < (fl (okc off) c).length → I' 91 i = nt ((fl (okc off) c).getD i 0)) ∧ I' 61 52 = nt (mu off on) ∧ I' 61 48 = nt on ∧ I' 61 49 = nt off ∧ rK I' ∧ ∀ a j, ¬ cReg a j → I' a j = I a j) (3 ^ nb n) ?_ ?_ 5000 0 _ (Nat.zero_le _) (by omega) ⟨_, rfl, ?_, fun i hi => absurd hi (Nat.not_lt_zero _), ?_, ?_, ?_, ?_, ?_⟩
  · rintro c hc s ⟨I', rfl, g1, g2, g3, g4, g5, g6, g7⟩
    have hc27 : c < 27 := by omega
    have hh8 := hh_lt c hc27
    have hand : hh c &&& off ≤ hh c := Nat.and_le_left
    have hfl : (fl (okc off) c).length ≤ c := fl_le
    have e17 : I' 61 17 = nt n := (g7 61 17 (by unfold cReg; omega)).trans h0
    simp (disch := omega) only [b_X12_laysCubes_11, f_X12_laysCubes_12, rbits_ok hn e17, Option.bind_some, f_X12_laysCubes_13, heldBy_ok hb3 hc, f_X12_laysCubes_14, g5, nt_and, nt_clamp, nt_le, nt_lt, nt_eq, lit_le, lit_lt, le_lit, lt_lit, eq_lit, lit_eq, nt_neg, nt_ge, nt_add, nt_mul, nt_addl, lit_add, nt_mull, lit_mul, nt_sub, nt_subl, lit_sub, nt_divl, nt_m1, nt_m2, nt_m1', nt_m2', if_neg]
    by_cases co : hh c &&& off = 0
    · have hok : okc off c = true := decide_eq_true co
      rw [if_pos co]
      have e54 : ∀ v : Int32, (xup I' 91 (fl (okc off) c).length v) 61 54 = nt (fl (okc off) c).length := fun v => by rw [xup_bj _ _ _ _ _ (by omega)]; exact g1
      simp (disch := omega) only [f_X12_laysCubes_16, f_X12_laysCubes_17, g1, e54, nt_clamp, nt_le, nt_lt, nt_eq, lit_le, lit_lt, le_lit, lt_lit, eq_lit, lit_eq, nt_neg, nt_ge, nt_add, nt_mul, nt_addl, lit_add, nt_mull, lit_mul, nt_sub, nt_subl, lit_sub, nt_divl, nt_m1, nt_m2, nt_m1', nt_m2', false_or, if_neg]
      refine ok_some ⟨_, rfl, ?_, ?_, ?_, ?_, ?_, ?_, ?_⟩
      · rw [xup_at, fl_t hok, List.length_append]; rfl
      · intro i hi
        rw [fl_t hok, List.length_append] at hi
        rw [xup_bj _ _ _ _ _ (by omega), xup_if, fl_t hok]
        by_cases ce : i = (fl (okc off) c).length
        · rw [if_pos ce, ce, List.getD_eq_getElem?_getD, List.getElem?_append_right (Nat.le_refl _), Nat.sub_self]; rfl
        · have hi2 : i < (fl (okc off) c).length := by
            have : ([c] : List Nat).length = 1 := rfl
            omega
          rw [if_neg ce, List.getD_eq_getElem?_getD, List.getElem?_append_left hi2, ← List.getD_eq_getElem?_getD]
          exact g2 i hi2
      · rw [xup_j _ _ _ _ (by omega), xup_bj _ _ _ _ _ (by omega)]; exact g3
      · rw [xup_j _ _ _ _ (by omega), xup_bj _ _ _ _ _ (by omega)]; exact g4
      · rw [xup_j _ _ _ _ (by omega), xup_bj _ _ _ _ _ (by omega)]; exact g5
      · intro R O r1 r2 r3
        rw [xup_bj _ _ _ _ _ (by omega), xup_bj _ _ _ _ _ (by omega)]; exact g6 R O r1 r2 r3
      · intro a j hr
        have hr' := hr
        unfold cReg at hr'
        rw [xup_no _ _ _ _ (by omega), xup_bj _ _ _ _ _ (by omega)]; exact g7 a j hr
    · have hok : okc off c = false := decide_eq_false co
      rw [if_neg co]
      simp (disch := omega) only [f_X12_laysCubes_15, f_X12_laysCubes_17, nt_clamp, nt_le, nt_lt, nt_eq, lit_le, lit_lt, le_lit, lt_lit, eq_lit, lit_eq, nt_neg, nt_ge, nt_add, nt_mul, nt_addl, lit_add, nt_mull, lit_mul, nt_sub, nt_subl, lit_sub, nt_divl, nt_m1, nt_m2, nt_m1', nt_m2']
      refine ok_some ⟨I', rfl, ?_, ?_, g3, g4, g5, g6, g7⟩
      · rw [fl_f hok]; exact g1
      · rw [fl_f hok]; exact g2
  · rintro s ⟨I', rfl, g1, g2, g3, g4, g5, g6, g7⟩
    simp (disch := omega) only [b_X12_laysCubes_11, nt_clamp, nt_le, nt_lt, nt_eq, lit_le, lit_lt, le_lit, lt_lit, eq_lit, lit_eq, nt_neg, nt_ge, nt_add, nt_mul, nt_addl, lit_add, nt_mull, lit_mul, nt_sub, nt_subl, lit_sub, nt_divl, nt_m1, nt_m2, nt_m1', nt_m2', if_pos]
    apply ok_map
    simp only [f_X12_laysCubes_18, g3]
    apply ok_bind
    refine (firstPick_ok hk).imp ?_
    rintro ⟨_, I4, J4⟩ ⟨rfl, d1, d2⟩
    dsimp only at d1 d2 ⊢
    unfold f_X12_laysCubes_19
    refine (lays20_ok hn hon hon2 hdj (((d2 61 17 (by omega)).trans (g7 61 17 (by unfold cReg; omega))).trans h0) ((d2 61 48 (by omega)).trans g4) ((d2 61 52 (by omega)).trans g3) ((d2 61 54 (by omega)).trans g1) d1 (fun i hi => (d2 91 i (by omega)).trans (g2 i hi))).imp ?_
    rintro ⟨_, I5, J5⟩ ⟨rfl, f1, f2, f3⟩
    dsimp only at f1 f2 f3 ⊢
    refine ⟨rfl, ?_, f1, f2, ?_, ?_⟩
    · dsimp only
      rw [f3 61 52 (by omega) (by omega), d2 61 52 (by omega)]; exact g3
    · intro R O r1 r2 r3
      dsimp only
      rw [f3 88 _ (by omega) (by omega), d2 88 _ (by omega)]; exact g6 R O r1 r2 r3
    · intro a j hr
      have hr' := hr
      unfold cReg at hr'
      exact ((f3 a j (by omega) (by omega)).trans (d2 a j (by omega))).trans (g7 a j hr)
  · rw [xup_at]; rfl
  · rw [xup_j _ _ _ _ (by omega), xup_at]
  · rw [xup_j _ _ _ _ (by omega), xup_j _ _ _ _ (by omega)]; exact (c2 61 48 (by omega) (by omega)).trans e48
  · rw [xup_j _ _ _ _ (by omega), xup_j _ _ _ _ (by omega)]; exact (c2 61 49 (by omega) (by omega)).trans e49
  · intro R O r1 r2 r3
    rw [xup_bj _ _ _ _ _ (by omega), xup_bj _ _ _ _ _ (by omega)]; exact c1 R O r1 r2 r3
  · intro a j hr
    have hr' := hr
    unfold cReg at hr'
    rw [xup_no _ _ _ _ (by omega), xup_no _ _ _ _ (by omega)]; exact fr3 a j hr
theorem isBit_ok {n : Nat} {I : xI} {J : xJ} {x : Int32} (hn : n ≤ 6) (h : I 61 17 = nt n) : f_X12_isBit x I J = some (bi (isS (nb n) x), I, J) := by
  have hb3 := nb_le n
  simp only [f_X12_isBit_2, f_X12_isBit_1, f_X12_isBit_0, f_X12_isBit, rbits_ok hn h, rin_ok (show nb n < 2147483648 from by omega), Option.bind_some, bi_ok, if_true]
theorem rcube_ok {n m : Nat} {w : aT} {I : xI} {J : xJ} (hn : n ≤ 6) (hm : m ≤ 4) (V : Vd n m w) (h0 : I 61 17 = nt n) (h1 : I 61 18 = nt m) (h : rMa n m w (I 70) 0) (hT : rT I) (hK : rK I) (x y z : Int32) : Ok (f_X12_cube x y z I J) (fun o => o.2.2 = J ∧ o.1 = cubeR n m w x y z ∧ rK o.2.1 ∧ ∀ a j, ¬ cReg a j → o.2.1 a j = I a j) := by
  have hb3 := nb_le n
  simp (disch := omega) only [f_X12_cube, f_X12_cube_0, isBit_ok hn h0, Option.bind_some, f_X12_cube_1, f_X12_cube_2, isInput_ok h1, f_X12_cube_3, f_X12_cube_5, rproper_ok hn V h0 h, f_X12_cube_6, bi_0]
  unfold cubeR
  cases c1 : isS (nb n) x with
  | false =>
    simp only [eq_self, Bool.true_eq_false, Bool.false_eq_true, if_true, if_false, and_self, and_false, false_and, true_and, and_true]
    exact ok_some ⟨rfl, rfl, hK, fun _ _ _ => rfl⟩
  | true =>
    cases c2 : isS m y with
    | false =>
      simp only [eq_self, Bool.true_eq_false, Bool.false_eq_true, if_true, if_false, and_self, and_false, false_and, true_and, and_true]
      exact ok_some ⟨rfl, rfl, hK, fun _ _ _ => rfl⟩
    | true =>
      cases c3 : pro n w.2.2 with
      | false =>
        simp only [eq_self, Bool.true_eq_false, Bool.false_eq_true, if_true, if_false, and_self, and_false, false_and, true_and, and_true]
        exact ok_some ⟨rfl, rfl, hK, fun _ _ _ => rfl⟩
      | true =>
        simp only [eq_self, Bool.true_eq_false, Bool.false_eq_true, if_true, if_false, and_self, and_false, false_and, true_and, and_true]
        obtain ⟨b, hb, rfl⟩ := isS_ex (by omega) c1
        obtain ⟨x, hx, rfl⟩ := isS_ex (by omega) c2
        rw [nt_clamp (by omega), nt_clamp (by omega)]
        unfold f_X12_cube_8
        apply ok_bind
        refine (laysCubes_ok hn hm V h0 h (pro_iff.mp c3) hx hb hT hK).imp ?_
        rintro ⟨_, I1, J1⟩ ⟨rfl, a0, a1, a2, a3, a4⟩
        dsimp only at a0 a1 a2 a3 a4 ⊢
        have hcm := cmu_8 w w.2.2 n x b
        simp only [f_X12_cube_9, a0, f_X12_ofRow_90, f_X12_ofRow_90_0]
        by_cases e1 : z = -1
        · rw [if_pos e1, if_pos e1]
          exact ok_some ⟨rfl, rfl, a3, a4⟩
        · rw [if_neg e1, if_neg e1]
          simp only [f_X12_ofRow_90_2, rin_ok (show cmu w w.2.2 n x b < 2147483648 from by omega), Option.bind_some, f_X12_ofRow_90_3, bi_0]
          cases e2 : isS (cmu w w.2.2 n x b) z with
          | false =>
            simp only [eq_self, Bool.true_eq_false, Bool.false_eq_true, if_true, if_false, and_self, and_false, false_and, true_and, and_true]
            exact ok_some ⟨rfl, rfl, a3, a4⟩
          | true =>
            simp only [eq_self, Bool.true_eq_false, Bool.false_eq_true, if_true, if_false, and_self, and_false, false_and, true_and, and_true]
            obtain ⟨i, hi, rfl⟩ := isS_ex (by omega) e2
            simp (disch := omega) only [f_X12_ofRow_90_4, f_X12_ofRow_90_6, nt_clamp, nt_le, nt_lt, nt_eq, lit_le, lit_lt, le_lit, lt_lit, eq_lit, lit_eq, nt_neg, nt_ge, nt_add, nt_mul, nt_addl, lit_add, nt_mull, lit_mul, nt_sub, nt_subl, lit_sub, nt_divl, nt_m1, nt_m2, nt_m1', nt_m2', false_or, if_neg, a1 i hi, Option.bind_some, f_X12_cube_10]
            exact ok_some ⟨rfl, rfl, a3, a4⟩
theorem rcoded_ok {n m : Nat} {w : aT} {I : xI} {J : xJ} (hn : n ≤ 6) (hm : m ≤ 4) (V : Vd n m w) (h0 : I 61 17 = nt n) (h1 : I 61 18 = nt m) (h : rMa n m w (I 70) 0) (hT : rT I) (hK : rK I) (x y : Int32) : Ok (f_X12_coded x y I J) (fun o => o.2.2 = J ∧ o.1 = codedR n m w x y ∧ rK o.2.1 ∧ ∀ a j, ¬ cReg a j → o.2.1 a j = I a j) := by
  have hb3 := nb_le n
  have hp2 := nb_pow n (by omega)
  have hw := pow3 (nb n) (by omega)
  simp (disch := omega) only [f_X12_coded, f_X12_coded_0, rbits_ok hn h0, Option.bind_some, f_X12_coded_1, shl3 (nb n) (by omega), rin_ok (show 2 ^ nb n < 2147483648 from by omega), f_X12_coded_2, f_X12_coded_3, isInput_ok h1, f_X12_coded_4, f_X12_coded_6, rproper_ok hn V h0 h, f_X12_coded_7, bi_0]
  unfold codedR
  cases c1 : isS (2 ^ nb n) x with
  | false =>
    simp only [eq_self, Bool.true_eq_false, Bool.false_eq_true, if_true, if_false, and_self, and_false, false_and, true_and, and_true]
    exact ok_some ⟨rfl, rfl, hK, fun _ _ _ => rfl⟩
  | true =>
    cases c2 : isS m y with
    | false =>
      simp only [eq_self, Bool.true_eq_false, Bool.false_eq_true, if_true, if_false, and_self, and_false, false_and, true_and, and_true]
      exact ok_some ⟨rfl, rfl, hK, fun _ _ _ => rfl⟩
    | true =>
      cases c3 : pro n w.2.2 with
      | false =>
        simp only [eq_self, Bool.true_eq_false, Bool.false_eq_true, if_true, if_false, and_self, and_false, false_and, true_and, and_true]
        exact ok_some ⟨rfl, rfl, hK, fun _ _ _ => rfl⟩
      | true =>
        simp only [eq_self, Bool.true_eq_false, Bool.false_eq_true, if_true, if_false, and_self, and_false, false_and, true_and, and_true]
        obtain ⟨k, hk, rfl⟩ := isS_ex (by omega) c1
        obtain ⟨x, hx, rfl⟩ := isS_ex (by omega) c2
        rw [nt_clamp (by omega), nt_clamp (by omega)]
        have fr_ok : ∀ I' : xI, (∀ a j, ¬ cReg a j → I' a j = I a j) → I' 61 17 = nt n ∧ rMa n m w (I' 70) 0 ∧ rT I' := by
          intro I' hf
          refine ⟨(hf 61 17 (by unfold cReg; omega)).trans h0, ?_, fun c hc => (hf 87 c (by unfold cReg; omega)).trans (hT c hc)⟩
          rw [show I' 70 = I 70 from funext fun j => hf 70 j (by unfold cReg; omega)]; exact h
        unfold f_X12_coded_9 f_X12_coded_10
        refine ok_loop (fun b s => ∃ v z I', s = (nt k, nt x, v, nt b, z, I', J) ∧ (∀ q, q < 32 → bt v q = (decide (q < b) && ex (cmu w w.2.2 n x q) (fun i => (hh (crw n w w.2.2 x q i)).testBit k))) ∧ rK I' ∧ ∀ a j, ¬ cReg a j → I' a j = I a j) (nb n) ?_ ?_ 5000 0 _ (by omega) (by omega) ⟨0, none, I, rfl, fun q hq => bt_zero q, hK, fun _ _ _ => rfl⟩
        · rintro b hb s ⟨v, z, I', rfl, g1, g2, g3⟩
          obtain ⟨f0, f1, f2⟩ := fr_ok I' g3
          simp (disch := omega) only [b_X12_coded_10, f_X12_coded_11, f_X12_coded_12, rbits_ok hn f0, Option.bind_some, nt_clamp, nt_le, nt_lt, nt_eq, lit_le, lit_lt, le_lit, lt_lit, eq_lit, lit_eq, nt_neg, nt_ge, nt_add, nt_mul, nt_addl, lit_add, nt_mull, lit_mul, nt_sub, nt_subl, lit_sub, nt_divl, nt_m1, nt_m2, nt_m1', nt_m2', if_neg]
          apply ok_bind
          refine (laysCubes_ok hn hm V f0 f1 (pro_iff.mp c3) hx hb f2 g2).imp ?_
          rintro ⟨_, I1, J1⟩ ⟨rfl, a0, a1, a2, a3, a4⟩
          dsimp only at a0 a1 a2 a3 a4 ⊢
          have fr1 : ∀ a j, ¬ cReg a j → I1 a j = I a j := fun a j hr => (a4 a j hr).trans (g3 a j hr)
          have hcm := cmu_8 w w.2.2 n x b
          have e17 : I1 61 17 = nt n := (fr1 61 17 (by unfold cReg; omega)).trans h0
          unfold f_X12_coded_13 f_X12_coded_14
          refine ok_loop (fun i s => ∃ v, s = (nt k, nt x, v, nt b, nt i, I1, J1) ∧ ∀ q, q < 32 → bt v q = ((decide (q < b) && ex (cmu w w.2.2 n x q) (fun i => (hh (crw n w w.2.2 x q i)).testBit k)) || (decide (q = b) && ex i (fun i => (hh (crw n w w.2.2 x b i)).testBit k)))) (cmu w w.2.2 n x b) ?_ ?_ 5000 0 _ (by omega) (by omega) ⟨v, rfl, ?_⟩
          · rintro i hi s ⟨v, rfl, k1⟩
            simp (disch := omega) only [b_X12_coded_14, f_X12_coded_15, a0, a1 i hi, rbits_ok hn e17, Option.bind_some, f_X12_coded_16, heldBy_ok hb3 (a2.1.1 i hi), f_X12_coded_17, has_ok (show k < 32 from by omega), f_X12_coded_18, f_X12_coded_19, f_X12_coded_20, bi_0, bt_nt, nt_31, nt_clamp, nt_le, nt_lt, nt_eq, lit_le, lit_lt, le_lit, lt_lit, eq_lit, lit_eq, nt_neg, nt_ge, nt_add, nt_mul, nt_addl, lit_add, nt_mull, lit_mul, nt_sub, nt_subl, lit_sub, nt_divl, nt_m1, nt_m2, nt_m1', nt_m2', false_or, if_neg]
            rw [decide_eq_true (show k < 32 from by omega), Bool.true_and]
            cases e : (hh (crw n w w.2.2 x b i)).testBit k with
            | false =>
              rw [if_pos rfl]
              refine ok_some ⟨v, rfl, ?_⟩
              intro q hq
              rw [k1 q hq, ex_s, e, Bool.or_false]
            | true =>
              rw [if_neg (by decide)]
              refine ok_some ⟨_, rfl, ?_⟩
              intro q hq
              rw [bt_or, k1 q hq, one_shl (by omega) hq, ex_s, e, Bool.or_true, Bool.and_true]
              cases (decide (q < b) && ex (cmu w w.2.2 n x q) (fun i => (hh (crw n w w.2.2 x q i)).testBit k)) <;> cases decide (q = b) <;> cases ex i (fun i => (hh (crw n w w.2.2 x b i)).testBit k) <;> rfl
          · rintro s ⟨v, rfl, k1⟩
            simp (disch := omega) only [b_X12_coded_14, f_X12_coded_21, a0, nt_clamp, nt_le, nt_lt, nt_eq, lit_le, lit_lt, le_lit, lt_lit, eq_lit, lit_eq, nt_neg, nt_ge, nt_add, nt_mul, nt_addl, lit_add, nt_mull, lit_mul, nt_sub, nt_subl, lit_sub, nt_divl, nt_m1, nt_m2, nt_m1', nt_m2', if_true, if_false, if_pos, if_neg, e01, e10, em12, em21, e0m1, e0m2, e1m1, e1m2, em10, em20, Int32.reduceLT, Int32.reduceLE, eq_self, Option.bind_some, Option.map_some, false_or, or_false, or_self, true_or, or_true, not_true_eq_false, not_false_eq_true, false_and, and_false, true_and, and_true]
            refine ok_some ⟨v, _, I1, rfl, ?_, a3, fr1⟩
            intro q hq
            rw [k1 q hq]
            by_cases c : q = b
            · subst c
              rw [decide_eq_false (by omega), decide_eq_true rfl, decide_eq_true (by omega)]; rfl
            · rw [decide_eq_false c, Bool.false_and, Bool.or_false]
              by_cases c2 : q < b
              · rw [decide_eq_true c2, decide_eq_true (by omega)]
              · rw [decide_eq_false c2, decide_eq_false (by omega)]
          · intro q hq
            rw [g1 q hq]
            show _ = (_ || (decide (q = b) && false))
            rw [Bool.and_false, Bool.or_false]
        · rintro s ⟨v, z, I', rfl, g1, g2, g3⟩
          obtain ⟨f0, f1, f2⟩ := fr_ok I' g3
          simp (disch := omega) only [b_X12_coded_10, f_X12_coded_11, f_X12_coded_22, rbits_ok hn f0, Option.bind_some, nt_clamp, nt_le, nt_lt, nt_eq, lit_le, lit_lt, le_lit, lt_lit, eq_lit, lit_eq, nt_neg, nt_ge, nt_add, nt_mul, nt_addl, lit_add, nt_mull, lit_mul, nt_sub, nt_subl, lit_sub, nt_divl, nt_m1, nt_m2, nt_m1', nt_m2', if_true, if_false, if_pos, if_neg, e01, e10, em12, em21, e0m1, e0m2, e1m1, e1m2, em10, em20, Int32.reduceLT, Int32.reduceLE, eq_self, Option.bind_some, Option.map_some, false_or, or_false, or_self, true_or, or_true, not_true_eq_false, not_false_eq_true, false_and, and_false, true_and, and_true]
          refine ok_some ⟨rfl, ?_, g2, g3⟩
          show v = _
          apply bt_ext
          intro q hq
          unfold ncd
          rw [g1 q hq, bt_nt, decide_eq_true hq, Bool.true_and, mkn_tb]
