/-! cubes: a row of as few as can be; the class's least -/
def cvp (off R k : Nat) (p : Nat → Nat) : Prop := (∀ i, i < k → okc off (p i) = true) ∧ ∀ b, R.testBit b = true → ∃ i, i < k ∧ (hh (p i)).testBit b = true
theorem cn_one (a k : Nat) : cn k (fun c => c == a) ≤ if a < k then 1 else 0 := by
  induction k with
  | zero => exact Nat.zero_le _
  | succ k ih =>
    show cn k (fun c => c == a) + (if (k == a) = true then 1 else 0) ≤ _
    by_cases c : a = k
    · subst c
      rw [if_neg (by omega)] at ih
      rw [if_pos (by simp), if_pos (by omega)]; omega
    · rw [if_neg (show ¬ (k == a) = true from by simp; omega)]
      by_cases c1 : a < k
      · rw [if_pos c1] at ih; rw [if_pos (by omega)]; exact ih
      · rw [if_neg c1] at ih; exact Nat.le_trans ih (Nat.zero_le _)
theorem cn_mem (k : Nat) (l : List Nat) : cn k (fun c => l.contains c) ≤ l.length := by
  induction l with
  | nil =>
    have : ∀ k, cn k (fun c => ([] : List Nat).contains c) = 0 := by
      intro k
      induction k with
      | zero => rfl
      | succ k ih => show cn k (fun c => ([] : List Nat).contains c) + 0 = 0; rw [ih]
    rw [this]; exact Nat.zero_le _
  | cons a l ih =>
    have h1 : cn k (fun c => (a :: l).contains c) ≤ cn k (fun c => c == a) + cn k (fun c => l.contains c) := by
      refine Nat.le_trans (cn_mono (q := fun c => (c == a) || l.contains c) ?_) cn_or
      intro c _ h
      rw [List.contains_cons] at h
      exact h
    have h2 := cn_one a k
    have h3 : (if a < k then 1 else 0) ≤ 1 := by split <;> omega
    rw [List.length_cons]
    omega
theorem fl_inc {p : Nat → Bool} {k i j : Nat} (hij : i < j) (hj : j < (fl p k).length) : (fl p k).getD i 0 < (fl p k).getD j 0 := by
  have h : (fl p k).Pairwise (· < ·) := List.pairwise_lt_range.filter p
  have := List.pairwise_iff_getElem.mp h i j (by omega) hj hij
  rw [List.getD_eq_getElem?_getD, List.getD_eq_getElem?_getD, List.getElem?_eq_getElem hj, List.getElem?_eq_getElem (show i < (fl p k).length from by omega)]
  exact this
theorem fl_in {p : Nat → Bool} {k i : Nat} (hi : i < (fl p k).length) : (fl p k).getD i 0 < k ∧ p ((fl p k).getD i 0) = true := by
  rw [List.getD_eq_getElem?_getD, List.getElem?_eq_getElem hi]
  exact fl_mem.mp (List.getElem_mem hi)
theorem fl_ix {p : Nat → Bool} {k x : Nat} (h : x ∈ fl p k) : ∃ i, i < (fl p k).length ∧ (fl p k).getD i 0 = x := by
  obtain ⟨i, hi, e⟩ := List.getElem_of_mem h
  refine ⟨i, hi, ?_⟩
  rw [List.getD_eq_getElem?_getD, List.getElem?_eq_getElem hi]
  exact e
theorem redu : ∀ v, v < 4 → ∀ c, c < 27 → ex (2 ^ v) (fun b => (hh c).testBit b) = true → (al (2 ^ v) (fun b => (hh (c % 3 ^ v)).testBit b == (hh c).testBit b) && al 8 (fun b => !(hh (c % 3 ^ v)).testBit b || (hh c).testBit b)) = true := by decide +kernel
theorem pow3 : ∀ v, v < 4 → 3 ^ v ≤ 27 ∧ 0 < 3 ^ v ∧ 2 ^ v ≤ 8 ∧ 2 ^ 2 ^ v ≤ 256 := by decide
theorem okc_sub {off a b : Nat} (ha : hh a < 256) (h : ∀ k, k < 8 → (hh a).testBit k = true → (hh b).testBit k = true) (ho : okc off b = true) : okc off a = true := by
  unfold okc at ho ⊢
  have ho := of_decide_eq_true ho
  apply decide_eq_true
  apply Nat.eq_of_testBit_eq
  intro k
  have h1 : (hh b &&& off).testBit k = false := by rw [ho, Nat.zero_testBit]
  rw [Nat.testBit_and] at h1
  rw [Nat.testBit_and, Nat.zero_testBit]
  by_cases c : k < 8
  · cases e : (hh a).testBit k with
    | false => rfl
    | true => rw [h k c e, Bool.true_and] at h1; rw [h1]; rfl
  · rw [tb_hi ha (by omega)]; rfl
theorem pick_ex {v off R : Nat} (hv : v ≤ 3) (hR : R < 2 ^ 2 ^ v) (hd : R &&& off = 0) : ∃ p, Pk (3 ^ v) (mu off R) p ∧ cvp off R (mu off R) p := by
  have hw := pow3 v (by omega)
  have hR2 : R < 256 := by omega
  obtain ⟨l, l1, l2, l3⟩ := mu_ex 8 R (pp8_le R) hR2 hd
  have bit_lt : ∀ b, R.testBit b = true → b < 2 ^ v := by
    intro b hb
    rcases Nat.lt_or_ge b (2 ^ v) with c | c
    · exact c
    · rw [Nat.testBit_lt_two_pow (Nat.lt_of_lt_of_le hR (Nat.pow_le_pow_right (n := 2) (by omega) c))] at hb; cases hb
  have red : ∀ c, c ∈ l → (∀ b, b < 2 ^ v → (hh (c % 3 ^ v)).testBit b = (hh c).testBit b) ∧ okc off (c % 3 ^ v) = true := by
    intro c hc
    have hc27 := (l1.1 c hc).1
    obtain ⟨b, b1, b2⟩ := l3 c hc
    have hr := redu v (by omega) c hc27 (ex_iff.mpr ⟨b, bit_lt b b1, b2⟩)
    rw [Bool.and_eq_true, al_iff, al_iff] at hr
    refine ⟨fun b hb => by simpa using hr.1 b hb, ?_⟩
    have hm : c % 3 ^ v < 27 := Nat.lt_of_lt_of_le (Nat.mod_lt _ hw.2.1) hw.1
    refine okc_sub (hh_lt _ hm) ?_ (l1.1 c hc).2
    intro k hk he
    have := hr.2 k hk
    rw [he] at this
    simpa using this
  generalize hl' : l.map (fun c => c % 3 ^ v) = l'
  generalize hf : fl (fun c => l'.contains c) (3 ^ v) = f
  have f1 : f.length ≤ mu off R := by
    rw [← hf, fl_cn, ← l2]
    refine Nat.le_trans (cn_mem _ _) ?_
    rw [← hl', List.length_map]; exact Nat.le_refl _
  have mem_f : ∀ c, c ∈ f ↔ c < 3 ^ v ∧ c ∈ l' := by
    intro c
    rw [← hf, fl_mem, List.contains_iff_mem]
  have f2 : cvl off R f := by
    refine ⟨?_, ?_⟩
    · intro c hc
      have := (mem_f c).mp hc
      refine ⟨by omega, ?_⟩
      rw [← hl'] at this
      obtain ⟨d, hd1, rfl⟩ := List.mem_map.mp this.2
      exact (red d hd1).2
    · intro b hb
      obtain ⟨c, c1, c2⟩ := l1.2 b hb
      refine ⟨c % 3 ^ v, (mem_f _).mpr ⟨Nat.mod_lt _ hw.2.1, by rw [← hl']; exact List.mem_map.mpr ⟨c, c1, rfl⟩⟩, ?_⟩
      rw [(red c c1).1 b (bit_lt b hb)]; exact c2
  have f3 := mu_le _ f R rfl hR2 f2
  have f4 : f.length = mu off R := by omega
  refine ⟨fun i => f.getD i 0, ⟨?_, ?_⟩, ?_, ?_⟩
  · intro i hi
    dsimp only
    rw [← hf] at f4 ⊢
    exact (fl_in (by omega)).1
  · intro i j hij hj
    dsimp only
    rw [← hf] at f4 ⊢
    exact fl_inc hij (by omega)
  · intro i hi
    refine (f2.1 _ ?_).2
    have hi2 : i < f.length := by omega
    show f.getD i 0 ∈ f
    rw [List.getD_eq_getElem?_getD, List.getElem?_eq_getElem hi2]
    exact List.getElem_mem hi2
  · intro b hb
    obtain ⟨c, c1, c2⟩ := f2.2 b hb
    rw [← hf] at c1
    obtain ⟨i, i1, i2⟩ := fl_ix c1
    refine ⟨i, ?_, ?_⟩
    · rw [hf] at i1; omega
    · show (hh (f.getD i 0)).testBit b = true
      rw [← hf, i2]; exact c2
theorem mu_cvp {off R k : Nat} {p : Nat → Nat} (hR : R < 256) (hp : ∀ i, i < k → p i < 27) (h : cvp off R k p) : mu off R ≤ k := by
  have := mu_le (off := off) _ ((List.range k).map p) R rfl hR ⟨?_, ?_⟩
  · rw [List.length_map, List.length_range] at this; exact this
  · intro c hc
    obtain ⟨i, hi, rfl⟩ := List.mem_map.mp hc
    exact ⟨hp i (List.mem_range.mp hi), h.1 i (List.mem_range.mp hi)⟩
  · intro b hb
    obtain ⟨i, i1, i2⟩ := h.2 b hb
    exact ⟨p i, List.mem_map.mpr ⟨i, List.mem_range.mpr i1, rfl⟩, i2⟩
/-- digits of three -/
def th : Nat → Nat → Nat
  | 0, _ => 0
  | k + 1, S => 3 * th k (S / 2) + S % 2
theorem dj2 {R O : Nat} (h : R &&& O = 0) : (R / 2) &&& (O / 2) = 0 ∧ (R % 2 = 0 ∨ O % 2 = 0) := by
  have ht : ∀ k, (R.testBit k && O.testBit k) = false := by
    intro k
    rw [← Nat.testBit_and, h, Nat.zero_testBit]
  refine ⟨?_, ?_⟩
  · apply Nat.eq_of_testBit_eq
    intro k
    rw [Nat.testBit_and, Nat.zero_testBit, Nat.testBit_div_two, Nat.testBit_div_two]
    exact ht (k + 1)
  · have := ht 0
    rw [Nat.testBit_zero, Nat.testBit_zero] at this
    rcases Nat.mod_two_eq_zero_or_one R with c | c
    · exact Or.inl c
    · rcases Nat.mod_two_eq_zero_or_one O with c' | c'
      · exact Or.inr c'
      · rw [c, c'] at this; cases this
theorem th_lt : ∀ k R O, R &&& O = 0 → th k R + 2 * th k O < 3 ^ k := by
  intro k
  induction k with
  | zero => intro R O _; exact Nat.zero_lt_one
  | succ k ih =>
    intro R O h
    have h2 := dj2 h
    have := ih _ _ h2.1
    unfold th
    rw [Nat.pow_succ]
    omega
theorem th_inj : ∀ k R O R' O', R < 2 ^ k → O < 2 ^ k → R' < 2 ^ k → O' < 2 ^ k → R &&& O = 0 → R' &&& O' = 0 → th k R + 2 * th k O = th k R' + 2 * th k O' → R = R' ∧ O = O' := by
  intro k
  induction k with
  | zero => intro R O R' O' h1 h2 h3 h4; omega
  | succ k ih =>
    intro R O R' O' h1 h2 h3 h4 d1 d2 e
    have a := dj2 d1
    have b := dj2 d2
    unfold th at e
    rw [Nat.pow_succ] at h1 h2 h3 h4
    have := ih (R / 2) (O / 2) (R' / 2) (O' / 2) (by omega) (by omega) (by omega) (by omega) a.1 b.1 (by omega)
    omega
def cT (I : xI) : Prop := (∀ c, c < 27 → I 52 c = nt (hh c)) ∧ ∀ S, S < 256 → I 53 S = nt (th 8 S)
def mK (I : xI) : Prop := ∀ R O, R < 256 → O < 256 → R &&& O = 0 → ¬ R = 0 → I 54 (th 8 R + 2 * th 8 O) = 0 ∨ I 54 (th 8 R + 2 * th 8 O) = nt (mu O R + 1)
theorem ntz_256 : ∀ S, S < 256 → ¬ S = 0 → ntzf (nt S) = nt (lo S) := by decide +kernel
theorem i8_ok : ∀ k, k < 128 → Int8.toInt32 (Int32.toInt8 (nt k)) = nt k := by decide +kernel
theorem hb_ok {c k : Nat} (hk : k < 32) : ((nt c >>> (nt k &&& 31)) &&& 1 = 1) = (c.testBit k = true) := by
  rw [nt_31 k hk, has_bi hk, bi_1, bt_nt, decide_eq_true hk, Bool.true_and]
theorem least_ok {off : Nat} (hoff : off < 256) : ∀ (r d R : Nat) (I : xI) (J : xJ), 8 < r + d → d ≤ 8 → R < 256 → R &&& off = 0 → pp8 R + d ≤ 8 → I 51 8 = nt off → cT I → mK I → Ok (f_X2_least r (nt R) (nt d) I J) (fun o => o.2.2 = J ∧ o.1 = nt (mu off R) ∧ mK o.2.1 ∧ ∀ c j, ¬ c = 54 → o.2.1 c j = I c j) := by
  intro r
  induction r with
  | zero => intro d R I J h1 h2; omega
  | succ r ih =>
    intro d R I J hr hd8 hR hdj hpp h8 hT hM
    show Ok (f_X2_least_0 (f_X2_least r) (nt R) (nt d) I J) _
    simp (disch := omega) only [f_X2_least_0, nt_clamp, nt_le, nt_lt, nt_eq, lit_le, lit_lt, le_lit, lt_lit, eq_lit, lit_eq, nt_neg, nt_ge, nt_add, nt_mul, nt_addl, lit_add, nt_mull, lit_mul, nt_sub, nt_subl, lit_sub, nt_divl, nt_m1, nt_m2, nt_m1', nt_m2']
    by_cases c0 : R = 0
    · rw [if_pos c0]
      refine ok_some ⟨rfl, ?_, hM, fun _ _ _ => rfl⟩
      rw [c0, mu_0]; rfl
    · rw [if_neg c0]
      have hd : d < 8 := by
        rcases Nat.lt_or_ge d 8 with c | c
        · exact c
        · exact absurd (pp8_0 hR (by omega)) c0
      have hat := th_lt 8 R off hdj
      have e3 : (3 : Nat) ^ 8 = 6561 := by decide
      have hm8 := mu_8 (off := off) hR
      simp (disch := omega) only [f_X2_least_1, f_X2_least_3, h8, nt_clamp, nt_le, nt_lt, nt_eq, lit_le, lit_lt, le_lit, lt_lit, eq_lit, lit_eq, nt_neg, nt_ge, nt_add, nt_mul, nt_addl, lit_add, nt_mull, lit_mul, nt_sub, nt_subl, lit_sub, nt_divl, nt_m1, nt_m2, nt_m1', nt_m2', false_or, if_neg, if_pos, hT.2 R hR, hT.2 off hoff]
      unfold f_X2_least_4
      simp (disch := omega) only [nt_clamp, nt_le, nt_lt, nt_eq, lit_le, lit_lt, le_lit, lt_lit, eq_lit, lit_eq, nt_neg, nt_ge, nt_add, nt_mul, nt_addl, lit_add, nt_mull, lit_mul, nt_sub, nt_subl, lit_sub, nt_divl, nt_m1, nt_m2, nt_m1', nt_m2', false_or, if_neg]
      have six : ∀ z : Prop, z → Ok (f_X2_least_6 (f_X2_least r) (nt R) (nt d) (nt (th 8 R + 2 * th 8 off)) I J) (fun o => o.2.2 = J ∧ o.1 = nt (mu off R) ∧ mK o.2.1 ∧ ∀ c j, ¬ c = 54 → o.2.1 c j = I c j) := by
        intro _ _
        have hl := lo_ok hR c0
        simp only [f_X2_least_6, ntzf_ok, ntz_256 R hR c0, Option.bind_some, f_X2_least_7]
        unfold f_X2_least_8
        refine ok_loop (fun k s => ∃ z I', s = (nt R, nt d, nt (th 8 R + 2 * th 8 off), nt (lo R), nt (mnf (plo off R) (fun c => 1 + mu off (dif R (hh c))) 8 k), nt k, z, I', J) ∧ mK I' ∧ ∀ c j, ¬ c = 54 → I' c j = I c j) 27 ?_ ?_ 5000 0 _ (by omega) (by omega) ⟨none, I, rfl, hM, fun _ _ _ => rfl⟩
        · rintro k hk s ⟨z, I', rfl, g1, g2⟩
          have g52 : I' 52 k = nt (hh k) := (g2 52 k (by omega)).trans (hT.1 k hk)
          have g8 : I' 51 8 = nt off := (g2 51 8 (by omega)).trans h8
          have hi := mnf_i (plo off R) (fun c => 1 + mu off (dif R (hh c))) 8 k
          have hT' : cT I' := ⟨fun c hc => (g2 52 c (by omega)).trans (hT.1 c hc), fun c hc => (g2 53 c (by omega)).trans (hT.2 c hc)⟩
          have no : plo off R k = false → Ok (f_X2_least_13 (f_X2_least r) (nt R) (nt d) (nt (th 8 R + 2 * th 8 off)) (nt (lo R)) (nt (mnf (plo off R) (fun c => 1 + mu off (dif R (hh c))) 8 k)) (nt k) (nt (hh k)) I' J) (Sum.elim (fun s => ∃ z I', s = (nt R, nt d, nt (th 8 R + 2 * th 8 off), nt (lo R), nt (mnf (plo off R) (fun c => 1 + mu off (dif R (hh c))) 8 (k + 1)), nt (k + 1), z, I', J) ∧ mK I' ∧ ∀ c j, ¬ c = 54 → I' c j = I c j) (fun o => o.2.2 = J ∧ o.1 = nt (mu off R) ∧ mK o.2.1 ∧ ∀ c j, ¬ c = 54 → o.2.1 c j = I c j)) := by
            intro hn
            simp only [f_X2_least_13, nt_addl]
            refine ok_some ⟨some (.int (nt (hh k))), I', ?_, g1, g2⟩
            have : mnf (plo off R) (fun c => 1 + mu off (dif R (hh c))) 8 (k + 1) = mnf (plo off R) (fun c => 1 + mu off (dif R (hh c))) 8 k := by
              show (if plo off R k = true then _ else _) = _
              rw [hn]; rfl
            rw [this]
          simp (disch := omega) only [b_X2_least_8, f_X2_least_9, nt_clamp, nt_le, nt_lt, nt_eq, lit_le, lit_lt, le_lit, lt_lit, eq_lit, lit_eq, nt_neg, nt_ge, nt_add, nt_mul, nt_addl, lit_add, nt_mull, lit_mul, nt_sub, nt_subl, lit_sub, nt_divl, nt_m1, nt_m2, nt_m1', nt_m2', false_or, if_neg, g52, hb_ok (show lo R < 32 from by omega)]
          cases eh : (hh k).testBit (lo R) with
          | false =>
            rw [if_neg (by decide)]
            exact no (by unfold plo; rw [eh]; rfl)
          | true =>
            rw [if_pos rfl]
            have hh8 := hh_lt k hk
            have hand : hh k &&& off ≤ hh k := Nat.and_le_left
            simp (disch := omega) only [f_X2_least_10, g8, nt_and, nt_clamp, nt_le, nt_lt, nt_eq, lit_le, lit_lt, le_lit, lt_lit, eq_lit, lit_eq, nt_neg, nt_ge, nt_add, nt_mul, nt_addl, lit_add, nt_mull, lit_mul, nt_sub, nt_subl, lit_sub, nt_divl, nt_m1, nt_m2, nt_m1', nt_m2']
            by_cases co : hh k &&& off = 0
            · rw [if_pos co]
              have hpl : plo off R k = true := by unfold plo okc; rw [eh, decide_eq_true co]; rfl
              have hpd := pp8_dif hR c0 eh
              simp only [f_X2_least_11, nt_dif hR, nt_addl]
              apply ok_bind
              refine (ih (d + 1) (dif R (hh k)) I' J (by omega) (by omega) (dif_lt _ _) (dif_dj hR hdj) (by omega) g8 hT' g1).imp ?_
              rintro ⟨_, I2, J2⟩ ⟨rfl, rfl, b1, b2⟩
              dsimp only at b1 b2 ⊢
              have hmd := mu_8 (off := off) (dif_lt R (hh k))
              simp (disch := omega) only [f_X2_least_12, f_X2_least_13, nt_clamp, nt_le, nt_lt, nt_eq, lit_le, lit_lt, le_lit, lt_lit, eq_lit, lit_eq, nt_neg, nt_ge, nt_add, nt_mul, nt_addl, lit_add, nt_mull, lit_mul, nt_sub, nt_subl, lit_sub, nt_divl, nt_m1, nt_m2, nt_m1', nt_m2']
              refine ok_some ⟨some (.int (nt (hh k))), I2, ?_, b1, fun c j hc => (b2 c j hc).trans (g2 c j hc)⟩
              have : mnf (plo off R) (fun c => 1 + mu off (dif R (hh c))) 8 (k + 1) = if 1 + mu off (dif R (hh k)) < mnf (plo off R) (fun c => 1 + mu off (dif R (hh c))) 8 k then 1 + mu off (dif R (hh k)) else mnf (plo off R) (fun c => 1 + mu off (dif R (hh c))) 8 k := by
                show (if plo off R k = true then _ else _) = _
                rw [hpl, if_pos rfl]
              rw [this]
              split <;> rfl
            · rw [if_neg co]
              exact no (by unfold plo okc; rw [decide_eq_false co, Bool.and_false])
        · rintro s ⟨z, I', rfl, g1, g2⟩
          rw [← mu_s hR c0]
          simp (disch := omega) only [b_X2_least_8, f_X2_least_14, f_X2_least_15, f_X2_least_16, nt_clamp, nt_le, nt_lt, nt_eq, lit_le, lit_lt, le_lit, lt_lit, eq_lit, lit_eq, nt_neg, nt_ge, nt_add, nt_mul, nt_addl, lit_add, nt_mull, lit_mul, nt_sub, nt_subl, lit_sub, nt_divl, nt_m1, nt_m2, nt_m1', nt_m2', if_true, if_false, if_pos, if_neg, e01, e10, em12, em21, e0m1, e0m2, e1m1, e1m2, em10, em20, Int32.reduceLT, Int32.reduceLE, eq_self, Option.bind_some, Option.map_some, false_or, or_false, or_self, true_or, or_true, not_true_eq_false, not_false_eq_true, false_and, and_false, true_and, and_true, i8_ok]
          refine ok_some ⟨rfl, rfl, ?_, ?_⟩
          · intro R' O' h1 h2 h3 h4
            by_cases ce : th 8 R' + 2 * th 8 O' = th 8 R + 2 * th 8 off
            · have := th_inj 8 R' O' R off (by omega) (by omega) (by omega) (by omega) h3 hdj ce
              right
              show xup I' 54 _ _ 54 _ = _
              rw [ce, xup_at, this.1, this.2]
            · show xup I' 54 _ _ 54 _ = 0 ∨ xup I' 54 _ _ 54 _ = _
              rw [xup_j _ _ _ _ ce]
              exact g1 R' O' h1 h2 h3 h4
          · intro c j hc
            show xup I' 54 _ _ c j = _
            rw [xup_bj _ _ _ _ _ hc]; exact g2 c j hc
      rcases hM R off hR hoff hdj c0 with e | e
      · rw [if_pos e]
        exact six True trivial
      · rw [if_neg (by rw [e]; simp (disch := omega) only [nt_clamp, nt_le, nt_lt, nt_eq, lit_le, lit_lt, le_lit, lt_lit, eq_lit, lit_eq, nt_neg, nt_ge, nt_add, nt_mul, nt_addl, lit_add, nt_mull, lit_mul, nt_sub, nt_subl, lit_sub, nt_divl, nt_m1, nt_m2, nt_m1', nt_m2']; omega)]
        simp (disch := omega) only [f_X2_least_5, nt_clamp, nt_le, nt_lt, nt_eq, lit_le, lit_lt, le_lit, lt_lit, eq_lit, lit_eq, nt_neg, nt_ge, nt_add, nt_mul, nt_addl, lit_add, nt_mull, lit_mul, nt_sub, nt_subl, lit_sub, nt_divl, nt_m1, nt_m2, nt_m1', nt_m2', false_or, if_neg, e]
        refine ok_some ⟨rfl, ?_, hM, fun _ _ _ => rfl⟩
        show nt (mu off R + 1 - 1) = _
        rw [Nat.add_sub_cancel]
