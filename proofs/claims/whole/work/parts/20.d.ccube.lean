/-! cubes: sums; cube, sum and coded of the class -/
def ssum : Nat → (Nat → Nat) → Nat
  | 0, _ => 0
  | n + 1, f => ssum n f + f n
theorem ssum_le {f : Nat → Nat} {B : Nat} (h : ∀ i, f i ≤ B) : ∀ n, ssum n f ≤ n * B := by
  intro n
  induction n with
  | zero => exact Nat.zero_le _
  | succ n ih =>
    have := h n
    show ssum n f + f n ≤ (n + 1) * B
    rw [Nat.succ_mul]; omega
theorem ssum_mono {f : Nat → Nat} {a b : Nat} (h : a ≤ b) : ssum a f ≤ ssum b f := by
  induction b with
  | zero => rw [Nat.le_zero.mp h]; exact Nat.le_refl _
  | succ b ih =>
    by_cases c : a = b + 1
    · rw [c]; exact Nat.le_refl _
    · have := ih (by omega)
      show ssum a f ≤ ssum b f + f b
      omega
theorem ssum_ge {f g : Nat → Nat} : ∀ n, (∀ i, i < n → f i ≤ g i) → ssum n f ≤ ssum n g := by
  intro n
  induction n with
  | zero => intro _; exact Nat.le_refl _
  | succ n ih =>
    intro h
    have h1 := ih (fun i hi => h i (by omega))
    have h2 := h n (by omega)
    show ssum n f + f n ≤ ssum n g + g n
    omega
theorem ssum_add (f g : Nat → Nat) : ∀ n, ssum n (fun i => f i + g i) = ssum n f + ssum n g := by
  intro n
  induction n with
  | zero => rfl
  | succ n ih =>
    show ssum n (fun i => f i + g i) + (f n + g n) = (ssum n f + f n) + (ssum n g + g n)
    rw [ih]; omega
theorem ssum_zero : ∀ n, ssum n (fun _ => 0) = 0 := by
  intro n
  induction n with
  | zero => rfl
  | succ n ih => show ssum n (fun _ => 0) + 0 = 0; rw [ih]
theorem ssum_comm (F : Nat → Nat → Nat) (a : Nat) : ∀ b, ssum b (fun j => ssum a (fun i => F i j)) = ssum a (fun i => ssum b (fun j => F i j)) := by
  intro b
  induction b with
  | zero => exact (ssum_zero a).symm
  | succ b ih =>
    show ssum b (fun j => ssum a (fun i => F i j)) + ssum a (fun i => F i b) = ssum a (fun i => ssum b (fun j => F i j) + F i b)
    rw [ih, ssum_add]
def smT (w : aT) (c : Nat → Nat) (ns m v : Nat) : Nat := ssum m (fun x => ssum v (fun b => cmu w c ns x b))
theorem smT_le (w : aT) (c : Nat → Nat) (ns m v : Nat) : smT w c ns m v ≤ m * (v * 8) := ssum_le (fun x => ssum_le (fun b => cmu_8 w c ns x b) v) m
theorem total4_ok {n m ns lim : Nat} {w : aT} {c : Nat → Nat} {I : xI} {J : xJ} (hn : n ≤ 6) (hm : m ≤ 4) (V : Vd n m w) (h : cMa n m w (I 1 0) (I 1 1) (I 2) (I 3) (I 4)) (hns : ns ≤ n) (hc : ∀ s, s < ns → I 4 s = nt (c s) ∧ c s < 8) (hi : inj6 c ns) (hl : lim ≤ 1000) (hT : cT I) (hM : mK I) : Ok (f_X2_total_4 (nt ns) (nt lim) I J) (fun o => o.2.2 = J ∧ (∃ T, o.1 = nt T ∧ T ≤ smT w c ns m (nb n) ∧ (T = smT w c ns m (nb n) ∨ lim ≤ T)) ∧ mK o.2.1 ∧ ∀ a j, ¬ zReg a j → o.2.1 a j = I a j) := by
  have hb3 := nb_le n
  have hb96 : m * (nb n * 8) ≤ 4 * (3 * 8) := Nat.mul_le_mul hm (Nat.mul_le_mul hb3 (Nat.le_refl _))
  have hx24 : ∀ x, ssum (nb n) (fun b => cmu w c ns x b) ≤ nb n * 8 := fun x => ssum_le (fun b => cmu_8 w c ns x b) _
  have hmx : ∀ x, x ≤ m → ssum x (fun x => ssum (nb n) (fun b => cmu w c ns x b)) ≤ 96 := fun x hx => Nat.le_trans (ssum_le hx24 x) (Nat.le_trans (Nat.mul_le_mul hx (Nat.le_refl _)) hb96)
  have fr_ok : ∀ I' : xI, (∀ a j, ¬ zReg a j → I' a j = I a j) → cMa n m w (I' 1 0) (I' 1 1) (I' 2) (I' 3) (I' 4) ∧ cT I' ∧ (∀ s, s < ns → I' 4 s = nt (c s) ∧ c s < 8) := by
    intro I' hf
    refine ⟨?_, ⟨fun c hc => (hf 52 c (by unfold zReg; omega)).trans (hT.1 c hc), fun c hc => (hf 53 c (by unfold zReg; omega)).trans (hT.2 c hc)⟩, fun s hs => ⟨(hf 4 s (by unfold zReg; omega)).trans (hc s hs).1, (hc s hs).2⟩⟩
    rw [hf 1 0 (by unfold zReg; omega), hf 1 1 (by unfold zReg; omega), show I' 2 = I 2 from funext fun j => hf 2 j (by unfold zReg; omega), show I' 3 = I 3 from funext fun j => hf 3 j (by unfold zReg; omega), show I' 4 = I 4 from funext fun j => hf 4 j (by unfold zReg; omega)]
    exact h
  unfold f_X2_total_4 f_X2_total_4_0 f_X2_total_4_1
  refine ok_loop (fun x s => ∃ z T I', s = (nt ns, nt lim, nt T, nt x, z, I', J) ∧ T ≤ ssum x (fun x => ssum (nb n) (fun b => cmu w c ns x b)) ∧ (T = ssum x (fun x => ssum (nb n) (fun b => cmu w c ns x b)) ∨ lim ≤ T) ∧ mK I' ∧ ∀ a j, ¬ zReg a j → I' a j = I a j) m ?_ ?_ 5000 0 _ (by omega) (by omega) ⟨none, 0, I, rfl, Nat.le_refl _, Or.inl rfl, hM, fun _ _ _ => rfl⟩
  · rintro x hx s ⟨z, T, I', rfl, t1, t2, g1, g2⟩
    obtain ⟨f1, f2, f3⟩ := fr_ok I' g2
    have hT96 := hmx x (by omega)
    have hms : ssum x (fun x => ssum (nb n) (fun b => cmu w c ns x b)) ≤ smT w c ns m (nb n) := ssum_mono (by omega)
    simp (disch := omega) only [b_X2_total_4_1, f_X2_total_4_2, f1.2.1, nt_clamp, nt_le, nt_lt, nt_eq, lit_le, lit_lt, le_lit, lt_lit, eq_lit, lit_eq, nt_neg, nt_ge, nt_add, nt_mul, nt_addl, lit_add, nt_mull, lit_mul, nt_sub, nt_subl, lit_sub, nt_divl, nt_m1, nt_m2, nt_m1', nt_m2', if_neg]
    by_cases cl : lim ≤ T
    · rw [if_pos cl]
      exact ok_some ⟨rfl, ⟨T, rfl, by omega, Or.inr cl⟩, g1, g2⟩
    · rw [if_neg cl]
      have t2 : T = ssum x (fun x => ssum (nb n) (fun b => cmu w c ns x b)) := by
        rcases t2 with e | e
        · exact e
        · exact absurd e cl
      unfold f_X2_total_4_3
      apply ok_bind
      refine (look4_ok hn hm V f1 hns hx f3).imp ?_
      rintro ⟨_, I1, J1⟩ ⟨rfl, a1, a2, a3⟩
      dsimp only at a1 a2 a3 ⊢
      have fr1 : ∀ a j, ¬ zReg a j → I1 a j = I a j := fun a j hr => (a3 a j (by unfold zReg at hr; omega)).trans (g2 a j hr)
      have hM1 : mK I1 := by
        intro R O h1 h2 h3 h4
        rw [a3 54 _ (by omega)]; exact g1 R O h1 h2 h3 h4
      unfold f_X2_total_4_4 f_X2_total_4_5
      have hb24 := hx24 x
      have hsx : ssum (x + 1) (fun x => ssum (nb n) (fun b => cmu w c ns x b)) = T + ssum (nb n) (fun b => cmu w c ns x b) := by rw [t2]; rfl
      refine ok_loop (fun b s => ∃ I', s = (nt ns, nt lim, nt (T + ssum b (fun b => cmu w c ns x b)), nt x, nt b, I', J1) ∧ (∀ k, k < 32 → bt (I' 51 5) k = ex ns (fun s => ldb w ns x s && decide (c s = k))) ∧ (∀ b, b < 3 → ∀ k, k < 8 → bt (I' 51 6) (8 * b + k) = ex ns (onb w c ns x b k)) ∧ mK I' ∧ ∀ a j, ¬ zReg a j → I' a j = I a j) (nb n) ?_ ?_ 5000 0 _ (by omega) (by omega) ⟨I1, rfl, a1, a2, hM1, fr1⟩
      · rintro b hb s ⟨I2, rfl, k1, k2, k3, k4⟩
        obtain ⟨q1, q2, q3⟩ := fr_ok I2 k4
        have hbs : ssum b (fun b => cmu w c ns x b) ≤ ssum (nb n) (fun b => cmu w c ns x b) := ssum_mono (by omega)
        have hcm := cmu_8 w c ns x b
        simp (disch := omega) only [b_X2_total_4_5, cbits_ok hn q1.1, Option.bind_some, f_X2_total_4_6, f_X2_total_4_7, nt_clamp, nt_le, nt_lt, nt_eq, lit_le, lit_lt, le_lit, lt_lit, eq_lit, lit_eq, nt_neg, nt_ge, nt_add, nt_mul, nt_addl, lit_add, nt_mull, lit_mul, nt_sub, nt_subl, lit_sub, nt_divl, nt_m1, nt_m2, nt_m1', nt_m2', if_neg]
        by_cases cl2 : lim ≤ T + ssum b (fun b => cmu w c ns x b)
        · rw [if_pos cl2]
          simp only [f_X2_total_4_11, Option.map_some, nt_addl]
          exact ok_some ⟨_, T + ssum b (fun b => cmu w c ns x b), I2, rfl, by omega, Or.inr cl2, k3, k4⟩
        · rw [if_neg cl2]
          unfold f_X2_total_4_8
          apply ok_bind
          refine (aim_ok (b := b) (fun s hs => (hc s hs).2) hi (by omega) k1 k2).imp ?_
          rintro ⟨_, I3, J3⟩ ⟨rfl, b1, b2, b3⟩
          dsimp only at b1 b2 b3 ⊢
          have hT3 : cT I3 := ⟨fun c hc => (b3 52 c (by omega)).trans (q2.1 c hc), fun c hc => (b3 53 c (by omega)).trans (q2.2 c hc)⟩
          have hM3 : mK I3 := by
            intro R O h1 h2 h3 h4
            rw [b3 54 _ (by omega)]; exact k3 R O h1 h2 h3 h4
          simp only [f_X2_total_4_9, b1]
          apply ok_bind
          have hpp := pp8_le (onS w c ns x b)
          refine (least_ok (ofS_lt w c ns x b) 12 0 (onS w c ns x b) I3 J3 (by omega) (by omega) (onS_lt _ _ _ _ _) (onof hi) (by omega) b2 hT3 hM3).imp ?_
          rintro ⟨_, I4, J4⟩ ⟨rfl, rfl, c1, c2⟩
          dsimp only at c1 c2 ⊢
          simp only [f_X2_total_4_10, nt_add, nt_addl]
          refine ok_some ⟨I4, ?_, ?_, ?_, c1, ?_⟩
          · rw [show T + ssum b (fun b => cmu w c ns x b) + mu (ofS w c ns x b) (onS w c ns x b) = T + ssum (b + 1) (fun b => cmu w c ns x b) from Nat.add_assoc _ _ _]
          · intro k hk
            rw [c2 51 5 (by omega), b3 51 5 (by omega)]; exact k1 k hk
          · intro b' hb' k hk
            rw [c2 51 6 (by omega), b3 51 6 (by omega)]; exact k2 b' hb' k hk
          · intro a j hr
            have hr' := hr
            unfold zReg at hr'
            exact ((c2 a j (by omega)).trans (b3 a j (by omega))).trans (k4 a j hr)
      · rintro s ⟨I2, rfl, k1, k2, k3, k4⟩
        obtain ⟨q1, q2, q3⟩ := fr_ok I2 k4
        simp (disch := omega) only [b_X2_total_4_5, cbits_ok hn q1.1, Option.bind_some, f_X2_total_4_6, f_X2_total_4_11, nt_clamp, nt_le, nt_lt, nt_eq, lit_le, lit_lt, le_lit, lt_lit, eq_lit, lit_eq, nt_neg, nt_ge, nt_add, nt_mul, nt_addl, lit_add, nt_mull, lit_mul, nt_sub, nt_subl, lit_sub, nt_divl, nt_m1, nt_m2, nt_m1', nt_m2', if_true, if_false, if_pos, if_neg, e01, e10, em12, em21, e0m1, e0m2, e1m1, e1m2, em10, em20, Int32.reduceLT, Int32.reduceLE, eq_self, Option.bind_some, Option.map_some, false_or, or_false, or_self, true_or, or_true, not_true_eq_false, not_false_eq_true, false_and, and_false, true_and, and_true]
        exact ok_some ⟨_, T + ssum (nb n) (fun b => cmu w c ns x b), I2, rfl, by omega, Or.inl (by rw [hsx]), k3, k4⟩
  · rintro s ⟨z, T, I', rfl, t1, t2, g1, g2⟩
    obtain ⟨f1, f2, f3⟩ := fr_ok I' g2
    simp (disch := omega) only [b_X2_total_4_1, f_X2_total_4_12, f1.2.1, nt_clamp, nt_le, nt_lt, nt_eq, lit_le, lit_lt, le_lit, lt_lit, eq_lit, lit_eq, nt_neg, nt_ge, nt_add, nt_mul, nt_addl, lit_add, nt_mull, lit_mul, nt_sub, nt_subl, lit_sub, nt_divl, nt_m1, nt_m2, nt_m1', nt_m2', if_true, if_false, if_pos, if_neg, e01, e10, em12, em21, e0m1, e0m2, e1m1, e1m2, em10, em20, Int32.reduceLT, Int32.reduceLE, eq_self, Option.bind_some, Option.map_some, false_or, or_false, or_self, true_or, or_true, not_true_eq_false, not_false_eq_true, false_and, and_false, true_and, and_true]
    exact ok_some ⟨rfl, ⟨T, rfl, t1, t2⟩, g1, g2⟩
theorem total57_ok {n m ns lim : Nat} {w : aT} {c : Nat → Nat} {I : xI} {J : xJ} (hn : n ≤ 6) (hm : m ≤ 4) (V : Vd n m w) (h : cMa n m w (I 1 0) (I 1 1) (I 2) (I 3) (I 4)) (hns : ns ≤ n) (hc : ∀ s, s < ns → I 57 s = nt (c s) ∧ c s < 8) (hi : inj6 c ns) (hl : lim ≤ 1000) (hT : cT I) (hM : mK I) : Ok (f_X2_total_57 (nt ns) (nt lim) I J) (fun o => o.2.2 = J ∧ (∃ T, o.1 = nt T ∧ T ≤ smT w c ns m (nb n) ∧ (T = smT w c ns m (nb n) ∨ lim ≤ T)) ∧ mK o.2.1 ∧ ∀ a j, ¬ zReg a j → o.2.1 a j = I a j) := by
  have hb3 := nb_le n
  have hb96 : m * (nb n * 8) ≤ 4 * (3 * 8) := Nat.mul_le_mul hm (Nat.mul_le_mul hb3 (Nat.le_refl _))
  have hx24 : ∀ x, ssum (nb n) (fun b => cmu w c ns x b) ≤ nb n * 8 := fun x => ssum_le (fun b => cmu_8 w c ns x b) _
  have hmx : ∀ x, x ≤ m → ssum x (fun x => ssum (nb n) (fun b => cmu w c ns x b)) ≤ 96 := fun x hx => Nat.le_trans (ssum_le hx24 x) (Nat.le_trans (Nat.mul_le_mul hx (Nat.le_refl _)) hb96)
  have fr_ok : ∀ I' : xI, (∀ a j, ¬ zReg a j → I' a j = I a j) → cMa n m w (I' 1 0) (I' 1 1) (I' 2) (I' 3) (I' 4) ∧ cT I' ∧ (∀ s, s < ns → I' 57 s = nt (c s) ∧ c s < 8) := by
    intro I' hf
    refine ⟨?_, ⟨fun c hc => (hf 52 c (by unfold zReg; omega)).trans (hT.1 c hc), fun c hc => (hf 53 c (by unfold zReg; omega)).trans (hT.2 c hc)⟩, fun s hs => ⟨(hf 57 s (by unfold zReg; omega)).trans (hc s hs).1, (hc s hs).2⟩⟩
    rw [hf 1 0 (by unfold zReg; omega), hf 1 1 (by unfold zReg; omega), show I' 2 = I 2 from funext fun j => hf 2 j (by unfold zReg; omega), show I' 3 = I 3 from funext fun j => hf 3 j (by unfold zReg; omega), show I' 4 = I 4 from funext fun j => hf 4 j (by unfold zReg; omega)]
    exact h
  unfold f_X2_total_57 f_X2_total_57_0 f_X2_total_57_1
  refine ok_loop (fun x s => ∃ z T I', s = (nt ns, nt lim, nt T, nt x, z, I', J) ∧ T ≤ ssum x (fun x => ssum (nb n) (fun b => cmu w c ns x b)) ∧ (T = ssum x (fun x => ssum (nb n) (fun b => cmu w c ns x b)) ∨ lim ≤ T) ∧ mK I' ∧ ∀ a j, ¬ zReg a j → I' a j = I a j) m ?_ ?_ 5000 0 _ (by omega) (by omega) ⟨none, 0, I, rfl, Nat.le_refl _, Or.inl rfl, hM, fun _ _ _ => rfl⟩
  · rintro x hx s ⟨z, T, I', rfl, t1, t2, g1, g2⟩
    obtain ⟨f1, f2, f3⟩ := fr_ok I' g2
    have hT96 := hmx x (by omega)
    have hms : ssum x (fun x => ssum (nb n) (fun b => cmu w c ns x b)) ≤ smT w c ns m (nb n) := ssum_mono (by omega)
    simp (disch := omega) only [b_X2_total_57_1, f_X2_total_57_2, f1.2.1, nt_clamp, nt_le, nt_lt, nt_eq, lit_le, lit_lt, le_lit, lt_lit, eq_lit, lit_eq, nt_neg, nt_ge, nt_add, nt_mul, nt_addl, lit_add, nt_mull, lit_mul, nt_sub, nt_subl, lit_sub, nt_divl, nt_m1, nt_m2, nt_m1', nt_m2', if_neg]
    by_cases cl : lim ≤ T
    · rw [if_pos cl]
      exact ok_some ⟨rfl, ⟨T, rfl, by omega, Or.inr cl⟩, g1, g2⟩
    · rw [if_neg cl]
      have t2 : T = ssum x (fun x => ssum (nb n) (fun b => cmu w c ns x b)) := by
        rcases t2 with e | e
        · exact e
        · exact absurd e cl
      unfold f_X2_total_57_3
      apply ok_bind
      refine (look57_ok hn hm V f1 hns hx f3).imp ?_
      rintro ⟨_, I1, J1⟩ ⟨rfl, a1, a2, a3⟩
      dsimp only at a1 a2 a3 ⊢
      have fr1 : ∀ a j, ¬ zReg a j → I1 a j = I a j := fun a j hr => (a3 a j (by unfold zReg at hr; omega)).trans (g2 a j hr)
      have hM1 : mK I1 := by
        intro R O h1 h2 h3 h4
        rw [a3 54 _ (by omega)]; exact g1 R O h1 h2 h3 h4
      unfold f_X2_total_57_4 f_X2_total_57_5
      have hb24 := hx24 x
      have hsx : ssum (x + 1) (fun x => ssum (nb n) (fun b => cmu w c ns x b)) = T + ssum (nb n) (fun b => cmu w c ns x b) := by rw [t2]; rfl
      refine ok_loop (fun b s => ∃ I', s = (nt ns, nt lim, nt (T + ssum b (fun b => cmu w c ns x b)), nt x, nt b, I', J1) ∧ (∀ k, k < 32 → bt (I' 51 5) k = ex ns (fun s => ldb w ns x s && decide (c s = k))) ∧ (∀ b, b < 3 → ∀ k, k < 8 → bt (I' 51 6) (8 * b + k) = ex ns (onb w c ns x b k)) ∧ mK I' ∧ ∀ a j, ¬ zReg a j → I' a j = I a j) (nb n) ?_ ?_ 5000 0 _ (by omega) (by omega) ⟨I1, rfl, a1, a2, hM1, fr1⟩
      · rintro b hb s ⟨I2, rfl, k1, k2, k3, k4⟩
        obtain ⟨q1, q2, q3⟩ := fr_ok I2 k4
        have hbs : ssum b (fun b => cmu w c ns x b) ≤ ssum (nb n) (fun b => cmu w c ns x b) := ssum_mono (by omega)
        have hcm := cmu_8 w c ns x b
        simp (disch := omega) only [b_X2_total_57_5, cbits_ok hn q1.1, Option.bind_some, f_X2_total_57_6, f_X2_total_57_7, nt_clamp, nt_le, nt_lt, nt_eq, lit_le, lit_lt, le_lit, lt_lit, eq_lit, lit_eq, nt_neg, nt_ge, nt_add, nt_mul, nt_addl, lit_add, nt_mull, lit_mul, nt_sub, nt_subl, lit_sub, nt_divl, nt_m1, nt_m2, nt_m1', nt_m2', if_neg]
        by_cases cl2 : lim ≤ T + ssum b (fun b => cmu w c ns x b)
        · rw [if_pos cl2]
          simp only [f_X2_total_57_11, Option.map_some, nt_addl]
          exact ok_some ⟨_, T + ssum b (fun b => cmu w c ns x b), I2, rfl, by omega, Or.inr cl2, k3, k4⟩
        · rw [if_neg cl2]
          unfold f_X2_total_57_8
          apply ok_bind
          refine (aim_ok (b := b) (fun s hs => (hc s hs).2) hi (by omega) k1 k2).imp ?_
          rintro ⟨_, I3, J3⟩ ⟨rfl, b1, b2, b3⟩
          dsimp only at b1 b2 b3 ⊢
          have hT3 : cT I3 := ⟨fun c hc => (b3 52 c (by omega)).trans (q2.1 c hc), fun c hc => (b3 53 c (by omega)).trans (q2.2 c hc)⟩
          have hM3 : mK I3 := by
            intro R O h1 h2 h3 h4
            rw [b3 54 _ (by omega)]; exact k3 R O h1 h2 h3 h4
          simp only [f_X2_total_57_9, b1]
          apply ok_bind
          have hpp := pp8_le (onS w c ns x b)
          refine (least_ok (ofS_lt w c ns x b) 12 0 (onS w c ns x b) I3 J3 (by omega) (by omega) (onS_lt _ _ _ _ _) (onof hi) (by omega) b2 hT3 hM3).imp ?_
          rintro ⟨_, I4, J4⟩ ⟨rfl, rfl, c1, c2⟩
          dsimp only at c1 c2 ⊢
          simp only [f_X2_total_57_10, nt_add, nt_addl]
          refine ok_some ⟨I4, ?_, ?_, ?_, c1, ?_⟩
          · rw [show T + ssum b (fun b => cmu w c ns x b) + mu (ofS w c ns x b) (onS w c ns x b) = T + ssum (b + 1) (fun b => cmu w c ns x b) from Nat.add_assoc _ _ _]
          · intro k hk
            rw [c2 51 5 (by omega), b3 51 5 (by omega)]; exact k1 k hk
          · intro b' hb' k hk
            rw [c2 51 6 (by omega), b3 51 6 (by omega)]; exact k2 b' hb' k hk
          · intro a j hr
            have hr' := hr
            unfold zReg at hr'
            exact ((c2 a j (by omega)).trans (b3 a j (by omega))).trans (k4 a j hr)
      · rintro s ⟨I2, rfl, k1, k2, k3, k4⟩
        obtain ⟨q1, q2, q3⟩ := fr_ok I2 k4
        simp (disch := omega) only [b_X2_total_57_5, cbits_ok hn q1.1, Option.bind_some, f_X2_total_57_6, f_X2_total_57_11, nt_clamp, nt_le, nt_lt, nt_eq, lit_le, lit_lt, le_lit, lt_lit, eq_lit, lit_eq, nt_neg, nt_ge, nt_add, nt_mul, nt_addl, lit_add, nt_mull, lit_mul, nt_sub, nt_subl, lit_sub, nt_divl, nt_m1, nt_m2, nt_m1', nt_m2', if_true, if_false, if_pos, if_neg, e01, e10, em12, em21, e0m1, e0m2, e1m1, e1m2, em10, em20, Int32.reduceLT, Int32.reduceLE, eq_self, Option.bind_some, Option.map_some, false_or, or_false, or_self, true_or, or_true, not_true_eq_false, not_false_eq_true, false_and, and_false, true_and, and_true]
        exact ok_some ⟨_, T + ssum (nb n) (fun b => cmu w c ns x b), I2, rfl, by omega, Or.inl (by rw [hsx]), k3, k4⟩
  · rintro s ⟨z, T, I', rfl, t1, t2, g1, g2⟩
    obtain ⟨f1, f2, f3⟩ := fr_ok I' g2
    simp (disch := omega) only [b_X2_total_57_1, f_X2_total_57_12, f1.2.1, nt_clamp, nt_le, nt_lt, nt_eq, lit_le, lit_lt, le_lit, lt_lit, eq_lit, lit_eq, nt_neg, nt_ge, nt_add, nt_mul, nt_addl, lit_add, nt_mull, lit_mul, nt_sub, nt_subl, lit_sub, nt_divl, nt_m1, nt_m2, nt_m1', nt_m2', if_true, if_false, if_pos, if_neg, e01, e10, em12, em21, e0m1, e0m2, e1m1, e1m2, em10, em20, Int32.reduceLT, Int32.reduceLE, eq_self, Option.bind_some, Option.map_some, false_or, or_false, or_self, true_or, or_true, not_true_eq_false, not_false_eq_true, false_and, and_false, true_and, and_true]
    exact ok_some ⟨rfl, ⟨T, rfl, t1, t2⟩, g1, g2⟩
/-- all different and not too large -/
def pro (n : Nat) (c : Nat → Nat) : Bool := al n (fun a => decide (c a < 2 ^ nb n) && al a (fun b => !decide (c a = c b)))
theorem pro_iff {n : Nat} {c : Nat → Nat} : pro n c = true ↔ prp n c := by
  unfold pro prp inj6
  rw [al_iff]
  constructor
  · intro h
    refine ⟨?_, ?_⟩
    · have half : ∀ s s', s < n → s' < s → ¬ c s = c s' := by
        intro s s' hs hs' e
        have := h s hs
        rw [Bool.and_eq_true, al_iff] at this
        have := this.2 s' hs'
        rw [decide_eq_true e] at this
        cases this
      intro s s' hs hs' e
      rcases Nat.lt_trichotomy s s' with c | c | c
      · exact absurd e.symm (half s' s hs' c)
      · exact c
      · exact absurd e (half s s' hs c)
    · intro s hs
      have := h s hs
      rw [Bool.and_eq_true] at this
      exact of_decide_eq_true this.1
  · rintro ⟨h1, h2⟩ s hs
    rw [Bool.and_eq_true, al_iff]
    refine ⟨decide_eq_true (h2 s hs), ?_⟩
    intro s' hs'
    rw [decide_eq_false (fun e => by have := h1 s s' hs (by omega) e; omega)]; rfl
theorem cproper_ok {n : Nat} {c : Nat → Nat} {I : xI} {J : xJ} (hn : n ≤ 6) (h : I 1 0 = nt n) (hc : ∀ s, s < n → I 4 s = nt (c s) ∧ c s < 8) : f_X5_isProper I J = some (bi (pro n c), I, J) := by
  apply Ok.eq
  have hb3 := nb_le n
  have hp2 := nb_pow n (by omega)
  unfold f_X5_isProper f_X5_isProper_0 f_X5_isProper_1
  refine ok_loop (fun k s => ∃ v, s = (v, nt k, I, J) ∧ (∀ q, q < 32 → bt v q = ex k (fun s => decide (q = c s))) ∧ al k (fun a => decide (c a < 2 ^ nb n) && al a (fun b => !decide (c a = c b))) = true) n ?_ ?_ 5000 0 _ (by omega) (by omega) ⟨0, rfl, fun q hq => bt_zero q, rfl⟩
  · rintro k hk s ⟨v, rfl, g1, g2⟩
    have hck := hc k hk
    have h8 := hck.2
    simp (disch := omega) only [b_X5_isProper_1, f_X5_isProper_2, f_X5_isProper_3, cbits_ok hn h, h, hck.1, shl3 (nb n) (by omega), Option.bind_some, nt_clamp, nt_le, nt_lt, nt_eq, lit_le, lit_lt, le_lit, lt_lit, eq_lit, lit_eq, nt_neg, nt_ge, nt_add, nt_mul, nt_addl, lit_add, nt_mull, lit_mul, nt_sub, nt_subl, lit_sub, nt_divl, nt_m1, nt_m2, nt_m1', nt_m2', false_or, if_neg]
    by_cases c1 : 2 ^ nb n ≤ c k
    · rw [if_pos c1]
      refine ok_some ?_
      show ((0 : Int32), I, J) = _
      have : pro n c = false := al_false hk (by rw [decide_eq_false (by omega)]; rfl)
      rw [this]; rfl
    · rw [if_neg c1]
      simp (disch := omega) only [f_X5_isProper_4, hck.1, nt_31, has_bi, bi_1, nt_clamp, nt_le, nt_lt, nt_eq, lit_le, lit_lt, le_lit, lt_lit, eq_lit, lit_eq, nt_neg, nt_ge, nt_add, nt_mul, nt_addl, lit_add, nt_mull, lit_mul, nt_sub, nt_subl, lit_sub, nt_divl, nt_m1, nt_m2, nt_m1', nt_m2', false_or, if_neg, g1]
      cases e : ex k (fun s => decide (c k = c s)) with
      | true =>
        rw [if_pos rfl]
        refine ok_some ?_
        show ((0 : Int32), I, J) = _
        obtain ⟨b, hb, he⟩ := ex_iff.mp e
        have : pro n c = false := al_false hk (by rw [al_false hb (by rw [he]; rfl), Bool.and_false])
        rw [this]; rfl
      | false =>
        rw [if_neg (by decide)]
        simp (disch := omega) only [f_X5_isProper_6, hck.1, nt_31, nt_clamp, nt_le, nt_lt, nt_eq, lit_le, lit_lt, le_lit, lt_lit, eq_lit, lit_eq, nt_neg, nt_ge, nt_add, nt_mul, nt_addl, lit_add, nt_mull, lit_mul, nt_sub, nt_subl, lit_sub, nt_divl, nt_m1, nt_m2, nt_m1', nt_m2', false_or, if_neg]
        refine ok_some ⟨_, rfl, ?_, ?_⟩
        · intro q hq
          rw [bt_or, g1 q hq, one_shl (by omega) hq, ex_s]
        · rw [al, g2, decide_eq_true (by omega), Bool.true_and, Bool.true_and, al_iff]
          intro b hb
          have := ex_false.mp e b hb
          rw [this]; rfl
  · rintro s ⟨v, rfl, g1, g2⟩
    simp (disch := omega) only [b_X5_isProper_1, f_X5_isProper_7, h, nt_clamp, nt_le, nt_lt, nt_eq, lit_le, lit_lt, le_lit, lt_lit, eq_lit, lit_eq, nt_neg, nt_ge, nt_add, nt_mul, nt_addl, lit_add, nt_mull, lit_mul, nt_sub, nt_subl, lit_sub, nt_divl, nt_m1, nt_m2, nt_m1', nt_m2', if_true, if_false, if_pos, if_neg, e01, e10, em12, em21, e0m1, e0m2, e1m1, e1m2, em10, em20, Int32.reduceLT, Int32.reduceLE, eq_self, Option.bind_some, Option.map_some, false_or, or_false, or_self, true_or, or_true, not_true_eq_false, not_false_eq_true, false_and, and_false, true_and, and_true]
    refine ok_some ?_
    show ((1 : Int32), I, J) = _
    rw [show pro n c = true from g2]; rfl
noncomputable def cubeR (n m : Nat) (w : aT) (x y z : Int32) : Int32 := if isS (nb n) x = true ∧ isS m y = true then (if pro n w.2.2 = true then (if z = -1 then nt (cmu w w.2.2 n y.toNatClampNeg x.toNatClampNeg) else if isS (cmu w w.2.2 n y.toNatClampNeg x.toNatClampNeg) z = true then nt (crw n w w.2.2 y.toNatClampNeg x.toNatClampNeg z.toNatClampNeg) else -1) else -2) else -1
def sumR (n m : Nat) (w : aT) : Int32 := if pro n w.2.2 = true then nt (smT w w.2.2 n m (nb n)) else -2
theorem ccube_ok {n m : Nat} {w : aT} {I : xI} {J : xJ} (hn : n ≤ 6) (hm : m ≤ 4) (V : Vd n m w) (h : cMa n m w (I 1 0) (I 1 1) (I 2) (I 3) (I 4)) (hT : cT I) (hM : mK I) (x y z : Int32) : Ok (f_X11_cube x y z I J) (fun o => o.2.2 = J ∧ o.1 = cubeR n m w x y z ∧ mK o.2.1 ∧ ∀ c j, ¬ zReg c j → o.2.1 c j = I c j) := by
  have hb3 := nb_le n
  have hc : ∀ s, s < n → I 4 s = nt (w.2.2 s) ∧ w.2.2 s < 8 := fun s hs => ⟨h.2.2.2.2 s (by omega), V.2.2 s⟩
  simp (disch := omega) only [f_X11_cube, f_X11_cube_0, hasBit_ok hn h.1, Option.bind_some, f_X11_cube_1, f_X11_cube_2, hasInput_ok h.2.1, f_X11_cube_3, f_X11_cube_5, cproper_ok hn h.1 hc, f_X11_cube_6, bi_0]
  unfold cubeR
  cases c1 : isS (nb n) x with
  | false =>
    simp only [eq_self, Bool.true_eq_false, Bool.false_eq_true, if_true, if_false, and_self, and_false, false_and, true_and, and_true]
    exact ok_some ⟨rfl, rfl, hM, fun _ _ _ => rfl⟩
  | true =>
    cases c2 : isS m y with
    | false =>
      simp only [eq_self, Bool.true_eq_false, Bool.false_eq_true, if_true, if_false, and_self, and_false, false_and, true_and, and_true]
      exact ok_some ⟨rfl, rfl, hM, fun _ _ _ => rfl⟩
    | true =>
      cases c3 : pro n w.2.2 with
      | false =>
        simp only [eq_self, Bool.true_eq_false, Bool.false_eq_true, if_true, if_false, and_self, and_false, false_and, true_and, and_true]
        exact ok_some ⟨rfl, rfl, hM, fun _ _ _ => rfl⟩
      | true =>
        simp only [eq_self, Bool.true_eq_false, Bool.false_eq_true, if_true, if_false, and_self, and_false, false_and, true_and, and_true]
        obtain ⟨b, hb, rfl⟩ := isS_ex (by omega) c1
        obtain ⟨x, hx, rfl⟩ := isS_ex (by omega) c2
        rw [nt_clamp (by omega), nt_clamp (by omega)]
        unfold f_X11_cube_8
        apply ok_bind
        refine (list_ok hn hm V h (pro_iff.mp c3) hx hb hT hM).imp ?_
        rintro ⟨_, I1, J1⟩ ⟨rfl, rfl, a1, a2, a3, a4⟩
        dsimp only at a1 a2 a3 a4 ⊢
        have hcm := cmu_8 w w.2.2 n x b
        unfold f_X11_cube_9
        by_cases e1 : z = -1
        · rw [if_pos e1, if_pos e1]
          exact ok_some ⟨rfl, rfl, a3, a4⟩
        · rw [if_neg e1, if_neg e1]
          rcases nt_all z with hz | ⟨i, hi, rfl⟩
          · rw [isS_neg hz, if_neg (by decide)]
            simp only [f_X11_cube_11, if_pos hz]
            exact ok_some ⟨rfl, rfl, a3, a4⟩
          · rw [isS_nt (by omega) hi, nt_clamp hi]
            simp (disch := omega) only [f_X11_cube_11, f_X11_cube_12, nt_clamp, nt_le, nt_lt, nt_eq, lit_le, lit_lt, le_lit, lt_lit, eq_lit, lit_eq, nt_neg, nt_ge, nt_add, nt_mul, nt_addl, lit_add, nt_mull, lit_mul, nt_sub, nt_subl, lit_sub, nt_divl, nt_m1, nt_m2, nt_m1', nt_m2', Nat.not_lt_zero, if_false]
            by_cases e2 : i < cmu w w.2.2 n x b
            · rw [if_neg (by omega), if_pos (decide_eq_true e2)]
              simp (disch := omega) only [f_X11_cube_13, f_X11_cube_15, nt_clamp, nt_le, nt_lt, nt_eq, lit_le, lit_lt, le_lit, lt_lit, eq_lit, lit_eq, nt_neg, nt_ge, nt_add, nt_mul, nt_addl, lit_add, nt_mull, lit_mul, nt_sub, nt_subl, lit_sub, nt_divl, nt_m1, nt_m2, nt_m1', nt_m2', false_or, if_neg, a1 i e2]
              exact ok_some ⟨rfl, rfl, a3, a4⟩
            · rw [if_pos (show cmu w w.2.2 n x b ≤ i from by omega), decide_eq_false e2, if_neg (by decide)]
              exact ok_some ⟨rfl, rfl, a3, a4⟩
theorem csum_ok {n m : Nat} {w : aT} {I : xI} {J : xJ} (hn : n ≤ 6) (hm : m ≤ 4) (V : Vd n m w) (h : cMa n m w (I 1 0) (I 1 1) (I 2) (I 3) (I 4)) (hT : cT I) (hM : mK I) : Ok (f_X11_sum I J) (fun o => o.2.2 = J ∧ o.1 = sumR n m w ∧ mK o.2.1 ∧ ∀ c j, ¬ zReg c j → o.2.1 c j = I c j) := by
  have hb3 := nb_le n
  have hc : ∀ s, s < n → I 4 s = nt (w.2.2 s) ∧ w.2.2 s < 8 := fun s hs => ⟨h.2.2.2.2 s (by omega), V.2.2 s⟩
  simp only [f_X11_sum, f_X11_sum_0, cproper_ok hn h.1 hc, Option.bind_some, f_X11_sum_1, bi_0]
  unfold sumR
  cases c3 : pro n w.2.2 with
  | false =>
    rw [if_pos rfl, if_neg (by decide)]
    exact ok_some ⟨rfl, rfl, hM, fun _ _ _ => rfl⟩
  | true =>
    rw [if_neg (by decide), if_pos rfl]
    simp only [f_X11_sum_2, h.1]
    apply ok_bind
    refine (total4_ok (lim := 1000) hn hm V h (Nat.le_refl n) hc (pro_iff.mp c3).1 (by omega) hT hM).imp ?_
    rintro ⟨_, I1, J1⟩ ⟨rfl, ⟨T, rfl, t1, t2⟩, a3, a4⟩
    dsimp only at a3 a4 ⊢
    have h1 := smT_le w w.2.2 n m (nb n)
    have hb96 : m * (nb n * 8) ≤ 4 * (3 * 8) := Nat.mul_le_mul hm (Nat.mul_le_mul hb3 (Nat.le_refl _))
    have : T = smT w w.2.2 n m (nb n) := by omega
    rw [← this]
    exact ok_some ⟨rfl, rfl, a3, a4⟩
/-- the next code by the cubes -/
noncomputable def ncd (n : Nat) (w : aT) (k x : Nat) : Nat := mkn (nb n) (fun b => ex (cmu w w.2.2 n x b) (fun i => (hh (crw n w w.2.2 x b i)).testBit k))
noncomputable def codedR (n m : Nat) (w : aT) (x y : Int32) : Int32 := if isS (2 ^ nb n) x = true ∧ isS m y = true then (if pro n w.2.2 = true then nt (ncd n w x.toNatClampNeg y.toNatClampNeg) else -2) else -1
theorem bit_shl {b q : Nat} {v : Bool} (hb : b < 32) (hq : q < 32) : bt (bi v <<< nt b) q = (decide (q = b) && v) := by
  rw [bt_shl hb hq]
  cases v with
  | false =>
    show (decide (b ≤ q) && bt 0 (q - b)) = _
    rw [bt_zero, Bool.and_false, Bool.and_false]
  | true =>
    show (decide (b ≤ q) && bt 1 (q - b)) = _
    rw [bt_one, Bool.and_true]
    by_cases c : q = b
    · rw [decide_eq_true c, decide_eq_true (by omega), decide_eq_true (by omega)]; rfl
    · rw [decide_eq_false c]
      by_cases c2 : b ≤ q
      · rw [decide_eq_false (show ¬ q - b = 0 from by omega), Bool.and_false]
      · rw [decide_eq_false c2]; rfl
theorem nextCode_ok {n m k x : Nat} {w : aT} {I : xI} {J : xJ} (hn : n ≤ 6) (hm : m ≤ 4) (V : Vd n m w) (h : cMa n m w (I 1 0) (I 1 1) (I 2) (I 3) (I 4)) (hp : prp n w.2.2) (hx : x < m) (hk : k < 8) (hT : cT I) (hM : mK I) : Ok (f_X2_nextCode (nt k) (nt x) I J) (fun o => o.2.2 = J ∧ o.1 = nt (ncd n w k x) ∧ mK o.2.1 ∧ ∀ c j, ¬ zReg c j → o.2.1 c j = I c j) := by
  have hb3 := nb_le n
  have fr_ok : ∀ I' : xI, (∀ a j, ¬ zReg a j → I' a j = I a j) → cMa n m w (I' 1 0) (I' 1 1) (I' 2) (I' 3) (I' 4) ∧ cT I' := by
    intro I' hf
    refine ⟨?_, ⟨fun c hc => (hf 52 c (by unfold zReg; omega)).trans (hT.1 c hc), fun c hc => (hf 53 c (by unfold zReg; omega)).trans (hT.2 c hc)⟩⟩
    rw [hf 1 0 (by unfold zReg; omega), hf 1 1 (by unfold zReg; omega), show I' 2 = I 2 from funext fun j => hf 2 j (by unfold zReg; omega), show I' 3 = I 3 from funext fun j => hf 3 j (by unfold zReg; omega), show I' 4 = I 4 from funext fun j => hf 4 j (by unfold zReg; omega)]
    exact h
  unfold f_X2_nextCode f_X2_nextCode_0 f_X2_nextCode_1
  refine ok_loop (fun b s => ∃ v z z' I', s = (nt k, nt x, v, nt b, z, z', I', J) ∧ (∀ q, q < 32 → bt v q = (decide (q < b) && ex (cmu w w.2.2 n x q) (fun i => (hh (crw n w w.2.2 x q i)).testBit k))) ∧ mK I' ∧ ∀ a j, ¬ zReg a j → I' a j = I a j) (nb n) ?_ ?_ 5000 0 _ (by omega) (by omega) ⟨0, none, none, I, rfl, fun q hq => bt_zero q, hM, fun _ _ _ => rfl⟩
  · rintro b hb s ⟨v, z, z', I', rfl, g1, g2, g3⟩
    obtain ⟨f1, f2⟩ := fr_ok I' g3
    simp (disch := omega) only [b_X2_nextCode_1, f_X2_nextCode_2, f_X2_nextCode_3, cbits_ok hn f1.1, Option.bind_some, nt_clamp, nt_le, nt_lt, nt_eq, lit_le, lit_lt, le_lit, lt_lit, eq_lit, lit_eq, nt_neg, nt_ge, nt_add, nt_mul, nt_addl, lit_add, nt_mull, lit_mul, nt_sub, nt_subl, lit_sub, nt_divl, nt_m1, nt_m2, nt_m1', nt_m2', if_neg]
    apply ok_bind
    refine (list_ok hn hm V f1 hp hx hb f2 g2).imp ?_
    rintro ⟨_, I1, J1⟩ ⟨rfl, rfl, a1, a2, a3, a4⟩
    dsimp only at a1 a2 a3 a4 ⊢
    have fr1 : ∀ a j, ¬ zReg a j → I1 a j = I a j := fun a j hr => (a4 a j hr).trans (g3 a j hr)
    have hcm := cmu_8 w w.2.2 n x b
    have hw := pow3 (nb n) (by omega)
    unfold f_X2_nextCode_4 f_X2_nextCode_5
    refine ok_loop (fun i s => ∃ v, s = (nt k, nt x, v, nt b, nt (cmu w w.2.2 n x b), nt i, I1, J1) ∧ ∀ q, q < 32 → bt v q = ((decide (q < b) && ex (cmu w w.2.2 n x q) (fun i => (hh (crw n w w.2.2 x q i)).testBit k)) || (decide (q = b) && ex i (fun i => (hh (crw n w w.2.2 x b i)).testBit k)))) (cmu w w.2.2 n x b) ?_ ?_ 5000 0 _ (by omega) (by omega) ⟨v, rfl, ?_⟩
    · rintro i hi s ⟨v, rfl, k1⟩
      have hr : crw n w w.2.2 x b i < 27 := Nat.lt_of_lt_of_le (a2.1.1 i hi) hw.1
      have e52 : I1 52 (crw n w w.2.2 x b i) = nt (hh (crw n w w.2.2 x b i)) := (a4 52 _ (by unfold zReg; omega)).trans (f2.1 _ hr)
      simp (disch := omega) only [b_X2_nextCode_5, f_X2_nextCode_6, a1 i hi, e52, nt_31, has_bi, bt_nt, nt_clamp, nt_le, nt_lt, nt_eq, lit_le, lit_lt, le_lit, lt_lit, eq_lit, lit_eq, nt_neg, nt_ge, nt_add, nt_mul, nt_addl, lit_add, nt_mull, lit_mul, nt_sub, nt_subl, lit_sub, nt_divl, nt_m1, nt_m2, nt_m1', nt_m2', false_or, if_neg]
      refine ok_some ⟨_, rfl, ?_⟩
      intro q hq
      rw [bt_or, k1 q hq, bit_shl (by omega) hq, decide_eq_true (show k < 32 from by omega), Bool.true_and, ex_s, Bool.or_assoc, ← Bool.and_or_distrib_left]
    · rintro s ⟨v, rfl, k1⟩
      simp (disch := omega) only [b_X2_nextCode_5, f_X2_nextCode_7, nt_clamp, nt_le, nt_lt, nt_eq, lit_le, lit_lt, le_lit, lt_lit, eq_lit, lit_eq, nt_neg, nt_ge, nt_add, nt_mul, nt_addl, lit_add, nt_mull, lit_mul, nt_sub, nt_subl, lit_sub, nt_divl, nt_m1, nt_m2, nt_m1', nt_m2', if_true, if_false, if_pos, if_neg, e01, e10, em12, em21, e0m1, e0m2, e1m1, e1m2, em10, em20, Int32.reduceLT, Int32.reduceLE, eq_self, Option.bind_some, Option.map_some, false_or, or_false, or_self, true_or, or_true, not_true_eq_false, not_false_eq_true, false_and, and_false, true_and, and_true]
      refine ok_some ⟨v, _, _, I1, rfl, ?_, a3, fr1⟩
      intro q hq
      rw [k1 q hq]
      by_cases c : q = b
      · subst c
        rw [decide_eq_false (by omega), decide_eq_true rfl, decide_eq_true (by omega)]; rfl
      · rw [decide_eq_false c, Bool.false_and, Bool.or_false]
        by_cases c2 : q < b
        · rw [decide_eq_true c2, decide_eq_true (by omega)]
        · rw [decide_eq_false c2, decide_eq_false (by omega)]
    · intro q hq
      rw [g1 q hq]
      show _ = (_ || (decide (q = b) && false))
      rw [Bool.and_false, Bool.or_false]
  · rintro s ⟨v, z, z', I', rfl, g1, g2, g3⟩
    obtain ⟨f1, f2⟩ := fr_ok I' g3
    simp (disch := omega) only [b_X2_nextCode_1, f_X2_nextCode_2, f_X2_nextCode_8, cbits_ok hn f1.1, Option.bind_some, nt_clamp, nt_le, nt_lt, nt_eq, lit_le, lit_lt, le_lit, lt_lit, eq_lit, lit_eq, nt_neg, nt_ge, nt_add, nt_mul, nt_addl, lit_add, nt_mull, lit_mul, nt_sub, nt_subl, lit_sub, nt_divl, nt_m1, nt_m2, nt_m1', nt_m2', if_true, if_false, if_pos, if_neg, e01, e10, em12, em21, e0m1, e0m2, e1m1, e1m2, em10, em20, Int32.reduceLT, Int32.reduceLE, eq_self, Option.bind_some, Option.map_some, false_or, or_false, or_self, true_or, or_true, not_true_eq_false, not_false_eq_true, false_and, and_false, true_and, and_true]
    refine ok_some ⟨rfl, ?_, g2, g3⟩
    show v = _
    apply bt_ext
    intro q hq
    unfold ncd
    rw [g1 q hq, bt_nt, decide_eq_true hq, Bool.true_and, mkn_tb]
theorem ccoded_ok {n m : Nat} {w : aT} {I : xI} {J : xJ} (hn : n ≤ 6) (hm : m ≤ 4) (V : Vd n m w) (h : cMa n m w (I 1 0) (I 1 1) (I 2) (I 3) (I 4)) (hT : cT I) (hM : mK I) (x y : Int32) : Ok (f_X11_coded x y I J) (fun o => o.2.2 = J ∧ o.1 = codedR n m w x y ∧ mK o.2.1 ∧ ∀ c j, ¬ zReg c j → o.2.1 c j = I c j) := by
  have hb3 := nb_le n
  have hp2 := nb_pow n (by omega)
  have hc : ∀ s, s < n → I 4 s = nt (w.2.2 s) ∧ w.2.2 s < 8 := fun s hs => ⟨h.2.2.2.2 s (by omega), V.2.2 s⟩
  have hst : f_X11_coded x y I J = if isS (2 ^ nb n) x = true then f_X11_coded_3 x y I J else f_X11_coded_5 x y I J := by
    unfold f_X11_coded f_X11_coded_0
    rcases nt_all x with hx | ⟨k, hk, rfl⟩
    · rw [isS_neg hx, if_pos hx, if_neg (by decide)]
    · rw [isS_nt (by omega) hk]
      simp (disch := omega) only [f_X11_coded_1, f_X11_coded_2, cbits_ok hn h.1, Option.bind_some, shl3 (nb n) (by omega), nt_clamp, nt_le, nt_lt, nt_eq, lit_le, lit_lt, le_lit, lt_lit, eq_lit, lit_eq, nt_neg, nt_ge, nt_add, nt_mul, nt_addl, lit_add, nt_mull, lit_mul, nt_sub, nt_subl, lit_sub, nt_divl, nt_m1, nt_m2, nt_m1', nt_m2', Nat.not_lt_zero, if_false]
      by_cases c : k < 2 ^ nb n
      · rw [if_neg (show ¬ 2 ^ nb n ≤ k from by omega), if_pos (decide_eq_true c)]
      · rw [if_pos (show 2 ^ nb n ≤ k from by omega), decide_eq_false c, if_neg (by decide)]
  rw [hst]
  simp (disch := omega) only [f_X11_coded_3, hasInput_ok h.2.1, Option.bind_some, f_X11_coded_4, f_X11_coded_6, cproper_ok hn h.1 hc, f_X11_coded_7, bi_0]
  unfold codedR
  cases c1 : isS (2 ^ nb n) x with
  | false =>
    simp only [eq_self, Bool.true_eq_false, Bool.false_eq_true, if_true, if_false, and_self, and_false, false_and, true_and, and_true]
    exact ok_some ⟨rfl, rfl, hM, fun _ _ _ => rfl⟩
  | true =>
    cases c2 : isS m y with
    | false =>
      simp only [eq_self, Bool.true_eq_false, Bool.false_eq_true, if_true, if_false, and_self, and_false, false_and, true_and, and_true]
      exact ok_some ⟨rfl, rfl, hM, fun _ _ _ => rfl⟩
    | true =>
      cases c3 : pro n w.2.2 with
      | false =>
        simp only [eq_self, Bool.true_eq_false, Bool.false_eq_true, if_true, if_false, and_self, and_false, false_and, true_and, and_true]
        exact ok_some ⟨rfl, rfl, hM, fun _ _ _ => rfl⟩
      | true =>
        simp only [eq_self, Bool.true_eq_false, Bool.false_eq_true, if_true, if_false, and_self, and_false, false_and, true_and, and_true]
        obtain ⟨k, hk, rfl⟩ := isS_ex (by omega) c1
        obtain ⟨x, hx, rfl⟩ := isS_ex (by omega) c2
        rw [nt_clamp (by omega), nt_clamp (by omega)]
        unfold f_X11_coded_8
        apply ok_bind
        refine (nextCode_ok (k := k) hn hm V h (pro_iff.mp c3) hx (by omega) hT hM).imp ?_
        rintro ⟨_, I1, J1⟩ ⟨rfl, rfl, a3, a4⟩
        exact ok_some ⟨rfl, rfl, a3, a4⟩
