/-! the best codes: the reference goes through all -/
theorem ok_dec {S R : Type} {body : S → Option (S ⊕ R)} {Q : R → Prop} (P : Nat → S → Prop) (hs : ∀ k s, P k s → Ok (body s) (Sum.elim (fun s' => ∃ k', k' < k ∧ P k' s') Q)) : ∀ (f k : Nat) (s : S), k < f → P k s → Ok (xloop body f s) Q := by
  intro f
  induction f with
  | zero => intro k s h; omega
  | succ f ih =>
    intro k s h hp
    apply ok_xloop
    refine (hs k s hp).imp ?_
    intro o
    cases o with
    | inl s' =>
      rintro ⟨k', h1, h2⟩
      exact ih k' s' (by omega) h2
    | inr r => exact id
theorem sub_add1 (x : Int32) : x - 1 + 1 = x := by
  rw [Int32.sub_eq_add_neg, Int32.add_assoc, show (-1 : Int32) + 1 = 0 from by decide, Int32.add_zero]
def uR (y a j : Nat) : Prop := a = 86 ∨ a = 88 ∨ a = 89 ∨ (a = 92 ∧ 6 * y ≤ j ∧ j < 6 * y + 6) ∨ (a = 93 ∧ j = y) ∨ (a = 75 ∧ j = y) ∨ (a = 61 ∧ (j = 48 ∨ j = 49))
def rCx (n m : Nat) (w : aT) (I : xI) : Prop := I 61 17 = nt n ∧ I 61 18 = nt m ∧ rMa n m w (I 70) 0 ∧ rT I
theorem rCx_fr {n m : Nat} {w : aT} {I I' : xI} (h : rCx n m w I) (hf : ∀ a j, ¬ (a = 86 ∨ a = 88 ∨ a = 89 ∨ a = 92 ∨ a = 93 ∨ a = 75 ∨ (a = 61 ∧ (j = 48 ∨ j = 49))) → I' a j = I a j) : rCx n m w I' := by
  refine ⟨(hf 61 17 (by omega)).trans h.1, (hf 61 18 (by omega)).trans h.2.1, ?_, fun c hc => (hf 87 c (by omega)).trans (h.2.2.2 c hc)⟩
  rw [show I' 70 = I 70 from funext fun j => hf 70 j (by omega)]; exact h.2.2.1
theorem isTaken_ok {s k : Nat} {p : Nat → Nat} {I : xI} {J : xJ} (hs : s < 6) (hk : k < 1000) (h : ∀ i, i < s → I 86 i = nt (p i) ∧ p i < 1000) (hk2 : I 86 s = nt k) : f_X12_isTaken (nt s) I J = some (bi (ex s (fun i => decide (p i = k))), I, J) := by
  apply Ok.eq
  unfold f_X12_isTaken f_X12_isTaken_0 f_X12_isTaken_1
  refine ok_loop (fun i st => st = (nt s, nt i, I, J) ∧ ex i (fun i => decide (p i = k)) = false) s ?_ ?_ 5000 0 _ (by omega) (by omega) ⟨rfl, rfl⟩
  · rintro i hi st ⟨rfl, g⟩
    have := (h i hi).2
    simp (disch := omega) only [b_X12_isTaken_1, f_X12_isTaken_2, nt_clamp, nt_le, nt_lt, nt_eq, lit_le, lit_lt, le_lit, lt_lit, eq_lit, lit_eq, nt_neg, nt_ge, nt_add, nt_mul, nt_addl, lit_add, nt_mull, lit_mul, nt_sub, nt_subl, lit_sub, nt_divl, nt_m1, nt_m2, nt_m1', nt_m2', false_or, if_neg, (h i hi).1, hk2]
    by_cases e : p i = k
    · rw [if_pos e]
      simp only [f_X12_isTaken_3, Option.map_some]
      refine ok_some ?_
      show ((1 : Int32), I, J) = _
      rw [show ex s (fun i => decide (p i = k)) = true from ex_iff.mpr ⟨i, hi, decide_eq_true e⟩]; rfl
    · rw [if_neg e]
      simp only [f_X12_isTaken_4, nt_addl]
      refine ok_some ⟨rfl, ?_⟩
      rw [ex_s, g, decide_eq_false e]; rfl
  · rintro st ⟨rfl, g⟩
    simp (disch := omega) only [b_X12_isTaken_1, f_X12_isTaken_5, nt_clamp, nt_le, nt_lt, nt_eq, lit_le, lit_lt, le_lit, lt_lit, eq_lit, lit_eq, nt_neg, nt_ge, nt_add, nt_mul, nt_addl, lit_add, nt_mull, lit_mul, nt_sub, nt_subl, lit_sub, nt_divl, nt_m1, nt_m2, nt_m1', nt_m2', if_pos, Option.map_some]
    refine ok_some ?_
    show ((0 : Int32), I, J) = _
    rw [g]; rfl
theorem weighs4_ok {n m y v : Nat} {old : Option Nat} {w : aT} {c : Nat → Nat} {I : xI} {J : xJ} (hn : n ≤ 6) (hy : y < 2) (hv : v < 1000) (hold : ∀ u, old = some u → u < 1000) (h0 : I 61 17 = nt n) (h93 : I 93 y = o1 old) (hc : ∀ s, s < n → I 86 s = nt (c s)) : Ok (f_X12_weighs_4 (nt y) (nt v) I J) (fun o => o.2.2 = J ∧ (∀ a j, ¬ ((a = 92 ∧ 6 * y ≤ j ∧ j < 6 * y + 6) ∨ (a = 93 ∧ j = y)) → o.2.1 a j = I a j) ∧ (((∀ u, old = some u → v < u) ∧ o.2.1 93 y = nt v ∧ ∀ i, i < n → o.2.1 92 (6 * y + i) = nt (c i)) ∨ ((∃ u, old = some u ∧ u ≤ v) ∧ o.2.1 93 y = I 93 y ∧ ∀ i, i < n → o.2.1 92 (6 * y + i) = I 92 (6 * y + i)))) := by
  have set7 : (∀ u, old = some u → v < u) → Ok (f_X12_weighs_7 (nt y) (nt v) I J) (fun o => o.2.2 = J ∧ (∀ a j, ¬ ((a = 92 ∧ 6 * y ≤ j ∧ j < 6 * y + 6) ∨ (a = 93 ∧ j = y)) → o.2.1 a j = I a j) ∧ (((∀ u, old = some u → v < u) ∧ o.2.1 93 y = nt v ∧ ∀ i, i < n → o.2.1 92 (6 * y + i) = nt (c i)) ∨ ((∃ u, old = some u ∧ u ≤ v) ∧ o.2.1 93 y = I 93 y ∧ ∀ i, i < n → o.2.1 92 (6 * y + i) = I 92 (6 * y + i)))) := by
    intro hu
    simp (disch := omega) only [f_X12_weighs_7, nt_clamp, nt_le, nt_lt, nt_eq, lit_le, lit_lt, le_lit, lt_lit, eq_lit, lit_eq, nt_neg, nt_ge, nt_add, nt_mul, nt_addl, lit_add, nt_mull, lit_mul, nt_sub, nt_subl, lit_sub, nt_divl, nt_m1, nt_m2, nt_m1', nt_m2', false_or, if_neg]
    unfold f_X12_weighs_8
    refine ok_loop (fun k st => ∃ I', st = (nt y, nt v, nt k, I', J) ∧ (∀ a j, ¬ ((a = 92 ∧ 6 * y ≤ j ∧ j < 6 * y + 6) ∨ (a = 93 ∧ j = y)) → I' a j = I a j) ∧ I' 93 y = nt v ∧ ∀ i, i < k → I' 92 (6 * y + i) = nt (c i)) n ?_ ?_ 5000 0 _ (by omega) (by omega) ⟨_, rfl, fun a j h => xup_no _ _ _ _ (by omega), xup_at _ _ _ _, fun i hi => absurd hi (by omega)⟩
    · rintro k hk st ⟨I', rfl, g1, g2, g3⟩
      have e6 : (6 : Int32) * nt y + nt k = nt (6 * y + k) := by rw [show (6 : Int32) = nt 6 from rfl, nt_mul, nt_add]
      have g0 : I' 61 17 = nt n := (g1 61 17 (by omega)).trans h0
      have g86 : I' 86 k = nt (c k) := (g1 86 k (by omega)).trans (hc k hk)
      simp (disch := omega) only [b_X12_weighs_8, f_X12_weighs_9, g0, g86, e6, nt_clamp, nt_le, nt_lt, nt_eq, lit_le, lit_lt, le_lit, lt_lit, eq_lit, lit_eq, nt_neg, nt_ge, nt_add, nt_mul, nt_addl, lit_add, nt_mull, lit_mul, nt_sub, nt_subl, lit_sub, nt_divl, nt_m1, nt_m2, nt_m1', nt_m2', false_or, if_neg]
      refine ok_some ⟨_, rfl, ?_, ?_, ?_⟩
      · intro a j h
        rw [xup_no _ _ _ _ (by omega)]; exact g1 a j h
      · rw [xup_bj _ _ _ _ _ (by omega)]; exact g2
      · intro i hi
        by_cases e : i = k
        · rw [e, xup_at]
        · rw [xup_j _ _ _ _ (by omega)]; exact g3 i (by omega)
    · rintro st ⟨I', rfl, g1, g2, g3⟩
      have g0 : I' 61 17 = nt n := (g1 61 17 (by omega)).trans h0
      simp (disch := omega) only [b_X12_weighs_8, f_X12_weighs_10, g0, nt_clamp, nt_le, nt_lt, nt_eq, lit_le, lit_lt, le_lit, lt_lit, eq_lit, lit_eq, nt_neg, nt_ge, nt_add, nt_mul, nt_addl, lit_add, nt_mull, lit_mul, nt_sub, nt_subl, lit_sub, nt_divl, nt_m1, nt_m2, nt_m1', nt_m2', if_pos, Option.map_some]
      exact ok_some ⟨rfl, g1, Or.inl ⟨hu, g2, g3⟩⟩
  cases old with
  | none =>
    have h93' : I 93 y = -1 := h93
    rw [h93'] at set7
    simp (disch := omega) only [f_X12_weighs_4, h93', nt_clamp, nt_le, nt_lt, nt_eq, lit_le, lit_lt, le_lit, lt_lit, eq_lit, lit_eq, nt_neg, nt_ge, nt_add, nt_mul, nt_addl, lit_add, nt_mull, lit_mul, nt_sub, nt_subl, lit_sub, nt_divl, nt_m1, nt_m2, nt_m1', nt_m2', false_or, if_neg]
    rw [if_pos (by decide)]
    exact set7 (fun u e => by cases e)
  | some u =>
    have h93' : I 93 y = nt u := h93
    rw [h93'] at set7
    have hu := hold u rfl
    simp (disch := omega) only [f_X12_weighs_4, f_X12_weighs_5, h93', nt_clamp, nt_le, nt_lt, nt_eq, lit_le, lit_lt, le_lit, lt_lit, eq_lit, lit_eq, nt_neg, nt_ge, nt_add, nt_mul, nt_addl, lit_add, nt_mull, lit_mul, nt_sub, nt_subl, lit_sub, nt_divl, nt_m1, nt_m2, nt_m1', nt_m2', false_or, if_neg]
    try rw [if_false]
    by_cases q : v < u
    · rw [if_pos q]
      exact set7 (fun u' e => by cases e; exact q)
    · rw [if_neg q]
      exact ok_some ⟨rfl, fun _ _ _ => rfl, Or.inr ⟨⟨u, rfl, by omega⟩, h93', fun _ _ => rfl⟩⟩
theorem weighs_ok {n m y : Nat} {old : Option Nat} {w : aT} {c : Nat → Nat} {I : xI} {J : xJ} (hn : n ≤ 6) (hm : m ≤ 4) (V : Vd n m w) (hx : rCx n m w I) (hK : rK I) (hy : y < 2) (hold : ∀ u, old = some u → u < 1000) (h93 : I 93 y = o1 old) (hc : ∀ s, s < n → I 86 s = nt (c s)) (hp : prp n c) : Ok (f_X12_weighs (nt y) I J) (fun o => o.2.2 = J ∧ rK o.2.1 ∧ (∀ a j, ¬ uR y a j ∨ a = 86 → o.2.1 a j = I a j) ∧ (((∀ u, old = some u → wor n m w y c < u) ∧ o.2.1 93 y = nt (wor n m w y c) ∧ ∀ i, i < n → o.2.1 92 (6 * y + i) = nt (c i)) ∨ ((∃ u, old = some u ∧ u ≤ wor n m w y c) ∧ o.2.1 93 y = I 93 y ∧ ∀ i, i < n → o.2.1 92 (6 * y + i) = I 92 (6 * y + i)))) := by
  have hc8 : ∀ s, s < n → I 86 s = nt (c s) ∧ c s < 8 := fun s hs => ⟨hc s hs, prp_8 hn hp hs⟩
  have hwl := wor_lt (n := n) (y := y) (w := w) (c := c) hm
  rcases (show y = 0 ∨ y = 1 from by omega) with rfl | rfl
  · obtain ⟨v, hv⟩ : ∃ v, cosk n m w c (nb n) = some v := ⟨_, cosk_sum hn hp (nb n)⟩
    have hw : wor n m w 0 c = v := by unfold wor; rw [if_pos rfl, hv]; rfl
    rw [hw] at hwl ⊢
    have ht := costNow_ok (J := J) hn hm V hx.1 hx.2.1 hx.2.2.1 hc8
    rw [hv] at ht
    simp (disch := omega) only [f_X12_weighs, f_X12_weighs_0, nt_clamp, nt_le, nt_lt, nt_eq, lit_le, lit_lt, le_lit, lt_lit, eq_lit, lit_eq, nt_neg, nt_ge, nt_add, nt_mul, nt_addl, lit_add, nt_mull, lit_mul, nt_sub, nt_subl, lit_sub, nt_divl, nt_m1, nt_m2, nt_m1', nt_m2', if_true]
    simp only [f_X12_weighs_1, ht, Option.bind_some, f_X12_weighs_2]
    refine (weighs4_ok (m := m) (w := w) (I := I) (J := J) (y := 0) (v := v) hn (by omega) hwl hold hx.1 h93 hc).imp ?_
    rintro ⟨_, I2, J2⟩ ⟨rfl, b1, b2⟩
    dsimp only at b1 b2 ⊢
    refine ⟨rfl, ?_, ?_, b2⟩
    · intro R O r1 r2 r3
      rw [b1 88 _ (by omega)]; exact hK R O r1 r2 r3
    · intro a j h
      unfold uR at h
      exact b1 a j (by omega)
  · have hw : wor n m w 1 c = smT w c n m (nb n) := by unfold wor; rw [if_neg (by omega)]
    rw [hw] at hwl ⊢
    simp (disch := omega) only [f_X12_weighs, f_X12_weighs_0, nt_clamp, nt_le, nt_lt, nt_eq, lit_le, lit_lt, le_lit, lt_lit, eq_lit, lit_eq, nt_neg, nt_ge, nt_add, nt_mul, nt_addl, lit_add, nt_mull, lit_mul, nt_sub, nt_subl, lit_sub, nt_divl, nt_m1, nt_m2, nt_m1', nt_m2', if_neg]
    unfold f_X12_weighs_3
    apply ok_bind
    refine (sumNow_ok hn hm V hx.1 hx.2.1 hx.2.2.1 hc8 hp.1 hx.2.2.2 hK).imp ?_
    rintro ⟨_, I1, J1⟩ ⟨rfl, rfl, a1, a2⟩
    dsimp only at a1 a2 ⊢
    refine (weighs4_ok (m := m) (w := w) (I := I1) (J := J1) (y := 1) hn (by omega) hwl hold ((a2 61 17 (by omega)).trans hx.1) ((a2 93 1 (by omega)).trans h93) (fun s hs => (a2 86 s (by omega)).trans (hc s hs))).imp ?_
    rintro ⟨_, I2, J2⟩ ⟨rfl, b1, b2⟩
    dsimp only at b1 b2 ⊢
    refine ⟨rfl, ?_, ?_, ?_⟩
    · intro R O r1 r2 r3
      rw [b1 88 _ (by omega)]; exact a1 R O r1 r2 r3
    · intro a j h
      unfold uR at h
      rw [b1 a j (by omega), a2 a j (by omega)]
    · rcases b2 with q | ⟨q1, q2, q3⟩
      · exact Or.inl q
      · exact Or.inr ⟨q1, q2.trans (a2 93 1 (by omega)), fun i hi => (q3 i hi).trans (a2 92 _ (by omega))⟩
/-- what has been found among those gone through -/
def QO (n m : Nat) (w : aT) (y : Nat) (D : (Nat → Nat) → Prop) (I : xI) : Prop := (I 93 y = -1 ∧ ∀ d, prp n d → ¬ D d) ∨ ∃ v c, I 93 y = nt v ∧ (∀ i, i < n → I 92 (6 * y + i) = nt (c i)) ∧ prp n c ∧ D c ∧ wor n m w y c = v ∧ ∀ d, prp n d → D d → v ≤ wor n m w y d ∧ (wor n m w y d = v → ¬ lx n d c)
theorem QO_imp {n m y : Nat} {w : aT} {D D' : (Nat → Nat) → Prop} {I I' : xI} (h : QO n m w y D I) (hd : ∀ d, prp n d → (D d ↔ D' d)) (e93 : I' 93 y = I 93 y) (e92 : ∀ i, i < n → I' 92 (6 * y + i) = I 92 (6 * y + i)) : QO n m w y D' I' := by
  rcases h with ⟨h1, h2⟩ | ⟨v, c, h1, h2, h3, h4, h5, h6⟩
  · exact Or.inl ⟨e93.trans h1, fun d a b => h2 d a ((hd d a).mpr b)⟩
  · exact Or.inr ⟨v, c, e93.trans h1, fun i hi => (e92 i hi).trans (h2 i hi), h3, (hd c h3).mp h4, h5, fun d a b => h6 d a ((hd d a).mpr b)⟩
theorem lx_congr {k : Nat} {p p' q : Nat → Nat} (h : ∀ i, i < k → p i = p' i) (l : lx k p q) : lx k p' q := by
  obtain ⟨i, h1, h2, h3⟩ := l
  exact ⟨i, h1, by rw [← h i h1]; exact h2, fun j hj => (h j (by omega)).symm.trans (h3 j hj)⟩
def Dn (s : Nat) (p : Nat → Nat) (k : Nat) (d : Nat → Nat) : Prop := lx s d p ∨ ((∀ i, i < s → d i = p i) ∧ d s < k)
theorem Dn_pop {t : Nat} {p d : Nat → Nat} {T : Nat} (hT : d (t + 1) < T) : Dn (t + 1) p T d ↔ Dn t p (p t + 1) d := by
  constructor
  · rintro (⟨i, h1, h2, h3⟩ | ⟨h1, _⟩)
    · by_cases e : i = t
      · subst e
        exact Or.inr ⟨h3, by omega⟩
      · exact Or.inl ⟨i, by omega, h2, h3⟩
    · exact Or.inr ⟨fun i hi => h1 i (by omega), by rw [h1 t (by omega)]; omega⟩
  · rintro (⟨i, h1, h2, h3⟩ | ⟨h1, h2⟩)
    · exact Or.inl ⟨i, by omega, h2, h3⟩
    · by_cases e : d t = p t
      · refine Or.inr ⟨fun i hi => ?_, hT⟩
        by_cases q : i = t
        · rw [q]; exact e
        · exact h1 i (by omega)
      · exact Or.inl ⟨t, by omega, by omega, h1⟩
theorem Dn_next {s k : Nat} {p d : Nat → Nat} : Dn s p (k + 1) d ↔ (Dn s p k d ∨ ∀ i, i < s + 1 → d i = upc p s k i) := by
  constructor
  · rintro (h | ⟨h1, h2⟩)
    · exact Or.inl (Or.inl h)
    · by_cases e : d s = k
      · refine Or.inr fun i hi => ?_
        by_cases q : i = s
        · rw [q, upc_at]; exact e
        · rw [upc_ne q]; exact h1 i (by omega)
      · exact Or.inl (Or.inr ⟨h1, by omega⟩)
  · rintro ((h | ⟨h1, h2⟩) | h)
    · exact Or.inl h
    · exact Or.inr ⟨h1, by omega⟩
    · refine Or.inr ⟨fun i hi => ?_, ?_⟩
      · have := h i (by omega)
        rwa [upc_ne (by omega)] at this
      · have := h s (by omega)
        rw [upc_at] at this
        omega
theorem Dn_down {s k : Nat} {p d : Nat → Nat} : Dn s p k d ↔ Dn (s + 1) (upc p s k) 0 d := by
  constructor
  · rintro (⟨i, h1, h2, h3⟩ | ⟨h1, h2⟩)
    · exact Or.inl ⟨i, by omega, by rw [upc_ne (by omega)]; exact h2, fun j hj => by rw [upc_ne (by omega)]; exact h3 j hj⟩
    · exact Or.inl ⟨s, by omega, by rw [upc_at]; exact h2, fun j hj => by rw [upc_ne (by omega)]; exact h1 j hj⟩
  · rintro (⟨i, h1, h2, h3⟩ | ⟨h1, h2⟩)
    · by_cases e : i = s
      · subst e
        rw [upc_at] at h2
        refine Or.inr ⟨fun j hj => ?_, h2⟩
        have := h3 j hj
        rwa [upc_ne (by omega)] at this
      · rw [upc_ne e] at h2
        refine Or.inl ⟨i, by omega, h2, fun j hj => ?_⟩
        have := h3 j hj
        rwa [upc_ne (by omega)] at this
    · omega
theorem Dn_after {s k : Nat} {p d : Nat → Nat} (h : Dn s p k d) : ¬ lx (s + 1) (upc p s k) d := by
  rintro ⟨i, i1, i2, i3⟩
  rcases h with ⟨j, j1, j2, j3⟩ | ⟨h1, h2⟩
  · rcases Nat.lt_trichotomy i j with q | q | q
    · rw [upc_ne (by omega), j3 i q] at i2; omega
    · rw [upc_ne (by omega), q] at i2; omega
    · have := i3 j q
      rw [upc_ne (by omega)] at this; omega
  · by_cases e : i = s
    · rw [e, upc_at] at i2; omega
    · rw [upc_ne e, h1 i (by omega)] at i2; omega
theorem QO_weigh {n m y v' : Nat} {w : aT} {D : (Nat → Nat) → Prop} {c : Nat → Nat} {I I' : xI} {old : Option Nat} (hm : m ≤ 4) (V : Vd n m w) (hp : prp n c) (ho : ∀ d, D d → ¬ lx n c d) (hold : ∀ u, old = some u → u < 1000) (h93 : I 93 y = o1 old) (h : QO n m w y D I) (hw : ((∀ u, old = some u → wor n m w y c < u) ∧ I' 93 y = nt (wor n m w y c) ∧ ∀ i, i < n → I' 92 (6 * y + i) = nt (c i)) ∨ ((∃ u, old = some u ∧ u ≤ wor n m w y c) ∧ I' 93 y = I 93 y ∧ ∀ i, i < n → I' 92 (6 * y + i) = I 92 (6 * y + i))) : QO n m w y (fun d => D d ∨ ∀ i, i < n → d i = c i) I' := by
  have same : ∀ d, (∀ i, i < n → d i = c i) → wor n m w y c ≤ wor n m w y d ∧ (wor n m w y d = wor n m w y c → ¬ lx n d c) := by
    intro d hd
    rw [wor_ext V hd]
    refine ⟨Nat.le_refl _, fun _ => ?_⟩
    rintro ⟨i, i1, i2, _⟩
    have := hd i i1
    omega
  have hsm : ∀ u, u < 1000 → I 93 y = nt u → old = some u := by
    intro u hu e
    rw [h93] at e
    cases old with
    | none => exact absurd e.symm (by rw [show o1 none = -1 from rfl, nt_m1 (by omega)]; exact id)
    | some u' =>
      have := hold u' rfl
      rw [nt_inj (by omega) (by omega) e]
  rcases h with ⟨a1, a2⟩ | ⟨v, c0, a1, a2, a3, a4, a5, a6⟩
  · rcases hw with ⟨_, b2, b3⟩ | ⟨⟨u, e, _⟩, b2, b3⟩
    · refine Or.inr ⟨_, c, b2, b3, hp, Or.inr (fun _ _ => rfl), rfl, ?_⟩
      intro d hd hD
      rcases hD with hD | hD
      · exact absurd hD (a2 d hd)
      · exact same d hD
    · exfalso
      have := hold u e
      rw [h93, e] at a1
      have a1' : nt u = -1 := a1
      rw [nt_m1 (by omega)] at a1'
      exact a1'
  · have hvl : v < 1000 := by rw [← a5]; exact wor_lt hm
    have ho' := hsm v hvl a1
    rcases hw with ⟨b1, b2, b3⟩ | ⟨⟨u, e, b1⟩, b2, b3⟩
    · have hlt := b1 v ho'
      refine Or.inr ⟨_, c, b2, b3, hp, Or.inr (fun _ _ => rfl), rfl, ?_⟩
      intro d hd hD
      rcases hD with hD | hD
      · have := (a6 d hd hD).1
        exact ⟨by omega, fun e => by omega⟩
      · exact same d hD
    · rw [ho'] at e
      cases e
      refine Or.inr ⟨v, c0, b2.trans a1, fun i hi => (b3 i hi).trans (a2 i hi), a3, Or.inl a4, a5, ?_⟩
      intro d hd hD
      rcases hD with hD | hD
      · exact a6 d hd hD
      · rw [wor_ext V hD]
        exact ⟨b1, fun _ l => ho c0 a4 (lx_congr hD l)⟩
