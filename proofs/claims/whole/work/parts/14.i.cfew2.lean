/-! the fewest, by name -/
noncomputable def fwe (n m : Nat) (w : aT) : Nat × (Nat → Nat) := Classical.epsilon (fun kp : Nat × (Nat → Nat) => Fw n m w kp.1 kp.2)
noncomputable def fk (n m : Nat) (w : aT) : Nat := (fwe n m w).1
noncomputable def fs (n m : Nat) (w : aT) (i : Nat) : Int32 := cst (cls n m w) (fwe n m w).2 i
theorem Fw_name {n m k : Nat} {w : aT} {p : Nat → Nat} (h : Fw n m w k p) : k = fk n m w ∧ (∀ i, i < k → cst (cls n m w) p i = fs n m w i) ∧ Fw n m w (fk n m w) (fwe n m w).2 := by
  have hs : Fw n m w (fwe n m w).1 (fwe n m w).2 := Classical.epsilon_spec (p := fun kp : Nat × (Nat → Nat) => Fw n m w kp.1 kp.2) ⟨(k, p), h⟩
  have hu := Fw_uniq h hs
  refine ⟨hu.1, ?_, hs⟩
  intro i hi
  show cst (cls n m w) p i = cst (cls n m w) (fwe n m w).2 i
  unfold cst
  rw [hu.2 i hi]
/-- they are there -/
def fOk (n m : Nat) (w : aT) : Prop := fk n m w ≤ n ∧ Fw n m w (fk n m w) (fwe n m w).2
theorem fOk_of {n m k : Nat} {w : aT} {p : Nat → Nat} (hk : k ≤ n) (h : Fw n m w k p) : fOk n m w := by
  have := Fw_name h
  exact ⟨by rw [← this.1]; exact hk, this.2.2⟩
def cFw (n m : Nat) (w : aT) (v : Int32) (c : Nat → Int32) : Prop := fOk n m w ∧ v = nt (fk n m w) ∧ ∀ i, i < fk n m w → c i = fs n m w i
theorem cFw_of {n m k : Nat} {w : aT} {p : Nat → Nat} (hk : k ≤ n) (h : Fw n m w k p) {v : Int32} {c : Nat → Int32} (hv : v = nt k) (hc : ∀ i, i < k → c i = cst (cls n m w) p i) : cFw n m w v c := by
  have hn := Fw_name h
  refine ⟨fOk_of hk h, by rw [← hn.1]; exact hv, ?_⟩
  intro i hi
  rw [← hn.1] at hi
  rw [hc i hi, hn.2.1 i hi]
theorem refrFew_ok {n m : Nat} {w : aT} {I : xI} {J : xJ} (hn : n ≤ 6) (hm : m ≤ 4) (V : Vd n m w) (hR : cRd n m w I) (hc : I 36 13 = I 1 2 → cFw n m w (I 36 12) (I 42)) : Ok (f_X1_refreshFewest I J) (fun o => o.2.2 = J ∧ cFw n m w (o.2.1 36 12) (o.2.1 42) ∧ o.2.1 36 13 = I 1 2 ∧ ∀ c j, ¬ c = 41 → ¬ c = 42 → ¬ (c = 36 ∧ (j = 12 ∨ j = 13)) → o.2.1 c j = I c j) := by
  have hlen : (cls n m w).length ≤ 63 := cls_len hn
  unfold f_X1_refreshFewest f_X1_refreshFewest_0
  by_cases hs : I 36 13 = I 1 2
  · rw [if_pos hs]
    exact ok_some ⟨rfl, hc hs, hs, fun _ _ _ _ _ => rfl⟩
  · rw [if_neg hs]
    unfold f_X1_refreshFewest_2 f_X1_refreshFewest_3
    have cr : ∀ I' : xI, (∀ c j, ¬ c = 41 → ¬ (c = 36 ∧ (j = 12 ∨ j = 13)) → I' c j = I c j) → cRd n m w I' := by
      intro I' hf
      obtain ⟨r1, r2, r3, r4, r5, W, r6, r7, r8⟩ := hR
      have e38 : I' 38 = I 38 := funext fun j => hf 38 j (by omega) (by omega)
      have e40 : I' 40 = I 40 := funext fun j => hf 40 j (by omega) (by omega)
      exact ⟨(hf 1 0 (by omega) (by omega)).trans r1, (hf 1 1 (by omega) (by omega)).trans r2, (hf 36 4 (by omega) (by omega)).trans r3, by rw [e38]; exact r4, by rw [e40]; exact r5, W, (hf 36 5 (by omega) (by omega)).trans r6, r7, r8⟩
    have step : ∀ k s, (k ≤ n ∧ ∃ I', s = (nt k, I', J) ∧ (∀ k', k' < k → ∀ r, Pk (cls n m w).length k' r → ¬ cvr n m w (cls n m w) k' r) ∧ I' 36 13 = I 1 2 ∧ ∀ c j, ¬ c = 41 → ¬ (c = 36 ∧ (j = 12 ∨ j = 13)) → I' c j = I c j) → Ok (b_X1_refreshFewest_3 s.1 s.2.1 s.2.2) (Sum.elim (fun s => k + 1 ≤ n ∧ ∃ I', s = (nt (k + 1), I', J) ∧ (∀ k', k' < k + 1 → ∀ r, Pk (cls n m w).length k' r → ¬ cvr n m w (cls n m w) k' r) ∧ I' 36 13 = I 1 2 ∧ ∀ c j, ¬ c = 41 → ¬ (c = 36 ∧ (j = 12 ∨ j = 13)) → I' c j = I c j) (fun o => o.2.2 = J ∧ cFw n m w (o.2.1 36 12) (o.2.1 42) ∧ o.2.1 36 13 = I 1 2 ∧ ∀ c j, ¬ c = 41 → ¬ c = 42 → ¬ (c = 36 ∧ (j = 12 ∨ j = 13)) → o.2.1 c j = I c j)) := by
      rintro k s ⟨hkn, I', rfl, g1, g2, g3⟩
      have hR' := cr I' g3
      have hR2 := hR'
      obtain ⟨r1, r2, r3, r4, r5, rW⟩ := hR2
      simp (disch := omega) only [b_X1_refreshFewest_3, f_X1_refreshFewest_4, r1, nt_clamp, nt_le, nt_lt, nt_eq, lit_le, lit_lt, le_lit, lt_lit, eq_lit, lit_eq, nt_neg, nt_ge, nt_add, nt_mul, nt_addl, lit_add, nt_mull, lit_mul, nt_sub, nt_subl, lit_sub, nt_divl, nt_m1, nt_m2, nt_m1', nt_m2', if_neg]
      apply ok_bind
      refine (choose_ok (n := n) (m := m) (k := k) (w := w) hn hm (by omega) 12 0 0 (fun i => i) I' J (by omega) (by omega) (by omega) ⟨fun i hi => absurd hi (by omega), fun i j _ hj => absurd hj (by omega)⟩ (fun j hj => absurd hj (by omega)) (fun j hj => absurd hj (by omega)) hR').imp ?_
      rintro ⟨b, I1, J1⟩ ⟨rfl, f1, f2⟩
      dsimp only at f1 f2 ⊢
      rcases f2 with ⟨rfl, q, hq1, hq2, hq3, hq4⟩ | ⟨rfl, f3⟩
      · have hFw : Fw n m w k q := ⟨⟨hq1.1, hq2, fun t ht hct => hq4 t ⟨ht, fun j hj => absurd hj (by omega), fun _ => by omega⟩ hct⟩, g1⟩
        simp only [f_X1_refreshFewest_5, e10, if_false, f_X1_refreshFewest_6, f_X1_refreshFewest_8]
        apply ok_map
        unfold f_X1_refreshFewest_9
        refine ok_loop (fun i s => ∃ I2, s = (nt i, I2, J1) ∧ (∀ j, j < i → I2 42 j = cst (cls n m w) q j) ∧ ∀ c j, ¬ c = 42 → I2 c j = (xup I1 36 12 (nt k)) c j) k ?_ ?_ 5000 0 _ (by omega) (by omega) ⟨_, rfl, fun j hj => absurd hj (by omega), fun _ _ _ => rfl⟩
        · rintro i hi s ⟨I2, rfl, a1, a2⟩
          have hb := hq1.1.1 i hi
          have e12 : I2 36 12 = nt k := by rw [a2 36 12 (by omega), xup_at]
          have e41 : I2 41 i = nt (q i) := by rw [a2 41 i (by omega), xup_bj _ _ _ _ _ (by omega)]; exact hq3 i hi
          have e38 : I2 38 (q i) = cst (cls n m w) q i := by
            rw [a2 38 _ (by omega), xup_bj _ _ _ _ _ (by omega), f1 38 _ (by omega)]
            exact getD_Ls r4 hb
          simp (disch := omega) only [b_X1_refreshFewest_9, f_X1_refreshFewest_10, e12, e41, nt_clamp, nt_le, nt_lt, nt_eq, lit_le, lit_lt, le_lit, lt_lit, eq_lit, lit_eq, nt_neg, nt_ge, nt_add, nt_mul, nt_addl, lit_add, nt_mull, lit_mul, nt_sub, nt_subl, lit_sub, nt_divl, nt_m1, nt_m2, nt_m1', nt_m2', false_or, if_neg, e38]
          refine ok_some ⟨_, rfl, ?_, ?_⟩
          · intro j hj
            rw [xup_if]
            by_cases c : j = i
            · rw [if_pos c, c]
            · rw [if_neg c]; exact a1 j (by omega)
          · intro c j hc
            rw [xup_bj _ _ _ _ _ hc, a2 c j hc]
        · rintro s ⟨I2, rfl, a1, a2⟩
          have e12 : I2 36 12 = nt k := by rw [a2 36 12 (by omega), xup_at]
          simp (disch := omega) only [b_X1_refreshFewest_9, f_X1_refreshFewest_11, e12, nt_clamp, nt_le, nt_lt, nt_eq, lit_le, lit_lt, le_lit, lt_lit, eq_lit, lit_eq, nt_neg, nt_ge, nt_add, nt_mul, nt_addl, lit_add, nt_mull, lit_mul, nt_sub, nt_subl, lit_sub, nt_divl, nt_m1, nt_m2, nt_m1', nt_m2', if_true, if_false, if_pos, if_neg, e01, e10, em12, em21, e0m1, e0m2, e1m1, e1m2, em10, em20, Int32.reduceLT, Int32.reduceLE, eq_self, Option.bind_some, Option.map_some, false_or, or_false, or_self, true_or, or_true, not_true_eq_false, not_false_eq_true, false_and, and_false, true_and, and_true]
          refine ok_some ⟨rfl, cFw_of hkn hFw e12 a1, ?_, ?_⟩
          · show I2 36 13 = I 1 2
            rw [a2 36 13 (by omega), xup_j _ _ _ _ (by omega), f1 36 13 (by omega)]; exact g2
          · intro c j c1 c2 c3
            show I2 c j = I c j
            rw [a2 c j c2, xup_no _ _ _ _ (by omega), f1 c j (by omega), g3 c j c1 c3]
      · have hno : ∀ r, Pk (cls n m w).length k r → ¬ cvr n m w (cls n m w) k r := fun r hr => f3 r ⟨hr, fun j hj => absurd hj (by omega), fun _ => by omega⟩
        have hlt : k < n := by
          rcases Nat.lt_or_ge k n with c | c
          · exact c
          · have : k = n := by omega
            subst this
            exact absurd (sgl_cvr hn V) (hno _ (sgl_pk hn))
        simp only [f_X1_refreshFewest_5, if_true, f_X1_refreshFewest_7, nt_addl]
        refine ok_some ⟨by omega, I1, rfl, ?_, (f1 36 13 (by omega)).trans g2, fun c j c1 c2 => (f1 c j (by omega)).trans (g3 c j c1 c2)⟩
        intro k' hk' r hr
        by_cases c : k' = k
        · subst c; exact hno r hr
        · exact g1 k' (by omega) r hr
    refine ok_loop (fun k s => k ≤ n ∧ ∃ I', s = (nt k, I', J) ∧ (∀ k', k' < k → ∀ r, Pk (cls n m w).length k' r → ¬ cvr n m w (cls n m w) k' r) ∧ I' 36 13 = I 1 2 ∧ ∀ c j, ¬ c = 41 → ¬ (c = 36 ∧ (j = 12 ∨ j = 13)) → I' c j = I c j) n ?_ ?_ 5000 0 _ (by omega) (by omega) ⟨by omega, _, rfl, fun k' hk' => absurd hk' (by omega), ?_, ?_⟩
    · intro k hk s hs
      exact step k s hs
    · intro s hs
      refine (step n s hs).imp ?_
      intro o
      cases o with
      | inl s' => intro hh; have := hh.1; omega
      | inr r => exact id
    · rw [xup_j _ _ _ _ (by omega), xup_at]
    · intro c j c1 c2
      rw [xup_no _ _ _ _ (by omega), xup_no _ _ _ _ (by omega)]
/-- the fewest are classes that hold all and lead into themselves -/
theorem fs_cls {n m : Nat} {w : aT} (h : fOk n m w) {i : Nat} (hi : i < fk n m w) : ∃ S, S ∈ cls n m w ∧ fs n m w i = nt S := by
  have hlt := h.2.1.1.1 i hi
  refine ⟨(cls n m w).getD ((fwe n m w).2 i) 0, ?_, rfl⟩
  rw [getD_of (List.getElem?_eq_getElem hlt)]
  exact List.getElem_mem hlt
theorem fs_led {n m : Nat} {w : aT} (h : fOk n m w) {i x : Nat} (hi : i < fk n m w) (hx : x < m) : ∃ j, j < fk n m w ∧ sub (ld n w (fs n m w i) x) (fs n m w j) = true := by
  have hc := h.2.1.2.1.2
  unfold cvb at hc
  exact ex_iff.mp (al_iff.mp (al_iff.mp hc i hi) x hx)
theorem fs_all {n m : Nat} {w : aT} (hn : n ≤ 6) (h : fOk n m w) {s : Nat} (hs : s < n) : ∃ i, i < fk n m w ∧ bt (fs n m w i) s = true := by
  have hc := h.2.1.2.1.1
  have : bt (orf (fk n m w) (cst (cls n m w) (fwe n m w).2)) s = true := by
    rw [hc, all_bt hn (by omega), decide_eq_true hs]
  rw [orf_bt] at this
  exact ex_iff.mp this
