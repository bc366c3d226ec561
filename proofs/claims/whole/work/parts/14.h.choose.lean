/-! the class chooses -/
/-- what the choosing reads -/
def cRd (n m : Nat) (w : aT) (I : xI) : Prop := I 1 0 = nt n ∧ I 1 1 = nt m ∧ I 36 4 = nt (cls n m w).length ∧ Ls (cls n m w) (I 38) ∧ (∀ i S x, (cls n m w)[i]? = some S → x < m → I 40 (i * 4 + x) = ld n w (nt S) x) ∧ ∃ W, I 36 5 = nt W ∧ W ≤ 6 ∧ ∀ S, S ∈ cls n m w → pcn S ≤ W
theorem cRd_fr {n m : Nat} {w : aT} {I I' : xI} (h : cRd n m w I) (hf : ∀ c j, ¬ c = 41 → I' c j = I c j) : cRd n m w I' := by
  obtain ⟨h1, h2, h3, h4, h5, W, h6, h7, h8⟩ := h
  have e38 : I' 38 = I 38 := funext fun j => hf 38 j (by omega)
  have e40 : I' 40 = I 40 := funext fun j => hf 40 j (by omega)
  refine ⟨(hf 1 0 (by omega)).trans h1, (hf 1 1 (by omega)).trans h2, (hf 36 4 (by omega)).trans h3, by rw [e38]; exact h4, by rw [e40]; exact h5, W, (hf 36 5 (by omega)).trans h6, h7, h8⟩
theorem held_sub {n m d : Nat} {w : aT} {p : Nat → Nat} (hn : n ≤ 6) (hp : ∀ j, j < d → p j < (cls n m w).length) : sub (orf d (cst (cls n m w) p)) (nt (2 ^ n - 1)) = true := by
  rw [sub_iff]
  intro k hk hb
  rw [orf_bt] at hb
  obtain ⟨j, hj, hb⟩ := ex_iff.mp hb
  have hlt := hp j hj
  have hm : (cls n m w).getD (p j) 0 ∈ cls n m w := by
    rw [getD_of (List.getElem?_eq_getElem hlt)]; exact List.getElem_mem hlt
  have hS := (fl_mem.mp hm).1
  rw [all_bt hn hk, decide_eq_true (set_bt hS hb)]
theorem choose_ok {n m k : Nat} {w : aT} (hn : n ≤ 6) (hm : m ≤ 4) (hk : k ≤ 6) : ∀ (r d fr : Nat) (p : Nat → Nat) (I : xI) (J : xJ), k < r + d → d ≤ k → fr ≤ (cls n m w).length → Pk (cls n m w).length d p → (∀ j, j < d → p j < fr) → (∀ j, j < d → I 41 j = nt (p j)) → cRd n m w I → Ok (f_X1_choose r (nt fr) (nt d) (nt k) (orf d (cst (cls n m w) p)) I J) (fun o => o.2.2 = J ∧ (∀ c j, ¬ (c = 41 ∧ d ≤ j) → o.2.1 c j = I c j) ∧ ((o.1 = 1 ∧ ∃ q, Ext (cls n m w).length k d fr p q ∧ cvr n m w (cls n m w) k q ∧ (∀ j, j < k → o.2.1 41 j = nt (q j)) ∧ ∀ t, Ext (cls n m w).length k d fr p t → cvr n m w (cls n m w) k t → ¬ lx k t q) ∨ (o.1 = 0 ∧ ∀ t, Ext (cls n m w).length k d fr p t → ¬ cvr n m w (cls n m w) k t))) := by
  intro r
  induction r with
  | zero => intro d fr p I J h1 h2; omega
  | succ r ih =>
    intro d fr p I J hrd hdk hfr hp hpf h41 hR
    have hlen : (cls n m w).length ≤ 63 := cls_len hn
    have h64 := pow_le hn
    have hpp := pow_pos2 n
    obtain ⟨r1, r2, r3, r4, r5, W, r6, r7, r8⟩ := hR
    have hR : cRd n m w I := ⟨r1, r2, r3, r4, r5, W, r6, r7, r8⟩
    show Ok (f_X1_choose_0 (f_X1_choose r) (nt fr) (nt d) (nt k) (orf d (cst (cls n m w) p)) I J) _
    simp (disch := omega) only [f_X1_choose_0, r1, nt_31, shl_nt, sub1_nt hn, nt_clamp, nt_le, nt_lt, nt_eq, lit_le, lit_lt, le_lit, lt_lit, eq_lit, lit_eq, nt_neg, nt_ge, nt_add, nt_mul, nt_addl, lit_add, nt_mull, lit_mul, nt_sub, nt_subl, lit_sub, nt_divl, nt_m1, nt_m2, nt_m1', nt_m2']
    by_cases hd : 0 < k - d
    · rw [if_pos hd]
      have hbc : bcf (nt (2 ^ n - 1) &&& (orf d (cst (cls n m w) p) ^^^ -1)) = nt (cn 6 (fun i => bt (nt (2 ^ n - 1) &&& (orf d (cst (cls n m w) p) ^^^ -1)) i)) := by
        apply low_nt
        intro b hb h6
        rw [miss_bt hn _ hb, decide_eq_false (by omega)]; rfl
      have hc6 : cn 6 (fun i => bt (nt (2 ^ n - 1) &&& (orf d (cst (cls n m w) p) ^^^ -1)) i) ≤ 6 := cn_le
      have hmul : (k - d) * W ≤ 6 * 6 := Nat.mul_le_mul (by omega) r7
      simp (disch := omega) only [f_X1_choose_7, bitCount_ok, hbc, Option.bind_some, f_X1_choose_8, r6, nt_clamp, nt_le, nt_lt, nt_eq, lit_le, lit_lt, le_lit, lt_lit, eq_lit, lit_eq, nt_neg, nt_ge, nt_add, nt_mul, nt_addl, lit_add, nt_mull, lit_mul, nt_sub, nt_subl, lit_sub, nt_divl, nt_m1, nt_m2, nt_m1', nt_m2']
      by_cases hpr : cn 6 (fun i => bt (nt (2 ^ n - 1) &&& (orf d (cst (cls n m w) p) ^^^ -1)) i) ≤ (k - d) * W
      · rw [if_pos hpr]
        simp only [f_X1_choose_10]
        unfold f_X1_choose_11
        have ending : ∀ (x5 : Int32) (I' : xI) (i : Nat), i < 2147483648 → (∀ c j, ¬ (c = 41 ∧ d ≤ j) → I' c j = I c j) → (∀ t, Ext (cls n m w).length k d fr p t → ¬ cvr n m w (cls n m w) k t) → (nt (cls n m w).length - nt (k - d) < nt i) → Ok (b_X1_choose_11 (f_X1_choose r) (nt fr) (nt d) (nt k) (orf d (cst (cls n m w) p)) x5 (nt (k - d)) (nt i) I' J) (Sum.elim (fun _ => False) (fun o => o.2.2 = J ∧ (∀ c j, ¬ (c = 41 ∧ d ≤ j) → o.2.1 c j = I c j) ∧ ((o.1 = 1 ∧ ∃ q, Ext (cls n m w).length k d fr p q ∧ cvr n m w (cls n m w) k q ∧ (∀ j, j < k → o.2.1 41 j = nt (q j)) ∧ ∀ t, Ext (cls n m w).length k d fr p t → cvr n m w (cls n m w) k t → ¬ lx k t q) ∨ (o.1 = 0 ∧ ∀ t, Ext (cls n m w).length k d fr p t → ¬ cvr n m w (cls n m w) k t)))) := by
          intro x5 I' i hi hf hno hlt
          have e4 : I' 36 4 = nt (cls n m w).length := (hf 36 4 (by omega)).trans r3
          simp only [b_X1_choose_11, e4, if_pos hlt, f_X1_choose_16, Option.map_some]
          exact ok_some ⟨rfl, hf, Or.inr ⟨rfl, hno⟩⟩
        by_cases hNl : fr ≤ (cls n m w).length - (k - d) + 1 ∧ k - d ≤ (cls n m w).length
        · refine ok_loop (fun i s => ∃ I', s = (nt fr, nt d, nt k, orf d (cst (cls n m w) p), nt (2 ^ n - 1) &&& (orf d (cst (cls n m w) p) ^^^ -1), nt (k - d), nt i, I', J) ∧ fr ≤ i ∧ (∀ c j, ¬ (c = 41 ∧ d ≤ j) → I' c j = I c j) ∧ ∀ t, Ext (cls n m w).length k d fr p t → t d < i → ¬ cvr n m w (cls n m w) k t) ((cls n m w).length - (k - d) + 1) ?_ ?_ 5000 fr _ (by omega) (by omega) ⟨I, rfl, by omega, fun _ _ _ => rfl, fun t ht hlt => absurd (ht.2.2 (by omega)) (by omega)⟩
          · rintro i hi s ⟨I', rfl, hfi, g1, g2⟩
            have e4 : I' 36 4 = nt (cls n m w).length := (g1 36 4 (by omega)).trans r3
            have e38 : ∀ j, (xup I' 41 d (nt i)) 38 j = I 38 j := fun j => by rw [xup_bj _ _ _ _ _ (by omega), g1 38 j (by omega)]
            have e38i : I 38 i = nt ((cls n m w).getD i 0) := getD_Ls r4 (by omega)
            have hR' : cRd n m w (xup I' 41 d (nt i)) := cRd_fr hR (fun c j hc => by rw [xup_bj _ _ _ _ _ hc, g1 c j (by omega)])
            have hd6 : d < 6 := by omega
            simp (disch := omega) only [b_X1_choose_11, f_X1_choose_12, e4, nt_clamp, nt_le, nt_lt, nt_eq, lit_le, lit_lt, le_lit, lt_lit, eq_lit, lit_eq, nt_neg, nt_ge, nt_add, nt_mul, nt_addl, lit_add, nt_mull, lit_mul, nt_sub, nt_subl, lit_sub, nt_divl, nt_m1, nt_m2, nt_m1', nt_m2', false_or, if_neg, e38, e38i]
            have eo : orf d (cst (cls n m w) p) ||| nt ((cls n m w).getD i 0) = orf (d + 1) (cst (cls n m w) (fun j => if j = d then i else p j)) := by
              rw [orf]
              congr 1
              · apply orf_congr
                intro j hj
                unfold cst
                dsimp only
                rw [if_neg (by omega)]
              · unfold cst
                dsimp only
                rw [if_pos rfl]
            rw [eo]
            apply ok_bind
            refine (ih (d + 1) (i + 1) (fun j => if j = d then i else p j) (xup I' 41 d (nt i)) J (by omega) (by omega) (by omega) ?_ ?_ ?_ hR').imp ?_
            · refine ⟨?_, ?_⟩
              · intro j hj
                dsimp only
                by_cases c : j = d
                · rw [if_pos c]; omega
                · rw [if_neg c]; exact hp.1 j (by omega)
              · intro a b hab hb
                dsimp only
                by_cases c : b = d
                · rw [if_pos c, if_neg (by omega)]
                  have := hpf a (by omega); omega
                · rw [if_neg c, if_neg (by omega)]; exact hp.2 a b hab (by omega)
            · intro j hj
              by_cases c : j = d
              · rw [if_pos c]; omega
              · rw [if_neg c]; have := hpf j (by omega); omega
            · intro j hj
              rw [xup_if]
              by_cases c : j = d
              · rw [if_pos c, if_pos c]
              · rw [if_neg c, if_neg c, g1 41 j (by omega)]; exact h41 j (by omega)
            · rintro ⟨b, I2, J2⟩ ⟨rfl, f1, f2⟩
              dsimp only at f1 f2 ⊢
              have f1' : ∀ c j, ¬ (c = 41 ∧ d ≤ j) → I2 c j = I c j := by
                intro c j hc
                rw [f1 c j (by omega), xup_no _ _ _ _ (by omega), g1 c j hc]
              have ext_of : ∀ t, Ext (cls n m w).length k d fr p t → t d = i → Ext (cls n m w).length k (d + 1) (i + 1) (fun j => if j = d then i else p j) t := by
                intro t ht hti
                refine ⟨ht.1, ?_, ?_⟩
                · intro j hj
                  dsimp only
                  by_cases c : j = d
                  · rw [if_pos c, c]; exact hti
                  · rw [if_neg c]; exact ht.2.1 j (by omega)
                · intro hdk2
                  have := ht.1.2 d (d + 1) (by omega) hdk2
                  omega
              rcases f2 with ⟨rfl, q, hq1, hq2, hq3, hq4⟩ | ⟨rfl, f3⟩
              · simp only [f_X1_choose_13, e10, if_false, f_X1_choose_14, Option.map_some]
                have hqd : q d = i := by
                  have := hq1.2.1 d (by omega)
                  dsimp only at this
                  rw [if_pos rfl] at this; exact this
                refine ok_some ⟨rfl, f1', Or.inl ⟨rfl, q, ⟨hq1.1, ?_, fun _ => by omega⟩, hq2, hq3, ?_⟩⟩
                · intro j hj
                  have := hq1.2.1 j (by omega)
                  dsimp only at this
                  rw [if_neg (by omega)] at this; exact this
                · intro t ht hct hl
                  rcases Nat.lt_trichotomy (t d) i with c | c | c
                  · exact g2 t ht c hct
                  · exact hq4 t (ext_of t ht c) hct hl
                  · obtain ⟨e, he, hl1, hl2⟩ := hl
                    rcases Nat.lt_trichotomy e d with c2 | c2 | c2
                    · have a1 := ht.2.1 e c2
                      have a2 := hq1.2.1 e (by omega)
                      dsimp only at a2
                      rw [if_neg (by omega)] at a2
                      omega
                    · rw [c2] at hl1; omega
                    · have := hl2 d c2; omega
              · simp only [f_X1_choose_13, if_true, f_X1_choose_15, nt_addl]
                refine ok_some ⟨I2, rfl, by omega, f1', ?_⟩
                intro t ht hlt
                by_cases c : t d = i
                · exact f3 t (ext_of t ht c)
                · exact g2 t ht (by omega)
          · rintro s ⟨I', rfl, hfi, g1, g2⟩
            refine ending _ I' _ (by omega) g1 ?_ ?_
            · intro t ht
              have := Pk_max ht.1 (show d < k from by omega)
              exact g2 t ht (by omega)
            · simp (disch := omega) only [nt_clamp, nt_le, nt_lt, nt_eq, lit_le, lit_lt, le_lit, lt_lit, eq_lit, lit_eq, nt_neg, nt_ge, nt_add, nt_mul, nt_addl, lit_add, nt_mull, lit_mul, nt_sub, nt_subl, lit_sub, nt_divl, nt_m1, nt_m2, nt_m1', nt_m2']
              omega
        · refine ok_xloop ?_
          have hx : nt (cls n m w).length - nt (k - d) < nt fr := by
            by_cases c : k - d ≤ (cls n m w).length
            · simp (disch := omega) only [nt_clamp, nt_le, nt_lt, nt_eq, lit_le, lit_lt, le_lit, lt_lit, eq_lit, lit_eq, nt_neg, nt_ge, nt_add, nt_mul, nt_addl, lit_add, nt_mull, lit_mul, nt_sub, nt_subl, lit_sub, nt_divl, nt_m1, nt_m2, nt_m1', nt_m2']
              omega
            · exact neg_lt (small_neg _ (by omega) _ (by omega) (by omega)) (by omega)
          refine (ending _ I fr (by omega) (fun _ _ _ => rfl) ?_ hx).imp ?_
          · intro t ht hc
            have h1 := Pk_max ht.1 (show d < k from by omega)
            have h2 := ht.2.2 (by omega)
            omega
          · intro o
            cases o with
            | inl s' => exact fun hh => hh.elim
            | inr o => exact id
      · rw [if_neg hpr]
        refine ok_some ⟨rfl, fun _ _ _ => rfl, Or.inr ⟨rfl, ?_⟩⟩
        intro t ht hc
        exact hpr (prune_ok hn r8 hdk ht.1 ht.2.1 hc)
    · rw [if_neg hd]
      have hdk2 : d = k := by omega
      subst hdk2
      have hcl := isClosed_ok (J := J) (n := n) (w := w) hk hm r2 hlen r4 r5 hp.1 h41
      have ext_eq : ∀ t, Ext (cls n m w).length d d fr p t → cvr n m w (cls n m w) d t → cvr n m w (cls n m w) d p := fun t ht hc => cvr_congr ht.2.1 hc
      simp only [f_X1_choose_1, sub_def]
      cases es : sub (nt (2 ^ n - 1)) (orf d (cst (cls n m w) p)) with
      | false =>
        simp only [Bool.false_eq_true, if_false, f_X1_choose_5, f_X1_choose_6, if_true, if_false, if_pos, if_neg, e01, e10, em12, em21, e0m1, e0m2, e1m1, e1m2, em10, em20, Int32.reduceLT, Int32.reduceLE, eq_self, Option.bind_some, Option.map_some, false_or, or_false, or_self, true_or, or_true, not_true_eq_false, not_false_eq_true, false_and, and_false, true_and, and_true]
        refine ok_some ⟨rfl, fun _ _ _ => rfl, Or.inr ⟨rfl, ?_⟩⟩
        intro t ht hc
        have := (ext_eq t ht hc).1
        rw [this, sub_refl] at es
        cases es
      | true =>
        have hall : orf d (cst (cls n m w) p) = nt (2 ^ n - 1) := sub_eq (held_sub hn hp.1) es
        simp only [if_true, f_X1_choose_2, hcl, Option.bind_some, f_X1_choose_3, bi_0]
        cases ec : cvb n m w d (cst (cls n m w) p) with
        | false =>
          simp only [if_true, f_X1_choose_5, f_X1_choose_6, if_true, if_false, if_pos, if_neg, e01, e10, em12, em21, e0m1, e0m2, e1m1, e1m2, em10, em20, Int32.reduceLT, Int32.reduceLE, eq_self, Option.bind_some, Option.map_some, false_or, or_false, or_self, true_or, or_true, not_true_eq_false, not_false_eq_true, false_and, and_false, true_and, and_true]
          refine ok_some ⟨rfl, fun _ _ _ => rfl, Or.inr ⟨rfl, ?_⟩⟩
          intro t ht hc
          have := (ext_eq t ht hc).2
          rw [this] at ec
          cases ec
        | true =>
          simp only [Bool.true_eq_false, if_false, f_X1_choose_4, f_X1_choose_6, if_true, if_false, if_pos, if_neg, e01, e10, em12, em21, e0m1, e0m2, e1m1, e1m2, em10, em20, Int32.reduceLT, Int32.reduceLE, eq_self, Option.bind_some, Option.map_some, false_or, or_false, or_self, true_or, or_true, not_true_eq_false, not_false_eq_true, false_and, and_false, true_and, and_true]
          refine ok_some ⟨rfl, fun _ _ _ => rfl, Or.inl ⟨rfl, p, ⟨hp, fun _ _ => rfl, fun h => absurd h (by omega)⟩, ⟨hall, ec⟩, h41, ?_⟩⟩
          rintro t ht _ ⟨e, he, hl, _⟩
          have := ht.2.1 e he
          omega
