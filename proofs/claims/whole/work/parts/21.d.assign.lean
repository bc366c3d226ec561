/-! the best codes: assign of the class -/
def upc (p : Nat → Nat) (s k i : Nat) : Nat := if i = s then k else p i
theorem upc_at (p : Nat → Nat) (s k : Nat) : upc p s k s = k := if_pos rfl
theorem upc_ne {p : Nat → Nat} {s k i : Nat} (h : ¬ i = s) : upc p s k i = p i := if_neg h
def tpc (n y s : Nat) : Nat := if y = 0 ∧ s = 0 then 1 else 2 ^ nb n
theorem tpc_le {n y s : Nat} (hn : n ≤ 6) : tpc n y s ≤ 2 ^ nb n ∧ 2 ^ nb n ≤ 8 := by
  have hw := nb_pow n (by omega)
  have hpos : 0 < 2 ^ nb n := Nat.pow_pos (by omega)
  unfold tpc
  split <;> omega
theorem assign3_eq {n y s : Nat} {U : Int32} {I : xI} {J : xJ} {self : Int32 → Int32 → Int32 → xI → xJ → Option (Unit × xI × xJ)} (hn : n ≤ 6) (hy : y < 2) (hs : s < 7) (h10 : I 1 0 = nt n) : f_X0_assign_3 self (nt y) (nt s) U I J = f_X0_assign_9 self (nt y) (nt s) U (nt (tpc n y s)) 0 I J := by
  have hb3 := nb_le n
  have h6 : f_X0_assign_6 self (nt y) (nt s) U I J = f_X0_assign_9 self (nt y) (nt s) U (nt (2 ^ nb n)) 0 I J := by
    simp only [f_X0_assign_6, cbits_ok hn h10, Option.bind_some, f_X0_assign_7, f_X0_assign_8, shl3 (nb n) (by omega)]
  simp (disch := omega) only [f_X0_assign_3, f_X0_assign_4, f_X0_assign_5, f_X0_assign_8, h6, nt_clamp, nt_le, nt_lt, nt_eq, lit_le, lit_lt, le_lit, lt_lit, eq_lit, lit_eq, nt_neg, nt_ge, nt_add, nt_mul, nt_addl, lit_add, nt_mull, lit_mul, nt_sub, nt_subl, lit_sub, nt_divl, nt_m1, nt_m2, nt_m1', nt_m2']
  unfold tpc
  by_cases e : y = 0
  · by_cases e2 : s = 0
    · rw [if_pos e, if_pos e2, if_pos ⟨e, e2⟩]; rfl
    · rw [if_pos e, if_neg e2, if_neg (by omega)]
  · rw [if_neg e, if_neg (by omega)]
theorem assign_ok {n m y : Nat} {w : aT} (hn : n ≤ 6) (hm : m ≤ 4) (V : Vd n m w) (hy : y < 2) : ∀ (r s lim : Nat) (p : Nat → Nat) (U : Int32) (I : xI) (J : xJ), n < r + s → s ≤ n → (∀ i, i < s → I 57 i = nt (p i) ∧ p i < 2 ^ nb n) → inj6 p s → (∀ k, k < 32 → bt U k = ex s (fun i => decide (p i = k))) → (∀ b, 0 < b → b < nb n → ¬ FI s p b) → (y = 0 → 0 < s → p 0 = 0) → I 59 y = nt lim → lim ≤ 1000 → bCx n m w I → mK I → Ok (f_X0_assign r (nt y) (nt s) U I J) (fun o => o.2.2 = J ∧ mK o.2.1 ∧ (∀ a j, ¬ bR y a j → o.2.1 a j = I a j) ∧ (∀ i, i < s → o.2.1 57 i = I 57 i) ∧ PO n m w y lim (fun d => ∀ i, i < s → d i = p i) I o.2.1) := by
  have hb3 := nb_le n
  intro r
  induction r with
  | zero => intro s lim p U I J h1 h2; omega
  | succ r ih =>
    intro s lim p U I J hr hsn hp hinj hU hF h00 h59 hl hx hM
    have h8 := tpc_le (n := n) (y := y) (s := s) hn
    show Ok (f_X0_assign_0 (f_X0_assign r) (nt y) (nt s) U I J) _
    simp (disch := omega) only [f_X0_assign_0, hx.1.1, nt_clamp, nt_le, nt_lt, nt_eq, lit_le, lit_lt, le_lit, lt_lit, eq_lit, lit_eq, nt_neg, nt_ge, nt_add, nt_mul, nt_addl, lit_add, nt_mull, lit_mul, nt_sub, nt_subl, lit_sub, nt_divl, nt_m1, nt_m2, nt_m1', nt_m2']
    by_cases hs : s < n
    · rw [if_pos hs, assign3_eq hn hy (by omega) hx.1.1]
      unfold f_X0_assign_9
      refine ok_loop (fun k st => ∃ I', st = (nt y, nt s, U, nt (tpc n y s), nt k, I', J) ∧ mK I' ∧ (∀ a j, ¬ bR y a j → I' a j = I a j) ∧ (∀ i, i < s → I' 57 i = I 57 i) ∧ PO n m w y lim (fun d => (∀ i, i < s → d i = p i) ∧ d s < k) I I') (tpc n y s) ?_ ?_ 5000 0 _ (by omega) (by omega) ⟨I, rfl, hM, fun _ _ _ => rfl, fun _ _ => rfl, PO_nil h59 (fun _ _ => rfl) (fun d _ h => absurd h.2 (by omega))⟩
      · rintro k hk st ⟨I1, rfl, g1, g2, g3, g4⟩
        have hx1 : bCx n m w I1 := bCx_fr hx g2
        obtain ⟨l1, hl1, e1⟩ := PO_lim g4
        have hk8 : k < 8 := by omega
        -- go on with the next code
        have next : ∀ I2 : xI, mK I2 → (∀ a j, ¬ bR y a j → I2 a j = I a j) → (∀ i, i < s → I2 57 i = I 57 i) → PO n m w y l1 (fun d => (∀ i, i < s → d i = p i) ∧ d s = k) I1 I2 → Ok (f_X0_assign_16 (f_X0_assign r) (nt y) (nt s) U (nt (tpc n y s)) (nt k) I2 J) (Sum.elim (fun st => ∃ I', st = (nt y, nt s, U, nt (tpc n y s), nt (k + 1), I', J) ∧ mK I' ∧ (∀ a j, ¬ bR y a j → I' a j = I a j) ∧ (∀ i, i < s → I' 57 i = I 57 i) ∧ PO n m w y lim (fun d => (∀ i, i < s → d i = p i) ∧ d s < k + 1) I I') (fun o => o.2.2 = J ∧ mK o.2.1 ∧ (∀ a j, ¬ bR y a j → o.2.1 a j = I a j) ∧ (∀ i, i < s → o.2.1 57 i = I 57 i) ∧ PO n m w y lim (fun d => ∀ i, i < s → d i = p i) I o.2.1)) := by
          intro I2 m1 m2 m3 m4
          simp only [f_X0_assign_16, nt_addl]
          refine ok_some ⟨I2, rfl, m1, m2, m3, ?_⟩
          refine PO_imp (PO_seq hl g4 e1 hl1 m4 ?_) ?_
          · rintro c d ⟨c1, c2⟩ ⟨d1, d2⟩ ⟨i, i1, i2, i3⟩
            rcases Nat.lt_trichotomy i s with q | q | q
            · rw [c1 i q, d1 i q] at i2; omega
            · rw [q] at i2; omega
            · have := i3 s q; omega
          · intro d _
            constructor
            · rintro (⟨a1, a2⟩ | ⟨a1, a2⟩)
              · exact ⟨a1, by omega⟩
              · exact ⟨a1, by omega⟩
            · rintro ⟨a1, a2⟩
              by_cases q : d s = k
              · exact Or.inr ⟨a1, q⟩
              · exact Or.inl ⟨a1, by omega⟩
        have hsh : (U >>> (nt k &&& 31)) &&& 1 = bi (bt U k) := by rw [nt_31 k (by omega), has_bi (by omega)]
        -- the code is laid
        have x57 : ∀ i, i < s + 1 → (xup I1 57 s (nt k)) 57 i = nt (upc p s k i) := by
          intro i hi
          by_cases q : i = s
          · rw [q, xup_at, upc_at]
          · rw [xup_j _ _ _ _ q, upc_ne q, g3 i (by omega)]; exact (hp i (by omega)).1
        have xfr : ∀ a j, ¬ bR y a j → (xup I1 57 s (nt k)) a j = I a j := by
          intro a j h
          have : ¬ a = 57 := by intro e; apply h; unfold bR; omega
          rw [xup_bj _ _ _ _ _ this]; exact g2 a j h
        have xpre : ∀ i, i < s → (xup I1 57 s (nt k)) 57 i = I 57 i := fun i hi => by rw [xup_j _ _ _ _ (by omega)]; exact g3 i hi
        have xM : mK (xup I1 57 s (nt k)) := by
          intro R O r1 r2 r3 r4
          rw [xup_bj _ _ _ _ _ (by omega)]; exact g1 R O r1 r2 r3 r4
        have x59 : (xup I1 57 s (nt k)) 59 y = nt l1 := by rw [xup_bj _ _ _ _ _ (by omega)]; exact e1
        have x58 : ∀ i, i < n → (xup I1 57 s (nt k)) 58 (6 * y + i) = I1 58 (6 * y + i) := fun i _ => xup_bj _ _ _ _ _ (by omega)
        have xx : bCx n m w (xup I1 57 s (nt k)) := bCx_fr hx xfr
        simp (disch := omega) only [b_X0_assign_9, f_X0_assign_10, hsh, bi_0, nt_clamp, nt_le, nt_lt, nt_eq, lit_le, lit_lt, le_lit, lt_lit, eq_lit, lit_eq, nt_neg, nt_ge, nt_add, nt_mul, nt_addl, lit_add, nt_mull, lit_mul, nt_sub, nt_subl, lit_sub, nt_divl, nt_m1, nt_m2, nt_m1', nt_m2', false_or, if_neg]
        generalize xup I1 57 s (nt k) = I2 at x57 xfr xpre xM x59 x58 xx ⊢
        cases hu : bt U k with
        | true =>
          rw [if_neg (by decide)]
          refine next I2 xM xfr xpre (PO_nil x59 x58 ?_)
          rintro d hd ⟨d1, d2⟩
          rw [hU k (by omega)] at hu
          obtain ⟨i, hi, e⟩ := ex_iff.mp hu
          have e2 := of_decide_eq_true e
          have := hd.1.1 i s (by omega) hs (by rw [d1 i hi, e2, d2])
          omega
        | false =>
          rw [if_pos rfl]
          have hfree : ∀ i, i < s → ¬ p i = k := by
            intro i hi e
            rw [hU k (by omega)] at hu
            have : ex s (fun i => decide (p i = k)) = true := ex_iff.mpr ⟨i, hi, decide_eq_true e⟩
            rw [this] at hu; cases hu
          have hinj' : inj6 (upc p s k) (s + 1) := by
            intro i i' hi hi' e
            by_cases q : i = s
            · by_cases q' : i' = s
              · omega
              · rw [q, upc_at, upc_ne q'] at e; exact absurd e.symm (hfree i' (by omega))
            · by_cases q' : i' = s
              · rw [q', upc_at, upc_ne q] at e; exact absurd e (hfree i (by omega))
              · rw [upc_ne q, upc_ne q'] at e; exact hinj i i' (by omega) (by omega) e
          have hag : ∀ d : Nat → Nat, ((∀ i, i < s → d i = p i) ∧ d s = k) ↔ ∀ i, i < s + 1 → d i = upc p s k i := by
            intro d
            constructor
            · rintro ⟨d1, d2⟩ i hi
              by_cases q : i = s
              · rw [q, upc_at]; exact d2
              · rw [upc_ne q]; exact d1 i (by omega)
            · intro h
              refine ⟨fun i hi => ?_, ?_⟩
              · have := h i (by omega)
                rwa [upc_ne (by omega)] at this
              · have := h s (by omega)
                rwa [upc_at] at this
          have hc57 : ∀ i, i < s + 1 → upc p s k i < 2 ^ nb n := by
            intro i hi
            by_cases q : i = s
            · rw [q, upc_at]; omega
            · rw [upc_ne q]; exact (hp i (by omega)).2
          simp only [f_X0_assign_11, nt_addl]
          apply ok_bind
          refine (inOrder_ok hn xx.1.1 (show s + 1 ≤ 6 from by omega) x57).imp ?_
          rintro ⟨v, o⟩ ⟨e, h⟩
          dsimp only at e h ⊢
          subst e
          rcases h with ⟨rfl, hf⟩ | ⟨rfl, b, hb0, hb, hf⟩
          · simp only [f_X0_assign_12, e10, if_false, f_X0_assign_13, nt_addl]
            apply ok_bind
            refine (canBe_ok (c := upc p s k) (k := s + 1) hn hm V xx xM hy (by omega) (fun i hi => ⟨x57 i hi, by have := hc57 i hi; omega⟩) hinj' (show l1 ≤ 1000 from by omega) x59).imp ?_
            rintro ⟨v, I3, J3⟩ ⟨rfl, a1, a2, a3⟩
            dsimp only at a1 a2 a3 ⊢
            have f3 : ∀ a j, ¬ bR y a j → I3 a j = I a j := fun a j h => (a2 a j (fun hz => h (Or.inl hz))).trans (xfr a j h)
            have z57 : ∀ i, I3 57 i = I2 57 i := fun i => a2 57 i (by unfold zReg; omega)
            have z59 : I3 59 y = nt l1 := (a2 59 y (by unfold zReg; omega)).trans x59
            have z58 : ∀ i, I3 58 i = I2 58 i := fun i => a2 58 i (by unfold zReg; omega)
            rcases a3 with rfl | ⟨rfl, hy1, hs1⟩
            · simp only [f_X0_assign_14, e10, if_false, f_X0_assign_15, nt_addl]
              apply ok_bind
              refine (ih (s + 1) l1 (upc p s k) _ I3 J3 (by omega) (by omega) (fun i hi => ⟨(z57 i).trans (x57 i hi), hc57 i hi⟩) hinj' ?_ hf ?_ z59 (by omega) (bCx_fr hx f3) a1).imp ?_
              · intro q hq
                rw [bt_or, hU q hq, nt_31 k (by omega), one_shl (by omega) hq, ex_s, upc_at]
                congr 1
                · apply ex_congr
                  intro i hi
                  rw [upc_ne (by omega)]
                · exact decide_eq_decide.mpr eq_comm
              · intro hy0 _
                by_cases q : s = 0
                · have : tpc n y s = 1 := by unfold tpc; rw [if_pos ⟨hy0, q⟩]
                  rw [q, upc_at]; omega
                · rw [upc_ne (by omega)]; exact h00 hy0 (by omega)
              · rintro ⟨_, I4, J4⟩ ⟨rfl, b1, b2, b3, b4⟩
                dsimp only at b1 b2 b3 b4 ⊢
                refine next I4 b1 (fun a j h => (b2 a j h).trans (f3 a j h)) (fun i hi => ?_) ?_
                · rw [b3 i (by omega), z57 i]; exact xpre i hi
                · exact PO_imp (PO_fr b4 (fun i hi => (z58 _).trans (x58 i hi))) (fun d _ => (hag d).symm)
            · simp only [f_X0_assign_14, if_true]
              refine next I3 a1 f3 (fun i hi => (z57 i).trans (xpre i hi)) (PO_nil z59 (fun i hi => (z58 _).trans (x58 i hi)) ?_)
              intro d hd hD
              have hD' := (hag d).mp hD
              have hwd : wor n m w y d = smT w d n m (nb n) := by unfold wor; rw [if_neg (by omega)]
              have h1 : smT w (upc p s k) (s + 1) m (nb n) = smT w d (s + 1) m (nb n) := smT_ext (fun i hi => (hD' i hi).symm)
              have h2 : smT w d (s + 1) m (nb n) ≤ smT w d n m (nb n) := smT_mono (by omega) hd.1.1
              omega
          · simp only [f_X0_assign_12, if_true]
            refine next I2 xM xfr xpre (PO_nil x59 x58 ?_)
            intro d hd hD
            exact absurd (FI_ext (show s + 1 ≤ n from hs) (fun i hi => ((hag d).mp hD i hi).symm) hf) (hd.2.1 b hb0 hb)
      · rintro st ⟨I1, rfl, g1, g2, g3, g4⟩
        simp (disch := omega) only [b_X0_assign_9, f_X0_assign_17, nt_clamp, nt_le, nt_lt, nt_eq, lit_le, lit_lt, le_lit, lt_lit, eq_lit, lit_eq, nt_neg, nt_ge, nt_add, nt_mul, nt_addl, lit_add, nt_mull, lit_mul, nt_sub, nt_subl, lit_sub, nt_divl, nt_m1, nt_m2, nt_m1', nt_m2', if_pos, Option.map_some]
        refine ok_some ⟨rfl, g1, g2, g3, PO_imp g4 ?_⟩
        intro d hd
        refine ⟨fun h => h.1, fun h => ⟨h, ?_⟩⟩
        unfold tpc
        by_cases q : y = 0 ∧ s = 0
        · rw [if_pos q, q.2, hd.2.2 q.1 (by omega)]; omega
        · rw [if_neg q]; exact hd.1.2 s hs
    · rw [if_neg hs]
      have es : s = n := by omega
      subst es
      have hprp : prp s p := ⟨hinj, fun i hi => (hp i hi).2⟩
      unfold f_X0_assign_1
      apply ok_bind
      refine (weigh_ok hn hm V hx hM hy (fun i hi => (hp i hi).1) hprp hl h59).imp ?_
      rintro ⟨_, I1, J1⟩ ⟨rfl, a1, a2, a3⟩
      dsimp only at a1 a2 a3 ⊢
      refine ok_some ⟨rfl, a1, fun a j h => a2 a j (Or.inl h), fun i _ => a2 57 i (Or.inr rfl), ?_⟩
      rcases a3 with ⟨q1, q2, q3⟩ | ⟨q1, q2, q3⟩
      · refine Or.inr ⟨_, p, q1, q2, fun i hi => (q3 i (by omega)).trans (hp i hi).1, ⟨hprp, hF, h00⟩, fun _ _ => rfl, rfl, ?_⟩
        intro d _ hd
        rw [wor_ext V hd]
        refine ⟨Nat.le_refl _, fun _ => ?_⟩
        rintro ⟨i, i1, i2, _⟩
        have := hd i i1
        omega
      · refine Or.inl ⟨q2, fun i hi => q3 i (by omega), ?_⟩
        intro d _ hd
        rw [wor_ext V hd]; exact q1
/-- the class's best, and that it is kept -/
def BM (n m : Nat) (w : aT) (y : Nat) (c58 c59 : Nat → Int32) : Prop := ∃ v c, BB n m w y v c ∧ c59 y = nt v ∧ ∀ i, i < n → c58 (6 * y + i) = nt (c i)
def caF (n m : Nat) (w : aT) (I : xI) : Prop := ∀ y, y < 2 → I 60 y = I 1 2 → BM n m w y (I 58) (I 59)
theorem crefB_ok {n m y : Nat} {w : aT} {I : xI} {J : xJ} (hn : n ≤ 6) (hm : m ≤ 4) (V : Vd n m w) (hy : y < 2) (hx : bCx n m w I) (hM : mK I) (hc : I 60 y = I 1 2 → BM n m w y (I 58) (I 59)) : Ok (f_X0_refresh (nt y) I J) (fun o => o.2.2 = J ∧ mK o.2.1 ∧ BM n m w y (o.2.1 58) (o.2.1 59) ∧ ∀ a j, ¬ bR y a j → ¬ (a = 60 ∧ j = y) → o.2.1 a j = I a j) := by
  simp (disch := omega) only [f_X0_refresh, f_X0_refresh_0, f_X0_refresh_1, nt_clamp, nt_le, nt_lt, nt_eq, lit_le, lit_lt, le_lit, lt_lit, eq_lit, lit_eq, nt_neg, nt_ge, nt_add, nt_mul, nt_addl, lit_add, nt_mull, lit_mul, nt_sub, nt_subl, lit_sub, nt_divl, nt_m1, nt_m2, nt_m1', nt_m2', false_or, if_neg]
  by_cases e : I 60 y = I 1 2
  · rw [if_pos e]
    exact ok_some ⟨rfl, hM, hc e, fun _ _ _ _ => rfl⟩
  · rw [if_neg e]
    apply ok_bind
    have xfr : ∀ a j, ¬ (a = 60 ∧ j = y) → ¬ (a = 59 ∧ j = y) → (xup (xup I 60 y (I 1 2)) 59 y 1000) a j = I a j := by
      intro a j h1 h2
      rw [xup_no _ _ _ _ h2, xup_no _ _ _ _ h1]
    have x59 : (xup (xup I 60 y (I 1 2)) 59 y 1000) 59 y = nt 1000 := xup_at _ _ _ _
    generalize xup (xup I 60 y (I 1 2)) 59 y 1000 = I2 at xfr x59 ⊢
    have xx : bCx n m w I2 := by
      refine ⟨cMa_fr hx.1 (fun c j h1 h2 => xfr c j (by omega) (by omega)), ?_, fun c hc => (xfr 52 c (by omega) (by omega)).trans (hx.2.2.1 c hc), fun c hc => (xfr 53 c (by omega) (by omega)).trans (hx.2.2.2 c hc)⟩
      rw [xfr 32 3 (by omega) (by omega), show I2 33 = I 33 from funext fun j => xfr 33 j (by omega) (by omega), show I2 34 = I 34 from funext fun j => xfr 34 j (by omega) (by omega)]
      exact hx.2.1
    have xM : mK I2 := by
      intro R O r1 r2 r3 r4
      rw [xfr 54 _ (by omega) (by omega)]; exact hM R O r1 r2 r3 r4
    refine (assign_ok (n := n) (m := m) (y := y) (w := w) hn hm V hy 12 0 1000 (fun _ => 0) 0 I2 J (by omega) (by omega) (fun i hi => absurd hi (by omega)) (fun i i' hi => absurd hi (by omega)) (fun k _ => bt_zero k) (fun b _ _ hf => by obtain ⟨s, hs, _⟩ := hf; omega) (fun _ h => absurd h (by omega)) x59 (by omega) xx xM).imp ?_
    rintro ⟨_, I3, J3⟩ ⟨rfl, b1, b2, b3, b4⟩
    dsimp only at b1 b2 b3 b4 ⊢
    refine ok_some ⟨rfl, b1, ?_, ?_⟩
    · rcases b4 with ⟨_, _, q⟩ | ⟨v, c, q1, q2, q3, q4, q5, q6, q7⟩
      · have := q (fun s => s) (vld_id hn) (fun i hi => absurd hi (by omega))
        have := wor_lt (n := n) (y := y) (w := w) (c := fun s => s) hm
        omega
      · exact ⟨v, c, BB_of hn V q4 q6 (fun d hd => q7 d hd (fun i hi => absurd hi (by omega))), q2, q3⟩
    · intro a j h1 h2
      refine (b2 a j h1).trans (xfr a j h2 (fun h3 => h1 ?_))
      unfold bR; omega
noncomputable def bestR (n m : Nat) (w : aT) (x z : Int32) : Int32 := if isS 2 x = true ∧ (z = -1 ∨ isS n z = true) then (if z = -1 then nt (bsp n m w x.toNatClampNeg).1 else nt ((bsp n m w x.toNatClampNeg).2 z.toNatClampNeg)) else -1
def bgReg (c j : Nat) : Prop := pReg c j ∨ zReg c j ∨ c = 49 ∨ c = 50 ∨ (57 ≤ c ∧ c ≤ 60)
theorem cbest6_ok {n m y : Nat} {w : aT} {I : xI} {J : xJ} (hn : n ≤ 6) (hm : m ≤ 4) (V : Vd n m w) (h : cMa n m w (I 1 0) (I 1 1) (I 2) (I 3) (I 4)) (hA : caA m w I) (hT : cT I) (hM : mK I) (hF : caF n m w I) (hy : y < 2) (z : Int32) (hz : z = -1 ∨ isS n z = true) : Ok (f_X11_best_6 (nt y) z I J) (fun o => o.2.2 = J ∧ o.1 = (if z = -1 then nt (bsp n m w y).1 else nt ((bsp n m w y).2 z.toNatClampNeg)) ∧ caA m w o.2.1 ∧ mK o.2.1 ∧ caF n m w o.2.1 ∧ ∀ c j, ¬ bgReg c j → o.2.1 c j = I c j) := by
  unfold f_X11_best_6
  apply ok_bind
  refine (refresh_ok hn hm V h hA).imp ?_
  rintro ⟨_, I1, J1⟩ ⟨rfl, a1, a2, a3⟩
  dsimp only at a1 a2 a3 ⊢
  have f1 : ∀ c j, ¬ (c = 33 ∨ c = 34 ∨ c = 32) → I1 c j = I c j := fun c j hh => a3 c j (by omega) (by omega) (by omega)
  have hx1 : bCx n m w I1 := ⟨cMa_fr h (fun c j h1 h2 => f1 c j (by omega)), a1, fun c hc => (f1 52 c (by omega)).trans (hT.1 c hc), fun c hc => (f1 53 c (by omega)).trans (hT.2 c hc)⟩
  have hM1 : mK I1 := by
    intro R O r1 r2 r3 r4
    rw [f1 54 _ (by omega)]; exact hM R O r1 r2 r3 r4
  have e58 : I1 58 = I 58 := funext fun j => f1 58 j (by omega)
  have e59 : I1 59 = I 59 := funext fun j => f1 59 j (by omega)
  have hF1 : caF n m w I1 := by
    intro y' hy' e
    rw [e58, e59]
    exact hF y' hy' (by rw [← f1 60 y' (by omega), ← f1 1 2 (by omega)]; exact e)
  unfold f_X11_best_7
  apply ok_bind
  refine (crefB_ok hn hm V hy hx1 hM1 (hF1 y hy)).imp ?_
  rintro ⟨_, I2, J2⟩ ⟨rfl, b1, b2, b3⟩
  dsimp only at b1 b2 b3 ⊢
  have f2 : ∀ c j, ¬ (c = 54 ∨ c = 55 ∨ c = 51 ∨ c = 49 ∨ c = 50 ∨ (57 ≤ c ∧ c ≤ 60)) → I2 c j = I1 c j := by
    intro c j hh
    apply b3 c j
    · unfold bR zReg; omega
    · omega
  have hfin : caA m w I2 ∧ mK I2 ∧ caF n m w I2 ∧ ∀ c j, ¬ bgReg c j → I2 c j = I c j := by
    refine ⟨?_, b1, ?_, ?_⟩
    · intro _
      rw [f2 32 3 (by omega), show I2 33 = I1 33 from funext fun j => f2 33 j (by omega), show I2 34 = I1 34 from funext fun j => f2 34 j (by omega)]
      exact a1
    · intro y' hy' e
      by_cases q : y' = y
      · rw [q]; exact b2
      · have t60 : I2 60 y' = I1 60 y' := b3 60 y' (by unfold bR zReg; omega) (by omega)
        obtain ⟨v, c, c1, c2, c3⟩ := hF1 y' hy' (by rw [← t60, ← f2 1 2 (by omega)]; exact e)
        refine ⟨v, c, c1, ?_, ?_⟩
        · rw [b3 59 y' (by unfold bR zReg; omega) (by omega)]; exact c2
        · intro i hi
          rw [b3 58 _ (by unfold bR zReg; omega) (by omega)]; exact c3 i hi
    · intro c j hg
      unfold bgReg at hg
      by_cases q : c = 33 ∨ c = 34 ∨ c = 32
      · have hp : ¬ pReg c j := fun hp => hg (Or.inl hp)
        unfold pReg at hp
        rw [f2 c j (by omega)]
        exact a3 c j (by omega) (by omega) (by omega)
      · rw [← f1 c j q]
        apply b3 c j
        · intro hb
          apply hg
          unfold bR at hb
          rcases hb with hb | hb | hb | hb | hb | hb
          · exact Or.inr (Or.inl hb)
          · exact Or.inr (Or.inr (Or.inl hb))
          · exact Or.inr (Or.inr (Or.inr (Or.inl hb)))
          · exact Or.inr (Or.inr (Or.inr (Or.inr (by omega))))
          · exact Or.inr (Or.inr (Or.inr (Or.inr (by omega))))
          · exact Or.inr (Or.inr (Or.inr (Or.inr (by omega))))
        · intro hb
          exact hg (Or.inr (Or.inr (Or.inr (Or.inr (by omega)))))
  obtain ⟨v, c, c1, c2, c3⟩ := b2
  have hbs := bsp_of c1
  simp only [f_X11_best_8]
  by_cases ez : z = -1
  · rw [if_pos ez, if_pos ez]
    simp (disch := omega) only [f_X11_best_9, f_X11_best_11, nt_clamp, nt_le, nt_lt, nt_eq, lit_le, lit_lt, le_lit, lt_lit, eq_lit, lit_eq, nt_neg, nt_ge, nt_add, nt_mul, nt_addl, lit_add, nt_mull, lit_mul, nt_sub, nt_subl, lit_sub, nt_divl, nt_m1, nt_m2, nt_m1', nt_m2', false_or, if_neg]
    exact ok_some ⟨rfl, by rw [← hbs.1]; exact c2, hfin⟩
  · rw [if_neg ez, if_neg ez]
    obtain ⟨s, hs, rfl⟩ := isS_ex (by omega) (hz.resolve_left ez)
    have e6 : nt y * 6 + nt s = nt (6 * y + s) := by rw [show (6 : Int32) = nt 6 from rfl, nt_mul, nt_add, Nat.mul_comm]
    simp (disch := omega) only [f_X11_best_10, f_X11_best_11, e6, nt_clamp, nt_le, nt_lt, nt_eq, lit_le, lit_lt, le_lit, lt_lit, eq_lit, lit_eq, nt_neg, nt_ge, nt_add, nt_mul, nt_addl, lit_add, nt_mull, lit_mul, nt_sub, nt_subl, lit_sub, nt_divl, nt_m1, nt_m2, nt_m1', nt_m2', false_or, if_neg]
    exact ok_some ⟨rfl, by show I2 58 (y * 6 + s) = _; rw [← hbs.2 s hs, ← c3 s hs, Nat.mul_comm 6 y], hfin⟩
theorem cbest_ok {n m : Nat} {w : aT} {I : xI} {J : xJ} (hn : n ≤ 6) (hm : m ≤ 4) (V : Vd n m w) (h : cMa n m w (I 1 0) (I 1 1) (I 2) (I 3) (I 4)) (hA : caA m w I) (hT : cT I) (hM : mK I) (hF : caF n m w I) (x z : Int32) : Ok (f_X11_best x z I J) (fun o => o.2.2 = J ∧ o.1 = bestR n m w x z ∧ caA m w o.2.1 ∧ mK o.2.1 ∧ caF n m w o.2.1 ∧ ∀ c j, ¬ bgReg c j → o.2.1 c j = I c j) := by
  have no : ¬ (isS 2 x = true ∧ (z = -1 ∨ isS n z = true)) → Ok (f_X11_best_5 x z I J) (fun o => o.2.2 = J ∧ o.1 = bestR n m w x z ∧ caA m w o.2.1 ∧ mK o.2.1 ∧ caF n m w o.2.1 ∧ ∀ c j, ¬ bgReg c j → o.2.1 c j = I c j) := by
    intro hh
    unfold bestR
    rw [if_neg hh]
    exact ok_some ⟨rfl, rfl, hA, hM, hF, fun _ _ _ => rfl⟩
  unfold f_X11_best f_X11_best_0
  rcases nt_all x with hx | ⟨k, hk, rfl⟩
  · rw [if_pos hx]
    exact no (by rw [isS_neg hx]; exact fun hh => absurd hh.1 (by decide))
  · simp (disch := omega) only [f_X11_best_1, nt_clamp, nt_le, nt_lt, nt_eq, lit_le, lit_lt, le_lit, lt_lit, eq_lit, lit_eq, nt_neg, nt_ge, nt_add, nt_mul, nt_addl, lit_add, nt_mull, lit_mul, nt_sub, nt_subl, lit_sub, nt_divl, nt_m1, nt_m2, nt_m1', nt_m2', if_neg]
    try rw [if_false]
    by_cases q : 1 < k
    · rw [if_pos q]
      exact no (by rw [isS_nt (by omega) hk, decide_eq_false (by omega)]; exact fun hh => absurd hh.1 (by decide))
    · rw [if_neg q]
      have hs2 : isS 2 (nt k) = true := by rw [isS_nt (by omega) hk, decide_eq_true (by omega)]
      have yes : z = -1 ∨ isS n z = true → Ok (f_X11_best_6 (nt k) z I J) (fun o => o.2.2 = J ∧ o.1 = bestR n m w (nt k) z ∧ caA m w o.2.1 ∧ mK o.2.1 ∧ caF n m w o.2.1 ∧ ∀ c j, ¬ bgReg c j → o.2.1 c j = I c j) := by
        intro hz
        have := cbest6_ok (J := J) hn hm V h hA hT hM hF (show k < 2 from by omega) z hz
        unfold bestR
        rw [if_pos ⟨hs2, hz⟩, nt_clamp hk]
        exact this
      unfold f_X11_best_2
      by_cases ez : z = -1
      · rw [if_pos ez]
        exact yes (Or.inl ez)
      · rw [if_neg ez]
        simp only [f_X11_best_3, hasState_ok h.1 (show n < 2147483648 from by omega), Option.bind_some, f_X11_best_4, bi_0]
        cases e2 : isS n z with
        | false =>
          rw [if_pos rfl]
          exact no (by rw [e2]; exact fun hh => hh.2.elim ez (fun h1 => absurd h1 (by decide)))
        | true =>
          rw [if_neg (by decide)]
          exact yes (Or.inr e2)
