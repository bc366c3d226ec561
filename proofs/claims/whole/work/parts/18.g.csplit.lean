/-! split of the class -/
theorem fl_pos {p : Nat → Bool} {K i a : Nat} (h : (fl p K)[i]? = some a) : (fl p a).length = i := by
  induction K with
  | zero => cases h
  | succ K ih =>
    cases e : p K with
    | false => rw [fl_f e] at h; exact ih h
    | true =>
      rw [fl_t e] at h
      by_cases c : i < (fl p K).length
      · rw [List.getElem?_append_left c] at h; exact ih h
      · rw [List.getElem?_append_right (by omega)] at h
        have hl : i - (fl p K).length = 0 := by
          rcases Nat.eq_zero_or_pos (i - (fl p K).length) with c2 | c2
          · exact c2
          · rw [List.getElem?_eq_none (by simp; omega)] at h; cases h
        rw [hl] at h
        simp at h
        rw [← h]; omega
theorem fl_mono2 {p : Nat → Bool} {a b : Nat} (h : a ≤ b) : (fl p a).length ≤ (fl p b).length := by
  induction b with
  | zero => have : a = 0 := by omega
            rw [this]; exact Nat.le_refl _
  | succ b ih =>
    by_cases c : a = b + 1
    · rw [c]; exact Nat.le_refl _
    · have := ih (by omega)
      cases e : p b with
      | false => rw [fl_f e]; omega
      | true => rw [fl_t e, List.length_append]; omega
/-- where one that goes on stands among them -/
def gps (n m : Nat) (w : aT) (p : Nat) : Nat := (fl (gii n m w) p).length
def inG (n m : Nat) (w : aT) (p : Nat) : Prop := p < (pts n).length ∧ gii n m w p = true
theorem gps_lt {n m p q : Nat} {w : aT} (hp : inG n m w p) : gps n m w p < gps n m w q ↔ p < q := by
  constructor
  · intro h
    rcases Nat.lt_or_ge p q with c | c
    · exact c
    · have := fl_mono2 (p := gii n m w) c
      unfold gps at h
      omega
  · intro h; exact fl_mono hp.2 h
theorem vs_in {n m p q : Nat} {w : aT} (h : vs n m w p q = true) : gii n m w p = true ∧ gii n m w q = true := by
  unfold vs at h
  rw [Bool.and_eq_true, Bool.and_eq_true] at h
  exact ⟨h.1, h.2.1⟩
def cSp (n m : Nat) (w : aT) (o : Option (Nat × Nat)) (v10 v11 v12 : Int32) : Prop := match o with
  | none => v10 = -2 ∧ v11 = -2 ∧ v12 = -2
  | some r => v10 = nt (pnum n r.1) ∧ v11 = nt (pnum n r.2) ∧ v12 = nt (ssm n r.1 r.2) ∧ ssm n r.1 r.2 ≤ 99
def caE (n m : Nat) (w : aT) (I : xI) : Prop := I 43 13 = I 1 2 → cSp n m w (spl n m w) (I 43 10) (I 43 11) (I 43 12)
theorem trySplit_ok {n m p q : Nat} {w : aT} {I : xI} {J : xJ} (hn : n ≤ 6) (hP : cPl n (pts n) I) {o : Option (Nat × Nat)} (hS : cSp n m w o (I 43 10) (I 43 11) (I 43 12)) (hp : inG n m w p) (hq : inG n m w q) : Ok (f_X7_trySplit (nt p) (nt q) I J) (fun r => r.2.2 = J ∧ cSp n m w (sps n m w o p q) (r.2.1 43 10) (r.2.1 43 11) (r.2.1 43 12) ∧ ∀ c j, ¬ (c = 43 ∧ (j = 10 ∨ j = 11 ∨ j = 12)) → r.2.1 c j = I c j) := by
  have hN := pts_len n (by omega)
  have hpp := cPl_at hP hp.1
  have hqq := cPl_at hP hq.1
  have hbp := pblk6 hn hp.1
  have hbq := pblk6 hn hq.1
  have h6 := hP.1
  have evs : vs n m w p q = (decide (pblk n p < n) && (decide (pblk n q < n) && aal n p q)) := by
    unfold vs
    rw [show go n m w p p = true from hp.2, show go n m w q q = true from hq.2]; rfl
  have skip : sps n m w o p q = o → Ok (some ((), I, J) : Option (Unit × xI × xJ)) (fun r => r.2.2 = J ∧ cSp n m w (sps n m w o p q) (r.2.1 43 10) (r.2.1 43 11) (r.2.1 43 12) ∧ ∀ c j, ¬ (c = 43 ∧ (j = 10 ∨ j = 11 ∨ j = 12)) → r.2.1 c j = I c j) := by
    intro hs
    rw [hs]
    exact ok_some ⟨rfl, hS, fun _ _ _ => rfl⟩
  have hp1 := hp.1
  have hq1 := hq.1
  simp (disch := omega) only [f_X7_trySplit, f_X7_trySplit_0, f_X7_trySplit_1, f_X7_trySplit_2, f_X7_trySplit_3, f_X7_trySplit_4, f_X7_trySplit_9, h6, hpp.2.1, hqq.2.1, nt_clamp, nt_le, nt_lt, nt_eq, lit_le, lit_lt, le_lit, lt_lit, eq_lit, lit_eq, nt_neg, nt_ge, nt_add, nt_mul, nt_addl, lit_add, nt_mull, lit_mul, nt_sub, nt_subl, lit_sub, nt_divl, nt_m1, nt_m2, nt_m1', nt_m2', false_or, if_neg, e10, if_false, if_true]
  by_cases c1 : n ≤ pblk n p
  · rw [if_pos c1]
    exact skip (by unfold sps; rw [evs, decide_eq_false (show ¬ pblk n p < n from by omega)]; rfl)
  · rw [if_neg c1]
    by_cases c2 : n ≤ pblk n q
    · rw [if_pos c2]
      exact skip (by unfold sps; rw [evs, decide_eq_true (show pblk n p < n from by omega), decide_eq_false (show ¬ pblk n q < n from by omega)]; rfl)
    · rw [if_neg c2]
      rw [decide_eq_true (show pblk n p < n from by omega), decide_eq_true (show pblk n q < n from by omega)] at evs
      simp (disch := omega) only [f_X7_trySplit_5, f_X7_trySplit_9, nt_clamp, nt_le, nt_lt, nt_eq, lit_le, lit_lt, le_lit, lt_lit, eq_lit, lit_eq, nt_neg, nt_ge, nt_add, nt_mul, nt_addl, lit_add, nt_mull, lit_mul, nt_sub, nt_subl, lit_sub, nt_divl, nt_m1, nt_m2, nt_m1', nt_m2', false_or, if_neg, hpp.2.2, hqq.2.2, jj_aal hn]
      cases ea : aal n p q with
      | false =>
        rw [if_neg (by decide)]
        exact skip (by unfold sps; rw [evs, ea]; rfl)
      | true =>
        rw [if_pos rfl]
        have take : sps n m w o p q = some (p, q) → Ok (f_X7_trySplit_8 (nt p) (nt q) (nt (pblk n p + pblk n q)) 1 I J) (fun r => r.2.2 = J ∧ cSp n m w (sps n m w o p q) (r.2.1 43 10) (r.2.1 43 11) (r.2.1 43 12) ∧ ∀ c j, ¬ (c = 43 ∧ (j = 10 ∨ j = 11 ∨ j = 12)) → r.2.1 c j = I c j) := by
          intro hs
          rw [hs]
          simp (disch := omega) only [f_X7_trySplit_8, f_X7_trySplit_9, nt_clamp, nt_le, nt_lt, nt_eq, lit_le, lit_lt, le_lit, lt_lit, eq_lit, lit_eq, nt_neg, nt_ge, nt_add, nt_mul, nt_addl, lit_add, nt_mull, lit_mul, nt_sub, nt_subl, lit_sub, nt_divl, nt_m1, nt_m2, nt_m1', nt_m2', false_or, if_neg, hpp.1, xup_bj, hqq.1]
          refine ok_some ?_
          dsimp only
          refine ⟨rfl, ⟨?_, ?_, ?_, ?_⟩, ?_⟩
          · simp (disch := omega) only [xup_j, xup_at]
          · simp (disch := omega) only [xup_j, xup_at]
          · rw [xup_at]; rfl
          · show pblk n p + pblk n q ≤ 99; omega
          · intro c j hc
            simp (disch := omega) only [xup_no]
        unfold f_X7_trySplit_6
        cases o with
        | none =>
          rw [if_pos hS.2.2]
          exact take (by unfold sps; rw [evs, ea]; rfl)
        | some r =>
          obtain ⟨s1, s2, s3, s4⟩ := hS
          rw [s3, if_neg (by rw [nt_m2 (by omega)]; exact id)]
          simp (disch := omega) only [f_X7_trySplit_7, f_X7_trySplit_9, s3, nt_clamp, nt_le, nt_lt, nt_eq, lit_le, lit_lt, le_lit, lt_lit, eq_lit, lit_eq, nt_neg, nt_ge, nt_add, nt_mul, nt_addl, lit_add, nt_mull, lit_mul, nt_sub, nt_subl, lit_sub, nt_divl, nt_m1, nt_m2, nt_m1', nt_m2']
          by_cases c3 : ssm n r.1 r.2 ≤ pblk n p + pblk n q
          · rw [if_pos c3]
            refine skip ?_
            unfold sps
            rw [evs, ea]
            dsimp only
            rw [if_pos (show ssm n r.1 r.2 ≤ ssm n p q from c3)]
            rfl
          · rw [if_neg c3]
            refine take ?_
            unfold sps
            rw [evs, ea]
            dsimp only
            rw [if_neg (show ¬ ssm n r.1 r.2 ≤ ssm n p q from c3)]
            rfl
theorem refrSplit_ok {n m : Nat} {w : aT} {I : xI} {J : xJ} (hn : n ≤ 6) (hP : cPl n (pts n) I) (hG : cGo n m w (I 43 8) (I 47)) (hE : caE n m w I) : Ok (f_X7_refreshSplit I J) (fun o => o.2.2 = J ∧ cSp n m w (spl n m w) (o.2.1 43 10) (o.2.1 43 11) (o.2.1 43 12) ∧ ∀ c j, ¬ (c = 43 ∧ (j = 10 ∨ j = 11 ∨ j = 12 ∨ j = 13)) → o.2.1 c j = I c j) := by
  have hN := pts_len n (by omega)
  have hgl : (gol n m w).length ≤ (pts n).length := fl_le
  unfold f_X7_refreshSplit f_X7_refreshSplit_0
  by_cases hs : I 43 13 = I 1 2
  · rw [if_pos hs]
    exact ok_some ⟨rfl, hE hs, fun _ _ _ => rfl⟩
  · rw [if_neg hs]
    have cp : ∀ I' : xI, (∀ c j, ¬ (c = 43 ∧ (j = 10 ∨ j = 11 ∨ j = 12 ∨ j = 13)) → I' c j = I c j) → cPl n (pts n) I' ∧ I' 43 8 = nt (gol n m w).length ∧ Ls (gol n m w) (I' 47) := by
      intro I' hf
      obtain ⟨h6, h5, hl⟩ := hP
      have e47 : I' 47 = I 47 := funext fun j => hf 47 j (by omega)
      refine ⟨⟨(hf 43 6 (by omega)).trans h6, (hf 43 5 (by omega)).trans h5, ?_⟩, (hf 43 8 (by omega)).trans hG.1, by rw [e47]; exact hG.2⟩
      intro i q hq
      rw [hf 44 i (by omega), hf 45 i (by omega), hf 46 i (by omega)]
      exact hl i q hq
    have gat : ∀ i, i < (gol n m w).length → ∃ a, (gol n m w)[i]? = some a ∧ inG n m w a ∧ gps n m w a = i := by
      intro i hi
      have e : (gol n m w)[i]? = some (gol n m w)[i] := List.getElem?_eq_getElem hi
      have hm2 : (gol n m w)[i] ∈ gol n m w := List.getElem_mem hi
      exact ⟨_, e, fl_mem.mp hm2, fl_pos e⟩
    unfold f_X7_refreshSplit_2 f_X7_refreshSplit_3
    refine ok_loop (fun i r => ∃ z I' o, r = (nt i, z, I', J) ∧ cSp n m w o (I' 43 10) (I' 43 11) (I' 43 12) ∧ Bst n m w (fun p q => inG n m w p ∧ inG n m w q ∧ p < q ∧ gps n m w p < i) o ∧ ∀ c j, ¬ (c = 43 ∧ (j = 10 ∨ j = 11 ∨ j = 12 ∨ j = 13)) → I' c j = I c j) (gol n m w).length ?_ ?_ 5000 0 _ (by omega) (by omega) ⟨none, _, none, rfl, ⟨?_, ?_, ?_⟩, fun p q hpq => absurd hpq.2.2.2 (by omega), ?_⟩
    · rintro i hi r ⟨z, I', o, rfl, g1, g2, g3⟩
      have h8 := (cp I' g3).2.1
      obtain ⟨a, ea, ha, hpa⟩ := gat i hi
      simp (disch := omega) only [b_X7_refreshSplit_3, f_X7_refreshSplit_4, h8, nt_clamp, nt_le, nt_lt, nt_eq, lit_le, lit_lt, le_lit, lt_lit, eq_lit, lit_eq, nt_neg, nt_ge, nt_add, nt_mul, nt_addl, lit_add, nt_mull, lit_mul, nt_sub, nt_subl, lit_sub, nt_divl, nt_m1, nt_m2, nt_m1', nt_m2', if_true, if_false, if_pos, if_neg, e01, e10, em12, em21, e0m1, e0m2, e1m1, e1m2, em10, em20, Int32.reduceLT, Int32.reduceLE, eq_self, Option.bind_some, Option.map_some, false_or, or_false, or_self, true_or, or_true, not_true_eq_false, not_false_eq_true, false_and, and_false, true_and, and_true]
      unfold f_X7_refreshSplit_5
      refine ok_loop (fun k r => i < k ∧ ∃ I' o, r = (nt i, nt k, I', J) ∧ cSp n m w o (I' 43 10) (I' 43 11) (I' 43 12) ∧ Bst n m w (fun p q => inG n m w p ∧ inG n m w q ∧ p < q ∧ (gps n m w p < i ∨ (gps n m w p = i ∧ gps n m w q < k))) o ∧ ∀ c j, ¬ (c = 43 ∧ (j = 10 ∨ j = 11 ∨ j = 12 ∨ j = 13)) → I' c j = I c j) (gol n m w).length ?_ ?_ 5000 (i + 1) _ (by omega) (by omega) ⟨by omega, I', o, rfl, g1, Bst_congr g2 ?_, g3⟩
      · rintro k hk r ⟨hik, I', o, rfl, b1, b2, b3⟩
        obtain ⟨hP', h8', h47'⟩ := cp I' b3
        obtain ⟨b, eb, hb, hpb⟩ := gat k hk
        have e1 := h47' i a ea
        have e2 := h47' k b eb
        have ha1 := ha.1
        have hb1 := hb.1
        have hab : a < b := (gps_lt ha).mp (by omega)
        simp (disch := omega) only [b_X7_refreshSplit_5, f_X7_refreshSplit_6, h8', nt_clamp, nt_le, nt_lt, nt_eq, lit_le, lit_lt, le_lit, lt_lit, eq_lit, lit_eq, nt_neg, nt_ge, nt_add, nt_mul, nt_addl, lit_add, nt_mull, lit_mul, nt_sub, nt_subl, lit_sub, nt_divl, nt_m1, nt_m2, nt_m1', nt_m2', false_or, if_neg, e1, e2]
        apply ok_bind
        refine (trySplit_ok hn hP' b1 ha hb).imp ?_
        rintro ⟨_, I2, J2⟩ ⟨rfl, c1, c2⟩
        dsimp only at c1 c2 ⊢
        simp only [f_X7_refreshSplit_7, nt_addl]
        refine ok_some ⟨by omega, I2, _, rfl, c1, Bst_step b2 ?_ ?_, fun c j hc => (c2 c j (by omega)).trans (b3 c j hc)⟩
        · rintro p q ⟨hp, hq, hpq, hh⟩
          rcases hh with hh | ⟨hh, hh2⟩
          · left; exact (gps_lt hp).mp (by omega)
          · right
            have hpa2 : p = a := by
              rcases Nat.lt_trichotomy p a with c | c | c
              · have := (gps_lt (q := a) hp).mpr c; omega
              · exact c
              · have := (gps_lt (q := p) ha).mpr c; omega
            exact ⟨hpa2, (gps_lt hq).mp (by omega)⟩
        · intro p q
          constructor
          · rintro ⟨hp, hq, hpq, hh⟩
            rcases hh with hh | ⟨hh, hh2⟩
            · exact Or.inl ⟨hp, hq, hpq, Or.inl hh⟩
            · by_cases c : gps n m w q < k
              · exact Or.inl ⟨hp, hq, hpq, Or.inr ⟨hh, c⟩⟩
              · right
                refine ⟨?_, ?_⟩
                · rcases Nat.lt_trichotomy p a with c | c | c
                  · have := (gps_lt (q := a) hp).mpr c; omega
                  · exact c
                  · have := (gps_lt (q := p) ha).mpr c; omega
                · rcases Nat.lt_trichotomy q b with c | c | c
                  · have := (gps_lt (q := b) hq).mpr c; omega
                  · exact c
                  · have := (gps_lt (q := q) hb).mpr c; omega
          · rintro (⟨hp, hq, hpq, hh⟩ | ⟨rfl, rfl⟩)
            · exact ⟨hp, hq, hpq, by omega⟩
            · exact ⟨ha, hb, hab, Or.inr ⟨hpa, by omega⟩⟩
      · rintro r ⟨hik, I', o, rfl, b1, b2, b3⟩
        have h8' := (cp I' b3).2.1
        simp (disch := omega) only [b_X7_refreshSplit_5, f_X7_refreshSplit_8, h8', nt_clamp, nt_le, nt_lt, nt_eq, lit_le, lit_lt, le_lit, lt_lit, eq_lit, lit_eq, nt_neg, nt_ge, nt_add, nt_mul, nt_addl, lit_add, nt_mull, lit_mul, nt_sub, nt_subl, lit_sub, nt_divl, nt_m1, nt_m2, nt_m1', nt_m2', if_true, if_false, if_pos, if_neg, e01, e10, em12, em21, e0m1, e0m2, e1m1, e1m2, em10, em20, Int32.reduceLT, Int32.reduceLE, eq_self, Option.bind_some, Option.map_some, false_or, or_false, or_self, true_or, or_true, not_true_eq_false, not_false_eq_true, false_and, and_false, true_and, and_true]
        refine ok_some ⟨_, I', o, rfl, b1, Bst_congr b2 ?_, b3⟩
        intro p q hv
        constructor
        · rintro ⟨hp, hq, hpq, hh⟩
          refine ⟨hp, hq, hpq, ?_⟩
          have hql : gps n m w q < (gol n m w).length := fl_mono hq.2 hq.1
          omega
        · rintro ⟨hp, hq, hpq, hh⟩
          exact ⟨hp, hq, hpq, by omega⟩
      · intro p q hv
        constructor
        · rintro ⟨hp, hq, hpq, hh⟩
          refine ⟨hp, hq, hpq, ?_⟩
          have := (gps_lt (q := q) hp).mpr hpq
          omega
        · rintro ⟨hp, hq, hpq, hh⟩
          exact ⟨hp, hq, hpq, Or.inl hh⟩
    · rintro r ⟨z, I', o, rfl, g1, g2, g3⟩
      have h8 := (cp I' g3).2.1
      simp (disch := omega) only [b_X7_refreshSplit_3, f_X7_refreshSplit_9, h8, nt_clamp, nt_le, nt_lt, nt_eq, lit_le, lit_lt, le_lit, lt_lit, eq_lit, lit_eq, nt_neg, nt_ge, nt_add, nt_mul, nt_addl, lit_add, nt_mull, lit_mul, nt_sub, nt_subl, lit_sub, nt_divl, nt_m1, nt_m2, nt_m1', nt_m2', if_true, if_false, if_pos, if_neg, e01, e10, em12, em21, e0m1, e0m2, e1m1, e1m2, em10, em20, Int32.reduceLT, Int32.reduceLE, eq_self, Option.bind_some, Option.map_some, false_or, or_false, or_self, true_or, or_true, not_true_eq_false, not_false_eq_true, false_and, and_false, true_and, and_true]
      have hB : Bst n m w (fun p q => p < q ∧ q < (pts n).length) o := by
        refine Bst_congr g2 ?_
        intro p q hv
        have hvi := vs_in hv
        constructor
        · intro hpq
          have hp : inG n m w p := ⟨by omega, hvi.1⟩
          exact ⟨hp, ⟨hpq.2, hvi.2⟩, hpq.1, fl_mono hp.2 hp.1⟩
        · rintro ⟨hp, hq, hpq, _⟩
          exact ⟨hpq, hq.1⟩
      rw [spl_eq hB] at g1
      exact ok_some ⟨rfl, g1, g3⟩
    · simp (disch := omega) only [xup_j, xup_at]
    · simp (disch := omega) only [xup_j, xup_at]
    · rw [xup_at]
    · intro c j hc
      simp (disch := omega) only [xup_no]
theorem cspl_ok {n m : Nat} {w : aT} {I : xI} {J : xJ} (hn : n ≤ 6) (hm : m ≤ 4) (V : Vd n m w) (h : cMa n m w (I 1 0) (I 1 1) (I 2) (I 3) (I 4)) (hA : caA m w I) (hD : caD n m w I) (hE : caE n m w I) (z : Int32) : Ok (f_X11_split z I J) (fun o => o.2.2 = J ∧ o.1 = spR n m w z ∧ caA m w o.2.1 ∧ caD n m w o.2.1 ∧ caE n m w o.2.1 ∧ ∀ c j, ¬ tReg c j → ¬ (c = 43 ∧ (j = 10 ∨ j = 11 ∨ j = 12 ∨ j = 13)) → o.2.1 c j = I c j) := by
  unfold f_X11_split f_X11_split_0 spR
  rcases nt_all z with hz | ⟨t, ht, rfl⟩
  · rw [if_pos hz, isS_neg hz]
    exact ok_some ⟨rfl, rfl, hA, hD, hE, fun _ _ _ _ => rfl⟩
  · rw [isS_nt (by omega) ht]
    simp (disch := omega) only [f_X11_split_1, nt_clamp, nt_le, nt_lt, nt_eq, lit_le, lit_lt, le_lit, lt_lit, eq_lit, lit_eq, nt_neg, nt_ge, nt_add, nt_mul, nt_addl, lit_add, nt_mull, lit_mul, nt_sub, nt_subl, lit_sub, nt_divl, nt_m1, nt_m2, nt_m1', nt_m2', if_neg]
    by_cases ht2 : t ≤ 2
    · rw [if_pos ht2, decide_eq_true (by omega)]
      unfold f_X11_split_3
      apply ok_bind
      refine (partsNow_ok hn hm V h hA hD).imp ?_
      rintro ⟨_, I1, J1⟩ ⟨rfl, cA, cD, a1, a2, a3, a4⟩
      dsimp only at cA cD a1 a2 a3 a4 ⊢
      have hE1 : caE n m w I1 := by
        intro hs
        rw [a4 43 13 (by unfold tReg pReg; omega), a4 1 2 (by unfold tReg pReg; omega)] at hs
        rw [a4 43 10 (by unfold tReg pReg; omega), a4 43 11 (by unfold tReg pReg; omega), a4 43 12 (by unfold tReg pReg; omega)]
        exact hE hs
      unfold f_X11_split_4
      apply ok_bind
      refine (refrSplit_ok hn a2 a3 hE1).imp ?_
      rintro ⟨_, I2, J2⟩ ⟨rfl, b1, b2⟩
      dsimp only at b1 b2 ⊢
      have cA2 : caA m w I2 := by
        intro hs
        have f33 : I2 33 = I1 33 := funext fun j => b2 33 j (by omega)
        have f34 : I2 34 = I1 34 := funext fun j => b2 34 j (by omega)
        rw [f33, f34, b2 32 3 (by omega)]; exact a1
      have cD2 : caD n m w I2 := by
        obtain ⟨h6, h5, hl⟩ := a2
        have e47 : I2 47 = I1 47 := funext fun j => b2 47 j (by omega)
        refine ⟨n, hn, ⟨(b2 43 6 (by omega)).trans h6, (b2 43 5 (by omega)).trans h5, ?_⟩, fun _ => ⟨rfl, ?_⟩⟩
        · intro i q hq
          rw [b2 44 i (by omega), b2 45 i (by omega), b2 46 i (by omega)]
          exact hl i q hq
        · rw [e47, b2 43 8 (by omega)]; exact a3
      have fr : ∀ c j, ¬ tReg c j → ¬ (c = 43 ∧ (j = 10 ∨ j = 11 ∨ j = 12 ∨ j = 13)) → I2 c j = I c j := fun c j h1 h2 => (b2 c j h2).trans (a4 c j h1)
      have hE2 : caE n m w I2 := fun _ => b1
      simp (disch := omega) only [f_X11_split_5, f_X11_split_6, f_X11_split_7, f_X11_split_8, f_X11_split_9, nt_clamp, nt_le, nt_lt, nt_eq, lit_le, lit_lt, le_lit, lt_lit, eq_lit, lit_eq, nt_neg, nt_ge, nt_add, nt_mul, nt_addl, lit_add, nt_mull, lit_mul, nt_sub, nt_subl, lit_sub, nt_divl, nt_m1, nt_m2, nt_m1', nt_m2', if_true]
      have ht3 : t = 0 ∨ t = 1 ∨ t = 2 := by omega
      cases es : spl n m w with
      | none =>
        rw [es] at b1
        obtain ⟨c1, c2, c3⟩ := b1
        rcases ht3 with rfl | rfl | rfl
        · exact ok_some ⟨rfl, c1, cA2, cD2, hE2, fr⟩
        · exact ok_some ⟨rfl, c2, cA2, cD2, hE2, fr⟩
        · exact ok_some ⟨rfl, c3, cA2, cD2, hE2, fr⟩
      | some r =>
        rw [es] at b1
        obtain ⟨c1, c2, c3, c4⟩ := b1
        rcases ht3 with rfl | rfl | rfl
        · exact ok_some ⟨rfl, c1, cA2, cD2, hE2, fr⟩
        · exact ok_some ⟨rfl, c2, cA2, cD2, hE2, fr⟩
        · exact ok_some ⟨rfl, c3, cA2, cD2, hE2, fr⟩
    · rw [if_neg ht2, decide_eq_false (by omega)]
      exact ok_some ⟨rfl, rfl, hA, hD, hE, fun _ _ _ _ => rfl⟩
