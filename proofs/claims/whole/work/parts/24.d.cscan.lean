/-! the scan of the class -/
theorem cfail_ok {I : xI} {J : xJ} (h5 : I 26 5 = 0) {a : Nat} (ha : a ≤ 2) (x : Int32) : ∃ I2, f_X10_fail (nt a) x I J = some ((), I2, J) ∧ I2 26 5 = nt a ∧ (¬ a = 0 → I2 26 6 = x) ∧ (a = 0 → I2 26 6 = I 26 6) ∧ ∀ c j, ¬ (c = 26 ∧ (j = 5 ∨ j = 6)) → I2 c j = I c j := by
  by_cases c : a = 0
  · subst c
    exact ⟨I, cfail_0 x, h5, fun h => absurd rfl h, fun _ => rfl, fun _ _ _ => rfl⟩
  · have hn : ¬ nt a = 0 := by rw [show (0 : Int32) = nt 0 from rfl, nt_eq (by omega) (by omega)]; exact c
    refine ⟨_, cfail_a h5 hn x, ?_, ?_, fun h => absurd h c, ?_⟩
    · simp (disch := omega) only [xup_j, xup_at]
    · intro _; exact xup_at _ _ _ _
    · intro c' j hc
      by_cases c26 : c' = 26
      · rw [c26]; simp (disch := omega) only [xup_j]
      · simp (disch := omega) only [xup_bj]
theorem TK_fr {tb : Nat → Nat} {k : Nat} {I I' : xI} (h : TK tb k I) (hf : ∀ c j, ((27 ≤ c ∧ c ≤ 29) ∨ (c = 26 ∧ j = 4)) → I' c j = I c j) : TK tb k I' := by
  refine ⟨(hf 26 4 (by omega)).trans h.1, ?_⟩
  intro j hj
  rw [hf 27 j (by omega), hf 28 j (by omega), hf 29 j (by omega)]
  exact h.2 j hj
theorem begin_ok {I : xI} {J : xJ} {ns k : Nat} (h7 : I 26 7 = nt ns) (hns : ns ≤ 6) (hk : k < 9) : f_X10_beginning (nt k) I J = some (nt (if (shp k).length = 0 then 1 else if k = 4 ∧ 6 ≤ ns then 2 else 0), (if (shp k).length = 0 then I else xup I 26 7 (nt (ns + if k = 4 then 1 else 0))), J) := by
  obtain ⟨hz, hl, h6, hc⟩ := wsh_ok k hk
  have hz2 : (¬ zok (wsh k)) = False := eq_false (fun h => h hz)
  simp only [f_X10_beginning, f_X10_beginning_0, shapeOf_ok k hk, Option.bind_some, f_X10_beginning_1, hz2, if_false, hl, f_X10_beginning_2]
  by_cases c : (shp k).length = 0
  · rw [if_pos c, if_pos c, if_pos c, if_neg (by decide)]; rfl
  rw [if_neg c, if_neg c, if_neg c, if_pos rfl]
  simp (disch := omega) only [f_X10_beginning_4, f_X10_beginning_5, f_X10_beginning_6, f_X10_beginning_7, nt_clamp, nt_le, nt_lt, nt_eq, lit_le, lit_lt, le_lit, lt_lit, eq_lit, lit_eq, nt_neg, nt_ge, nt_add, nt_mul, nt_addl, lit_add, nt_mull, lit_mul, nt_sub, nt_subl, lit_sub, nt_divl, nt_m1, nt_m2, nt_m1', nt_m2', xup_at, h7]
  by_cases c4 : k = 4
  · rw [if_pos c4, if_pos c4]
    by_cases c6 : 6 ≤ ns
    · rw [if_neg (by omega), if_pos ⟨c4, c6⟩]; rfl
    · rw [if_pos (by omega), if_neg (fun h => c6 h.2)]; rfl
  · rw [if_neg c4, if_neg c4, if_pos (show ns + 0 ≤ 6 from by omega), if_neg (show ¬ (k = 4 ∧ 6 ≤ ns) from fun h => c4 h.1)]; rfl
theorem shp_lt : ∀ k, k < 9 → ∀ j, j < 6 → (shp k).getD j 0 < 128 := by decide
theorem ns6 {tb : Nat → Nat} : ∀ k, (∀ j, j < k → flt tb j = 0) → (aq tb k).2.2 ≤ 6 := by
  intro k
  induction k with
  | zero => intro _; exact Nat.zero_le _
  | succ k ih =>
    intro h
    have h1 := ih (fun j hj => h j (by omega))
    have h2 := h k (by omega)
    have h3 : nf (aq tb k) (kd tb (st tb k)) = 0 := by
      unfold flt at h2
      split at h2
      · assumption
      · exact h2
    show (nq (aq tb k) (kd tb (st tb k))).2.2 ≤ 6
    unfold nf at h3
    unfold nq
    split
    · exact h1
    · rename_i hd
      rw [if_neg hd] at h3
      show (aq tb k).2.2 + (if kd tb (st tb k) = 4 then 1 else 0) ≤ 6
      by_cases c4 : kd tb (st tb k) = 4
      · rw [if_pos c4]
        by_cases c6 : 6 ≤ (aq tb k).2.2
        · rw [if_pos (show kd tb (st tb k) = 4 ∧ 6 ≤ (aq tb k).2.2 from ⟨c4, c6⟩)] at h3
          split at h3 <;> omega
        · omega
      · rw [if_neg c4]; omega
/-- the state of the scan before token k -/
def Sc (l : Nat) (tb : Nat → Nat) (I0 : xI) (J : xJ) (k : Nat) (s : Nat × Int32 × Int32 × Int32 × Option Value × Option Value × xI × xJ) : Prop := ∃ z5 z6 I, s = (wsh (aq tb k).1, nt (aq tb k).2.1, nt (st tb k), nt k, z5, z6, I, J) ∧ I 26 5 = 0 ∧ I 26 6 = -1 ∧ I 26 7 = nt (aq tb k).2.2 ∧ TK tb k I ∧ ∀ c j, ¬ sReg c j → I c j = I0 c j
/-- behind a fault -/
def Sfx (l : Nat) (tb : Nat → Nat) (I0 : xI) (J : xJ) (k a : Nat) (s : Nat × Int32 × Int32 × Int32 × Option Value × Option Value × xI × xJ) : Prop := ∃ w x x3 x4 z5 z6 I, s = (w, nt x, x3, x4, z5, z6, I, J) ∧ zok w ∧ I 26 5 = nt a ∧ I 26 6 = nt (st tb k) ∧ ∀ c j, ¬ sReg c j → I c j = I0 c j
theorem Sd_go {l : Nat} {tb : Nat → Nat} {I0 I I' : xI} {J : xJ} {k w x : Nat} {Q : Unit × xI × xJ → Prop} {o : (Nat × Int32 × Int32 × Int32 × Option Value × Option Value × xI × xJ) ⊕ (Unit × xI × xJ)} (h : Sd l tb k (flt tb k) I I' J w x o) (hz : zok w) (h6 : I 26 6 = -1) (hw : w = wsh (aq tb (k + 1)).1) (hx : x = (aq tb (k + 1)).2.1) (h7 : flt tb k = 0 → I' 26 7 = nt (aq tb (k + 1)).2.2) (hf : ∀ c j, ¬ sReg c j → I c j = I0 c j) : Sum.elim (fun s => (flt tb k = 0 ∧ Sc l tb I0 J (k + 1) s) ∨ (¬ flt tb k = 0 ∧ Sfx l tb I0 J k (flt tb k) s)) Q o := by
  obtain ⟨z5, z6, I3, rfl, a1, a2, a3, a4⟩ := h
  by_cases c : flt tb k = 0
  · refine Or.inl ⟨c, z5, z6, I3, by rw [hw, hx], by rw [a1, c]; rfl, by rw [(a3 c).1, h6], by rw [(a3 c).2.2, h7 c], (a3 c).2.1, fun c j hc => (a4 c j hc).trans (hf c j hc)⟩
  · exact Or.inr ⟨c, w, x, _, _, z5, z6, I3, rfl, hz, a1, a2 c, fun c j hc => (a4 c j hc).trans (hf c j hc)⟩
theorem scan_step {l : Nat} {tb : Nat → Nat} {I0 : xI} {J : xJ} (h : Tp l tb I0) {k : Nat} (hk : k ≤ 400) (hs : st tb k < l) (hns : (aq tb k).2.2 ≤ 6) {s : Nat × Int32 × Int32 × Int32 × Option Value × Option Value × xI × xJ} (hS : Sc l tb I0 J k s) {Q : Unit × xI × xJ → Prop} : Ok (b_X10_scan_2 s.1 s.2.1 s.2.2.1 s.2.2.2.1 s.2.2.2.2.1 s.2.2.2.2.2.1 s.2.2.2.2.2.2.1 s.2.2.2.2.2.2.2) (Sum.elim (fun s => (flt tb k = 0 ∧ Sc l tb I0 J (k + 1) s) ∨ (¬ flt tb k = 0 ∧ Sfx l tb I0 J k (flt tb k) s)) Q) := by
  obtain ⟨z5, z6, I, rfl, h5, h6, h7, hT, hf⟩ := hS
  have hl := h.1.1
  have hTp : Tp l tb I := Tp_fr h (fun c j hc => hf c j (by unfold sReg; omega))
  have t1 := te_gt tb (st tb k)
  have t2 := te_le h.1 hs
  have hkd := kd_lt tb (st tb k)
  obtain ⟨qc, qd, _⟩ := aq_c tb k
  obtain ⟨wz, wl, w6, wc⟩ := wsh_ok (aq tb k).1 qc
  have hz2 : (¬ zok (wsh (aq tb k).1)) = False := eq_false (fun h => h wz)
  have eaq : aq tb (k + 1) = nq (aq tb k) (kd tb (st tb k)) := rfl
  dsimp only
  simp (disch := omega) only [b_X10_scan_2, f_X10_scan_3, f_X10_scan_4, hTp.2.1, h5, nt_clamp, nt_le, nt_lt, nt_eq, lit_le, lit_lt, le_lit, lt_lit, eq_lit, lit_eq, nt_neg, nt_ge, nt_add, nt_mul, nt_addl, lit_add, nt_mull, lit_mul, nt_sub, nt_subl, lit_sub, nt_divl, nt_m1, nt_m2, nt_m1', nt_m2', if_neg, if_true, f_X10_scan_5, endRun_ok hTp hs, Option.bind_some, f_X10_scan_6, kindOf_ok hTp hs, f_X10_scan_7, hz2, if_false, wl]
  rw [show Int32.ofNat (shp (aq tb k).1).length = nt (shp (aq tb k).1).length from rfl]
  unfold f_X10_scan_8
  by_cases c : (aq tb k).2.1 < (shp (aq tb k).1).length
  · rw [if_neg (by rw [nt_le (by omega) (by omega)]; omega)]
    have hd := shp_lt (aq tb k).1 qc (aq tb k).2.1 (by omega)
    simp (disch := omega) only [f_X10_scan_9, hz2, if_false, nt_clamp, nt_le, nt_lt, nt_eq, lit_le, lit_lt, le_lit, lt_lit, eq_lit, lit_eq, nt_neg, nt_ge, nt_add, nt_mul, nt_addl, lit_add, nt_mull, lit_mul, nt_sub, nt_subl, lit_sub, nt_divl, nt_m1, nt_m2, nt_m1', nt_m2', false_or, wl, if_neg, wc (aq tb k).2.1 c, f_X10_scan_10, fits_ok hd hkd, Option.bind_some, f_X10_scan_11, bi_0]
    have enf : nf (aq tb k) (kd tb (st tb k)) = if fitb ((shp (aq tb k).1).getD (aq tb k).2.1 0) (kd tb (st tb k)) = true then 0 else 1 := if_pos c
    have enq : aq tb (k + 1) = ((aq tb k).1, (aq tb k).2.1 + 1, (aq tb k).2.2) := by rw [eaq]; exact if_pos c
    have key : ∀ a, a ≤ 2 → nf (aq tb k) (kd tb (st tb k)) = a → Ok (f_X10_scan_14 (wsh (aq tb k).1) (nt (aq tb k).2.1) (nt (st tb k)) (nt k) (nt (te tb (st tb k))) (nt (kd tb (st tb k))) (nt a) I J) (Sum.elim (fun s => (flt tb k = 0 ∧ Sc l tb I0 J (k + 1) s) ∨ (¬ flt tb k = 0 ∧ Sfx l tb I0 J k (flt tb k) s)) Q) := by
      intro a ha hna
      obtain ⟨I2, e2, b5, b6, b60, bf⟩ := cfail_ok (J := J) h5 ha (nt (st tb k))
      simp only [f_X10_scan_14, e2, Option.bind_some, f_X10_scan_15, nt_addl]
      have e7 : I2 26 7 = nt (aq tb k).2.2 := (bf 26 7 (by omega)).trans h7
      have hT2 : TK tb k I2 := TK_fr hT (fun c j hc => bf c j (by omega))
      have hTp2 : Tp l tb I2 := Tp_fr hTp (fun c j hc => bf c j (by omega))
      refine (scan20_ok (I := I) hTp2 (w := wsh (aq tb k).1) (x := (aq tb k).2.1 + 1) (J := J) hk hs hT2 ha b5 b6 (fun h => by rw [b60 h]) (fun c j hc => bf c j (by unfold sReg at hc; omega))).imp ?_
      intro o ho
      have efl : (if a = 0 then (if 400 ≤ k then 2 else 0) else a) = flt tb k := by rw [← hna]; rfl
      rw [efl] at ho
      exact Sd_go ho wz h6 (by rw [enq]) (by rw [enq]) (fun _ => by rw [e7, enq]) hf
    cases ef : fitb ((shp (aq tb k).1).getD (aq tb k).2.1 0) (kd tb (st tb k)) with
    | true =>
      rw [if_neg (by decide)]
      exact key 0 (by omega) (by rw [enf, ef]; rfl)
    | false =>
      rw [if_pos rfl]
      exact key 1 (by omega) (by rw [enf, ef]; rfl)
  · rw [if_pos (by rw [nt_le (by omega) (by omega)]; omega)]
    have enf : nf (aq tb k) (kd tb (st tb k)) = if (shp (kd tb (st tb k))).length = 0 then 1 else if kd tb (st tb k) = 4 ∧ 6 ≤ (aq tb k).2.2 then 2 else 0 := if_neg c
    have enq : aq tb (k + 1) = (kd tb (st tb k), 0, (aq tb k).2.2 + (if kd tb (st tb k) = 4 then 1 else 0)) := by rw [eaq]; exact if_neg c
    obtain ⟨wz', _, _, _⟩ := wsh_ok (kd tb (st tb k)) hkd
    have hz3 : (¬ zok (wsh (kd tb (st tb k)))) = False := eq_false (fun h => h wz')
    have e1 := begin_ok (J := J) h7 hns hkd
    rw [← enf] at e1
    simp only [f_X10_scan_16, e1, Option.bind_some]
    have key : ∀ I1, (∀ c j, ¬ (c = 26 ∧ j = 7) → I1 c j = I c j) → (nf (aq tb k) (kd tb (st tb k)) = 0 → I1 26 7 = nt ((aq tb k).2.2 + (if kd tb (st tb k) = 4 then 1 else 0))) → Ok (f_X10_scan_17 (wsh (aq tb k).1) (nt (aq tb k).2.1) (nt (st tb k)) (nt k) (nt (te tb (st tb k))) (nt (kd tb (st tb k))) (nt (nf (aq tb k) (kd tb (st tb k)))) I1 J) (Sum.elim (fun s => (flt tb k = 0 ∧ Sc l tb I0 J (k + 1) s) ∨ (¬ flt tb k = 0 ∧ Sfx l tb I0 J k (flt tb k) s)) Q) := by
      intro I1 hf1 h71
      obtain ⟨I2, e2, b5, b6, b60, bf⟩ := cfail_ok (J := J) (I := I1) ((hf1 26 5 (by omega)).trans h5) (nf_le (aq tb k) (kd tb (st tb k))) (nt (st tb k))
      simp only [f_X10_scan_17, e2, Option.bind_some, f_X10_scan_18, shapeOf_ok _ hkd, f_X10_scan_19, hz3, if_false]
      have hT2 : TK tb k I2 := TK_fr hT (fun c j hc => (bf c j (by omega)).trans (hf1 c j (by omega)))
      have hTp2 : Tp l tb I2 := Tp_fr hTp (fun c j hc => (bf c j (by omega)).trans (hf1 c j (by omega)))
      refine (scan20_ok (I := I) hTp2 (w := wsh (kd tb (st tb k))) (x := 0) (J := J) hk hs hT2 (nf_le _ _) b5 b6 (fun h => by rw [b60 h]; exact hf1 26 6 (by omega)) (fun c j hc => (bf c j (by unfold sReg at hc; omega)).trans (hf1 c j (by unfold sReg at hc; omega)))).imp ?_
      intro o ho
      have efl : (if nf (aq tb k) (kd tb (st tb k)) = 0 then (if 400 ≤ k then 2 else 0) else nf (aq tb k) (kd tb (st tb k))) = flt tb k := rfl
      rw [efl] at ho
      refine Sd_go ho wz' h6 (by rw [enq]) (by rw [enq]) (fun h0 => ?_) hf
      have hn0 : nf (aq tb k) (kd tb (st tb k)) = 0 := by
        unfold flt at h0
        split at h0
        · assumption
        · exact h0
      rw [bf 26 7 (by omega), h71 hn0, enq]
    refine key _ ?_ ?_
    · intro c' j hc
      split
      · rfl
      · by_cases c26 : c' = 26
        · rw [c26]; simp (disch := omega) only [xup_j]
        · simp (disch := omega) only [xup_bj]
    · intro h0
      have hne : ¬ (shp (kd tb (st tb k))).length = 0 := by
        intro he
        rw [enf, if_pos he] at h0; omega
      rw [if_neg hne, xup_at]
theorem scan_ok {l : Nat} {tb : Nat → Nat} {I : xI} {J : xJ} (h : Tp l tb I) : Ok (f_X10_scan I J) (fun o => o.2.2 = J ∧ o.2.1 26 5 = nt (sF l tb) ∧ o.2.1 26 6 = sP l tb ∧ (sF l tb = 0 → TK tb (sK l tb) o.2.1) ∧ ∀ c j, ¬ sReg c j → o.2.1 c j = I c j) := by
  obtain ⟨k4, kx, kb⟩ := sK_ok l tb
  have hl := h.1.1
  have hfr : ∀ c j, ¬ sReg c j → xup (xup (xup (xup I 26 4 0) 26 5 0) 26 6 (-1)) 26 7 0 c j = I c j := by
    intro c j hc
    unfold sReg at hc
    by_cases c26 : c = 26
    · rw [c26]; simp (disch := omega) only [xup_j]
    · simp (disch := omega) only [xup_bj]
  have hTp : Tp l tb (xup (xup (xup (xup I 26 4 0) 26 5 0) 26 6 (-1)) 26 7 0) := Tp_fr h (fun c j hc => hfr c j (by unfold sReg; omega))
  unfold f_X10_scan f_X10_scan_0
  rw [show (0 : Int32) = nt 0 from rfl] at hTp hfr ⊢
  rw [skip_ok hTp (Nat.zero_le _), Option.bind_some]
  unfold f_X10_scan_1 f_X10_scan_2
  have hS0 : Sc l tb I J 0 (2000, nt 0, nt (en tb qB 0), nt 0, none, none, xup (xup (xup (xup I 26 4 (nt 0)) 26 5 (nt 0)) 26 6 (-1)) 26 7 (nt 0), J) := by
    refine ⟨none, none, _, rfl, ?_, ?_, ?_, ⟨?_, fun j hj => by omega⟩, hfr⟩
    · simp (disch := omega) only [xup_j, xup_at]; rfl
    · simp (disch := omega) only [xup_j, xup_at]
    · exact xup_at _ _ _ _
    · simp (disch := omega) only [xup_j, xup_at]
  have hend : ∀ w x x3 x4 z5 z6 I', zok w → ¬ I' 26 5 = 0 → f_X10_scan_23 w x x3 x4 z5 z6 I' J = some ((), I', J) := by
    intro w x x3 x4 z5 z6 I' hz h5
    have hz2 : (¬ zok w) = False := eq_false (fun h => h hz)
    simp only [f_X10_scan_23, hz2, if_false, f_X10_scan_24, f_X10_scan_25, f_X10_scan_26, cfail_k h5, Option.bind_some, ite_self]
  by_cases c : st tb (sK l tb) < l
  · have hfk : ¬ flt tb (sK l tb) = 0 := by
      rcases kx with h | h
      · omega
      · exact h
    have eF : sF l tb = flt tb (sK l tb) := if_pos c
    have eP : sP l tb = nt (st tb (sK l tb)) := if_pos c
    refine ok_loop (fun k s => (k ≤ sK l tb ∧ Sc l tb I J k s) ∨ (k = sK l tb + 1 ∧ Sfx l tb I J (sK l tb) (flt tb (sK l tb)) s)) (sK l tb + 1) ?_ ?_ 5000 0 _ (by omega) (by omega) (Or.inl ⟨Nat.zero_le _, hS0⟩)
    · rintro k hk s (⟨hk1, hS⟩ | ⟨hk1, _⟩)
      · have hst : st tb k < l := by
          by_cases ck : k = sK l tb
          · rw [ck]; exact c
          · exact (kb k (by omega)).1
        refine (scan_step (Q := fun _ => False) h (show k ≤ 400 from by omega) hst (ns6 k (fun j hj => (kb j (by omega)).2)) hS).imp ?_
        intro o ho
        cases o with
        | inr v => exact ho.elim
        | inl s' =>
          rcases ho with ⟨h0, hs'⟩ | ⟨h0, hs'⟩
          · refine Or.inl ⟨?_, hs'⟩
            by_cases ck : k = sK l tb
            · rw [ck] at h0; exact absurd h0 hfk
            · omega
          · have ck : k = sK l tb := by
              by_cases ck : k = sK l tb
              · exact ck
              · exact absurd (kb k (by omega)).2 h0
            rw [ck] at hs' ⊢
            exact Or.inr ⟨rfl, hs'⟩
      · omega
    · rintro s (⟨hk1, hS⟩ | ⟨_, hS⟩)
      · omega
      · obtain ⟨w, x, x3, x4, z5, z6, I', rfl, hz, g5, g6, gf⟩ := hS
        have hfl := flt_le tb (sK l tb)
        have h50 : ¬ I' 26 5 = 0 := by rw [g5, show (0 : Int32) = nt 0 from rfl, nt_eq (by omega) (by omega)]; exact hfk
        have e := hend w (nt x) x3 x4 z5 z6 I' hz h50
        simp only [b_X10_scan_2, f_X10_scan_3, f_X10_scan_4, if_neg h50, e, Option.map_some, ite_self]
        refine ok_some ⟨rfl, by rw [eF]; exact g5, by rw [eP]; exact g6, fun h0 => absurd (eF ▸ h0) hfk, gf⟩
  · have hle := st_le h.1 (sK l tb) (fun j hj => (kb j hj).1)
    refine ok_loop (fun k s => Sc l tb I J k s) (sK l tb) ?_ ?_ 5000 0 _ (by omega) (by omega) hS0
    · intro k hk s hS
      refine (scan_step (Q := fun _ => False) h (show k ≤ 400 from by omega) (kb k hk).1 (ns6 k (fun j hj => (kb j (by omega)).2)) hS).imp ?_
      intro o ho
      cases o with
      | inr v => exact ho.elim
      | inl s' =>
        rcases ho with ⟨h0, hs'⟩ | ⟨h0, hs'⟩
        · exact hs'
        · exact absurd (kb k hk).2 h0
    · rintro s ⟨z5, z6, I', rfl, g5, g6, g7, gT, gf⟩
      obtain ⟨qc, qd, _⟩ := aq_c tb (sK l tb)
      obtain ⟨wz, wl, w6, wc⟩ := wsh_ok (aq tb (sK l tb)).1 qc
      have hz2 : (¬ zok (wsh (aq tb (sK l tb)).1)) = False := eq_false (fun h => h wz)
      have e24 : I' 24 1 = nt l := (gf 24 1 (by unfold sReg; omega)).trans h.2.1
      have hlst : l ≤ st tb (sK l tb) := by omega
      have eF : sF l tb = if due tb (sK l tb) = true then 1 else 0 := if_neg c
      have eP : sP l tb = if due tb (sK l tb) = true then nt l else -1 := if_neg c
      simp (disch := omega) only [b_X10_scan_2, f_X10_scan_3, e24, nt_clamp, nt_le, nt_lt, nt_eq, lit_le, lit_lt, le_lit, lt_lit, eq_lit, lit_eq, nt_neg, nt_ge, nt_add, nt_mul, nt_addl, lit_add, nt_mull, lit_mul, nt_sub, nt_subl, lit_sub, nt_divl, nt_m1, nt_m2, nt_m1', nt_m2', if_pos, f_X10_scan_23, hz2, if_false, wl, ite_self]
      rw [show Int32.ofNat (shp (aq tb (sK l tb)).1).length = nt (shp (aq tb (sK l tb)).1).length from rfl]
      simp (disch := omega) only [f_X10_scan_24, nt_le]
      rw [eF, eP]
      by_cases cd : (aq tb (sK l tb)).2.1 < (shp (aq tb (sK l tb)).1).length
      · have ed : due tb (sK l tb) = true := decide_eq_true cd
        rw [if_neg (by omega), if_pos ed, if_pos ed]
        simp only [f_X10_scan_25, f_X10_scan_26, cfail_a g5 (show ¬ (1 : Int32) = 0 from by decide), Option.bind_some, Option.map_some, e24]
        refine ok_some ⟨rfl, ?_, (show xup (xup I' 26 5 1) 26 6 (nt l) 26 6 = nt l from xup_at _ _ _ _), fun h => by omega, ?_⟩
        · show xup (xup I' 26 5 1) 26 6 (nt l) 26 5 = _
          simp (disch := omega) only [xup_j, xup_at]; rfl
        · intro c j hc
          show xup (xup I' 26 5 1) 26 6 (nt l) c j = _
          rw [← gf c j hc]
          unfold sReg at hc
          by_cases c26 : c = 26
          · rw [c26]; simp (disch := omega) only [xup_j]
          · simp (disch := omega) only [xup_bj]
      · have ed : ¬ due tb (sK l tb) = true := fun h => cd (of_decide_eq_true h)
        rw [if_pos (by omega), if_neg ed, if_neg ed]
        simp only [f_X10_scan_26, Option.map_some]
        exact ok_some ⟨rfl, g5, g6, fun _ => gT, gf⟩
