/-! set, code, undo, hold, restore, read of both -/
theorem push_V {n m k : Nat} {g : Nat → aT} {w : aT} (h : ∀ i, i ≤ k → Vd n m (g i)) (hw : Vd n m w) : ∀ i, i ≤ min (k + 1) 40 → Vd n m (push w g i) := by
  intro i hi
  cases i with
  | zero => exact hw
  | succ i => exact h i (by omega)
theorem rSt_new {c j : Nat} (h : c = 62 ∨ c = 87 ∨ c = 88 ∨ (c = 61 ∧ (j = 2 ∨ j = 16))) : ¬ rReg c j := by unfold rReg; omega
theorem rI_deed {n m k k' l : Nat} {g g' : Nat → aT} {sl : Nat → Option aT} {tb : Nat → Nat} {pl : Int32} {I I' : xI} {J : xJ} (h : rI n m k g sl l tb pl I J) (hM : rMa n m (g' 0) (I' 70) 0) (hH : rHi n m k' g' (I' 61 25) (I' 61 26) (I' 72)) (h29 : I' 61 29 = 0) (h750 : I' 75 0 = 0) (h751 : I' 75 1 = 0) (hf : ∀ a j, ¬ rReg a j → I' a j = I a j) : rI n m k' g' sl l tb pl I' J := by
  have e73 : I' 73 = I 73 := funext fun j => hf 73 j (by unfold rReg; omega)
  have e74 : I' 74 = I 74 := funext fun j => hf 74 j (by unfold rReg; omega)
  exact rI_new h ((hf 61 17 (by unfold rReg; omega)).trans h.1.1) ((hf 61 18 (by unfold rReg; omega)).trans h.1.2.1) hM hH (by rw [e73, e74]; exact h.1.2.2.2.2) h29 h750 h751 (fun c j hc => hf c j (rSt_new hc))
theorem rReg61 {c j : Nat} (h : c < 61) : ¬ rReg c j := by unfold rReg; omega
theorem dReg_x {c j : Nat} (h : (10 ≤ c) ∨ c = 0) : ¬ dReg c j := by unfold dReg; omega
theorem b_set {a A n m k l : Nat} {g : Nat → aT} {sl : Nat → Option aT} {tb : Nat → Nat} {pl : Int32} {I : xI} {J : xJ} (ha : a + 1 ≤ A) (hA : A < 1000000000) (G : gI n m k g sl l tb) (hc : cI a n m k g sl l tb pl I) (hr : rI n m k g sl l tb pl I J) (x y z u : Int32) : Bo A (f_X11_set x y z u) (f_X12_set x y z u) I J := by
  have V := G.2.2.1 0 (Nat.zero_le _)
  refine (cset_ok (J := J) G.1 G.2.1 V hc.1.1 hc.1.2.1 x y z u).imp ?_
  rintro ⟨w, I1, J1⟩ ⟨rfl, q1, q2, q3⟩
  dsimp only at q1 q2 q3 ⊢
  cases hb : setR n m (g 0) x y z u with
  | false =>
    have e := q2 hb
    subst e
    refine (rset_ok (J := J1) G.1 G.2.1 V hr.1.1 hr.1.2.1 hr.1.2.2.1 hr.1.2.2.2.1 x y z u).imp ?_
    rintro ⟨w', I2, J2⟩ ⟨rfl, p1, p2, p3⟩
    dsimp only at p1 p2 p3 ⊢
    have e := p2 hb
    subst e
    exact ⟨by rw [q1, p1], a, n, m, k, g, sl, l, tb, pl, by omega, G, hc, hr⟩
  | true =>
    obtain ⟨m1, m2, m3, m4⟩ := q3 hb
    have hr1 : rI n m k g sl l tb pl I1 J1 := rI_fr hr (fun c j h => m4 c j (dReg_x (by omega)))
    have hc1 : cI (a + 1) n m (min (k + 1) 40) (push (aset (g 0) x.toNatClampNeg y.toNatClampNeg (po z) (po u)) g) sl l tb pl I1 := cI_new hc (by omega) (by omega) (by rw [m3, hc.2.2.1.2.1]; exact nt_add a 1) m1 m2 (cSl_fr hc.1.2.2 (fun c j h1 h2 => m4 c j (dReg_x (by omega)))) (fun c j h => m4 c j (dReg_x (by omega)))
    refine (rset_ok (J := J1) G.1 G.2.1 V hr1.1.1 hr1.1.2.1 hr1.1.2.2.1 hr1.1.2.2.2.1 x y z u).imp ?_
    rintro ⟨w', I2, J2⟩ ⟨rfl, p1, p2, p3⟩
    dsimp only at p1 p2 p3 ⊢
    obtain ⟨r1, r2, r3, r4, r5, r6⟩ := p3 hb
    refine ⟨by rw [q1, p1], a + 1, n, m, min (k + 1) 40, push (aset (g 0) x.toNatClampNeg y.toNatClampNeg (po z) (po u)) g, sl, l, tb, pl, ha, ⟨G.1, G.2.1, push_V G.2.2.1 ?_, G.2.2.2⟩, cI_fr hc1 (fun c j h => r6 c j (rReg61 h)), rI_deed hr1 r1 r2 r3 r4 r5 r6⟩
    have hok : setOk n m x y z u = true := by
      unfold setR at hb
      rw [Bool.and_eq_true] at hb
      exact hb.1
    obtain ⟨⟨s, t, hs, ht, e1, e2⟩, ⟨_, hz⟩, ⟨_, hu⟩⟩ := setOk_ex G.1 G.2.1 hok
    have h6 := G.1
    have h4 := G.2.1
    rw [e1, e2, nt_clamp (by omega), nt_clamp (by omega)]
    exact Vd_set V hs ht hz hu
theorem b_code {a A n m k l : Nat} {g : Nat → aT} {sl : Nat → Option aT} {tb : Nat → Nat} {pl : Int32} {I : xI} {J : xJ} (ha : a ≤ A) (G : gI n m k g sl l tb) (hc : cI a n m k g sl l tb pl I) (hr : rI n m k g sl l tb pl I J) (x y : Int32) : Bo A (f_X11_code x y) (f_X12_code x y) I J := by
  have V := G.2.2.1 0 (Nat.zero_le _)
  refine (ccode_ok (J := J) G.1 V hc.1.1 hc.1.2.1 x y).imp ?_
  rintro ⟨w, I1, J1⟩ ⟨rfl, q1, q2, q3⟩
  dsimp only at q1 q2 q3 ⊢
  cases hb : codeR n (g 0) x y with
  | false =>
    have e := q2 hb
    subst e
    refine (rcode_ok (J := J1) G.1 G.2.1 V hr.1.1 hr.1.2.2.1 hr.1.2.2.2.1 x y).imp ?_
    rintro ⟨w', I2, J2⟩ ⟨rfl, p1, p2, p3⟩
    dsimp only at p1 p2 p3 ⊢
    have e := p2 hb
    subst e
    exact ⟨by rw [q1, p1], a, n, m, k, g, sl, l, tb, pl, ha, G, hc, hr⟩
  | true =>
    obtain ⟨m1, m2, m3, m4⟩ := q3 hb
    have hr1 : rI n m k g sl l tb pl I1 J1 := rI_fr hr (fun c j h => m4 c j (dReg_x (by omega)))
    have hc1 : cI a n m (min (k + 1) 40) (push (acode (g 0) x.toNatClampNeg y.toNatClampNeg) g) sl l tb pl I1 := by
      obtain ⟨⟨g1, g2, g3⟩, ⟨g4, g5, g6⟩, ⟨g7, g8, g9⟩, g10, g11, g12⟩ := hc
      refine ⟨⟨m1, m2, cSl_fr g3 (fun c j h1 h2 => m4 c j (dReg_x (by omega)))⟩, ⟨(m4 24 1 (dReg_x (by omega))).trans g4, fun j hj => (m4 25 j (dReg_x (by omega))).trans (g5 j hj), (m4 0 11 (dReg_x (by omega))).trans g6⟩, ⟨g7, m3.trans g8, fun c j hcj => ?_⟩, ?_, cT_fr g11 (fun c j h => m4 c j (dReg_x (by omega))), mK_fr g12 (fun j => m4 54 j (dReg_x (by omega)))⟩
      · have := sNk_c hcj
        rw [m4 c j (dReg_x (by omega))]; exact g9 c j hcj
      · refine caX_cc (w := g 0) (caX_fr g10 (fun c j h => ?_)) rfl rfl
        rcases h with h | ⟨rfl, rfl⟩
        · exact m4 c j (dReg_x (by omega))
        · exact m3
    refine (rcode_ok (J := J1) G.1 G.2.1 V hr1.1.1 hr1.1.2.2.1 hr1.1.2.2.2.1 x y).imp ?_
    rintro ⟨w', I2, J2⟩ ⟨rfl, p1, p2, p3⟩
    dsimp only at p1 p2 p3 ⊢
    obtain ⟨r1, r2, r3, r4, r5, r6⟩ := p3 hb
    refine ⟨by rw [q1, p1], a, n, m, min (k + 1) 40, push (acode (g 0) x.toNatClampNeg y.toNatClampNeg) g, sl, l, tb, pl, ha, ⟨G.1, G.2.1, push_V G.2.2.1 ?_, G.2.2.2⟩, cI_fr hc1 (fun c j h => r6 c j (rReg61 h)), rI_deed hr1 r1 r2 r3 r4 r5 r6⟩
    have h8 : isS 8 y = true := by
      unfold codeR at hb
      rw [Bool.and_eq_true, Bool.and_eq_true] at hb
      exact hb.1.2
    obtain ⟨t, ht, e⟩ := isS_ex (by omega) h8
    rw [e, nt_clamp (by omega)]
    exact Vd_code V ht
theorem b_undo {a A n m k l : Nat} {g : Nat → aT} {sl : Nat → Option aT} {tb : Nat → Nat} {pl : Int32} {I : xI} {J : xJ} (ha : a + 1 ≤ A) (hA : A < 1000000000) (G : gI n m k g sl l tb) (hc : cI a n m k g sl l tb pl I) (hr : rI n m k g sl l tb pl I J) : Bo A f_X11_undo f_X12_undo I J := by
  have V := G.2.2.1 0 (Nat.zero_le _)
  refine (cundo_ok (J := J) G.1 G.2.1 hc.1.1 hc.1.2.1).imp ?_
  rintro ⟨w, I1, J1⟩ ⟨rfl, q1, q2, q3⟩
  dsimp only at q1 q2 q3 ⊢
  by_cases hk : k = 0
  · have e := q2 hk
    subst e
    refine (rundo_ok (J := J1) G.1 G.2.1 hr.1.2.2.2.1).imp ?_
    rintro ⟨w', I2, J2⟩ ⟨rfl, p1, p2, p3⟩
    dsimp only at p1 p2 p3 ⊢
    have e := p2 hk
    subst e
    exact ⟨by rw [q1, p1], a, n, m, k, g, sl, l, tb, pl, by omega, G, hc, hr⟩
  · obtain ⟨m1, m2, m3, m4⟩ := q3 (by omega)
    have hr1 : rI n m k g sl l tb pl I1 J1 := rI_fr hr (fun c j h => m4 c j (dReg_x (by omega)))
    have hc1 : ∃ a', a' ≤ A ∧ cI a' n m (k - 1) (fun i => g (i + 1)) sl l tb pl I1 := by
      rcases m3 with ⟨e1, e2, e3⟩ | e1
      · refine ⟨a, by omega, ?_⟩
        obtain ⟨⟨g1, g2, g3⟩, ⟨g4, g5, g6⟩, ⟨g7, g8, g9⟩, g10, g11, g12⟩ := hc
        refine ⟨⟨m1, m2, cSl_fr g3 (fun c j h1 h2 => m4 c j (dReg_x (by omega)))⟩, ⟨(m4 24 1 (dReg_x (by omega))).trans g4, fun j hj => (m4 25 j (dReg_x (by omega))).trans (g5 j hj), (m4 0 11 (dReg_x (by omega))).trans g6⟩, ⟨g7, e1.trans g8, fun c j hcj => ?_⟩, ?_, cT_fr g11 (fun c j h => m4 c j (dReg_x (by omega))), mK_fr g12 (fun j => m4 54 j (dReg_x (by omega)))⟩
        · have := sNk_c hcj
          rw [m4 c j (dReg_x (by omega))]; exact g9 c j hcj
        · refine caX_cc (w := g 0) (caX_fr g10 (fun c j h => ?_)) e2 e3
          rcases h with h | ⟨rfl, rfl⟩
          · exact m4 c j (dReg_x (by omega))
          · exact e1
      · exact ⟨a + 1, ha, cI_new hc (by omega) (by omega) (by rw [e1, hc.2.2.1.2.1]; exact nt_add a 1) m1 m2 (cSl_fr hc.1.2.2 (fun c j h1 h2 => m4 c j (dReg_x (by omega)))) (fun c j h => m4 c j (dReg_x (by omega)))⟩
    obtain ⟨a', ha', hc1⟩ := hc1
    refine (rundo_ok (J := J1) G.1 G.2.1 hr1.1.2.2.2.1).imp ?_
    rintro ⟨w', I2, J2⟩ ⟨rfl, p1, p2, p3⟩
    dsimp only at p1 p2 p3 ⊢
    obtain ⟨r1, r2, r3, r4, r5, r6⟩ := p3 (by omega)
    exact ⟨by rw [q1, p1], a', n, m, k - 1, fun i => g (i + 1), sl, l, tb, pl, ha', ⟨G.1, G.2.1, fun i hi => G.2.2.1 (i + 1) (by omega), G.2.2.2⟩, cI_fr hc1 (fun c j h => r6 c j (rReg61 h)), rI_deed hr1 r1 r2 r3 r4 r5 r6⟩
theorem b_hold {a A n m k l : Nat} {g : Nat → aT} {sl : Nat → Option aT} {tb : Nat → Nat} {pl : Int32} {I : xI} {J : xJ} (ha : a ≤ A) (G : gI n m k g sl l tb) (hc : cI a n m k g sl l tb pl I) (hr : rI n m k g sl l tb pl I J) (x : Int32) : Bo A (f_X11_hold x) (f_X12_hold x) I J := by
  have V := G.2.2.1 0 (Nat.zero_le _)
  refine (chold_ok (J := J) hc.1.1 hc.1.2.2 x).imp ?_
  rintro ⟨w, I1, J1⟩ ⟨rfl, q1, q2, q3, q4⟩
  dsimp only at q1 q2 q3 q4 ⊢
  have hr1 : rI n m k g sl l tb pl I1 J1 := rI_fr hr (fun c j h => q4 c j (by omega))
  refine (rhold_ok (J := J1) G.1 G.2.1 hr1.1.2.2.1 hr1.1.2.2.2.2 x).imp ?_
  rintro ⟨w', I2, J2⟩ ⟨rfl, p1, p2, p3, p4⟩
  dsimp only at p1 p2 p3 p4 ⊢
  refine ⟨by rw [q1, p1], ?_⟩
  cases hb : isS 3 x with
  | false =>
    have e := q2 hb
    subst e
    have e := p2 hb
    subst e
    exact ⟨a, n, m, k, g, sl, l, tb, pl, ha, G, hc, hr⟩
  | true =>
    have s1 := q3 hb
    have s2 := p3 hb
    have hc1 : cI a n m k g (slup sl x.toNatClampNeg (g 0)) l tb pl I1 := by
      obtain ⟨⟨g1, g2, g3⟩, ⟨g4, g5, g6⟩, ⟨g7, g8, g9⟩, g10, g11, g12⟩ := hc
      refine ⟨⟨cMa_fr g1 (fun c j _ _ => q4 c j (by omega)), cHi_fr g2 (fun c j _ _ => q4 c j (by omega)), s1⟩, ⟨(q4 24 1 (by omega)).trans g4, fun j hj => (q4 25 j (by omega)).trans (g5 j hj), (q4 0 11 (by omega)).trans g6⟩, ⟨g7, (q4 1 2 (by omega)).trans g8, fun c j hcj => ?_⟩, caX_fr g10 (fun c j h => q4 c j (by omega)), cT_fr g11 (fun c j h => q4 c j (by omega)), mK_fr g12 (fun j => q4 54 j (by omega))⟩
      have := sNk_c hcj
      rw [q4 c j (by omega)]; exact g9 c j hcj
    refine ⟨a, n, m, k, g, slup sl x.toNatClampNeg (g 0), l, tb, pl, ha, ⟨G.1, G.2.1, G.2.2.1, ?_, G.2.2.2.2⟩, cI_fr hc1 (fun c j h => p4 c j (by omega) (by omega)), ?_⟩
    · intro q w hq
      unfold slup at hq
      split at hq
      · cases hq; exact V
      · exact G.2.2.2.1 q w hq
    · obtain ⟨⟨g1, g2, g3, g4, g5⟩, ⟨g6, g7, g8⟩, ⟨g9, g10⟩, g11, g12, g13⟩ := hr1
      have e70 : I2 70 = I1 70 := funext fun j => p4 70 j (by omega) (by omega)
      exact ⟨⟨(p4 61 17 (by omega) (by omega)).trans g1, (p4 61 18 (by omega) (by omega)).trans g2, by rw [e70]; exact g3, rHi_fr g4 (fun c j h => p4 c j (by omega) (by omega)), s2⟩, ⟨(p4 61 2 (by omega) (by omega)).trans g6, fun j hj => (p4 62 j (by omega) (by omega)).trans (g7 j hj), (p4 61 16 (by omega) (by omega)).trans g8⟩, ⟨rCa_fr g9 (fun c j h => p4 c j (by omega) (by omega)), rbF_fr g10 (fun c j h => p4 c j (by omega) (by omega))⟩, rT_fr g11 (fun j => p4 87 j (by omega) (by omega)), rK_fr g12 (fun j => p4 88 j (by omega) (by omega)), g13⟩
theorem b_restore {a A n m k l : Nat} {g : Nat → aT} {sl : Nat → Option aT} {tb : Nat → Nat} {pl : Int32} {I : xI} {J : xJ} (ha : a + 1 ≤ A) (hA : A < 1000000000) (G : gI n m k g sl l tb) (hc : cI a n m k g sl l tb pl I) (hr : rI n m k g sl l tb pl I J) (x : Int32) : Bo A (f_X11_restore x) (f_X12_restore x) I J := by
  refine (crest_ok (J := J) hc.1.2.2 hc.1.2.1 x).imp ?_
  rintro ⟨w, I1, J1⟩ ⟨rfl, q1, q2, q3⟩
  dsimp only at q1 q2 q3 ⊢
  cases hb : slR sl x with
  | false =>
    have e := q2 hb
    subst e
    refine (rrest_ok (J := J1) G.1 G.2.1 hr.1.2.2.2.2 hr.1.2.2.2.1 x).imp ?_
    rintro ⟨w', I2, J2⟩ ⟨rfl, p1, p2, p3⟩
    dsimp only at p1 p2 p3 ⊢
    have e := p2 hb
    subst e
    exact ⟨by rw [q1, p1], a, n, m, k, g, sl, l, tb, pl, by omega, G, hc, hr⟩
  | true =>
    obtain ⟨w1, e1, m1, m2, m3, m4⟩ := q3 hb
    have f4 : ∀ c j, 10 ≤ c ∨ c = 0 → I1 c j = I c j := fun c j h => m4 c j (dReg_x h) (by omega)
    have hr1 : rI n m k g sl l tb pl I1 J1 := rI_fr hr (fun c j h => f4 c j (by omega))
    have hc1 : cI (a + 1) n m 0 (fun _ => w1) sl l tb pl I1 := cI_new hc (by omega) (by omega) (by rw [m3, hc.2.2.1.2.1]; exact nt_add a 1) m1 m2 (cSl_fr hc.1.2.2 (fun c j h1 h2 => f4 c j (by omega))) (fun c j h => f4 c j (by omega))
    refine (rrest_ok (J := J1) G.1 G.2.1 hr1.1.2.2.2.2 hr1.1.2.2.2.1 x).imp ?_
    rintro ⟨w', I2, J2⟩ ⟨rfl, p1, p2, p3⟩
    dsimp only at p1 p2 p3 ⊢
    obtain ⟨w2, e2, r1, r2, r3, r4, r5, r6⟩ := p3 hb
    rw [e1] at e2
    cases e2
    exact ⟨by rw [q1, p1], a + 1, n, m, 0, fun _ => w1, sl, l, tb, pl, ha, ⟨G.1, G.2.1, fun i _ => G.2.2.2.1 _ _ e1, G.2.2.2⟩, cI_fr hc1 (fun c j h => r6 c j (rReg61 h)), rI_deed hr1 r1 r2 r3 r4 r5 r6⟩
theorem b_read {a A n m k l : Nat} {g : Nat → aT} {sl : Nat → Option aT} {tb : Nat → Nat} {pl : Int32} {I : xI} {J : xJ} (ha : a + 401 ≤ A) (hA : A < 1000000000) (G : gI n m k g sl l tb) (hc : cI a n m k g sl l tb pl I) (hr : rI n m k g sl l tb pl I J) : Bo A f_X11_read f_X12_read I J := by
  have T := G.2.2.2.2
  have T0 : Tb 0 (fun _ => 0) := ⟨by omega, fun _ => (show 0 < 256 from by omega), fun _ _ => rfl⟩
  refine (cread_ok (J := J) ⟨T, hc.2.1.1, hc.2.1.2.1⟩ hc.2.2.1.2.1).imp ?_
  rintro ⟨w, I1, J1⟩ ⟨rfl, q1, q2, q3, q4, q5, q6⟩
  dsimp only at q1 q2 q3 q4 q5 q6 ⊢
  have hr1 : rI n m k g sl l tb pl I1 J1 := rI_fr hr (fun c j h => q6 c j (by omega) (by omega) (by omega) (by omega) (by omega) (by omega))
  refine (rread_ok (J := J1) T hr1.2.1.1 hr1.2.1.2.1 hr1.2.2.2.2.2).imp ?_
  rintro ⟨w', I2, J2⟩ ⟨p1, p2, p3, p4, p5, p6, p7⟩
  dsimp only at p1 p2 p3 p4 p5 p6 p7 ⊢
  refine ⟨by rw [q1, p1], ?_⟩
  have f61 : ∀ c j, c < 61 → I2 c j = I1 c j := fun c j h => p6 c j (by unfold rdReg; omega) (by unfold rdReg2; omega)
  by_cases c0 : fno l tb = 0
  · obtain ⟨hW, hz, m1, ⟨u, hu, m2⟩, m3, m4⟩ := q4 c0
    obtain ⟨r1, r2, r3, r4, r5, r6, r7, r8⟩ := p4 c0
    have hn6 := Wf_nS hW (Nat.le_refl _)
    have hir := inp_r tb (sK l tb)
    have V := At_V hW hz _ (Nat.le_refl _)
    obtain ⟨_, _, p, hp, h5, _⟩ := hc.1.2.1
    obtain ⟨_, _, e, he, h25, _⟩ := hr1.1.2.2.2.1
    refine ⟨a + 1 + u, nS tb (sK l tb), inp tb (sK l tb), 0, fun _ => At tb (sK l tb) (sK l tb), fun _ => none, 0, fun _ => 0, plc l tb, by omega, ⟨hn6, hir.2, fun _ _ => V, fun q w h => (by cases h), T0⟩, ?_, ?_⟩
    · refine cI_fr (I := I1) ?_ f61
      have h55 : I1 5 5 = nt p := (q6 5 5 (by omega) (by omega) (by omega) (by omega) (by omega) (by omega)).trans h5
      obtain ⟨_, _, ⟨g7, g8, g9⟩, g10, g11, g12⟩ := hc
      have f : ∀ c j, (32 ≤ c ∧ c ≤ 60) → I1 c j = I c j := fun c j h => q6 c j (by omega) (by omega) (by omega) (by omega) (by omega) (by omega)
      refine ⟨⟨m1, ⟨m3, by omega, p, hp, h55, fun i hi => absurd hi (by omega)⟩, fun q hq => ⟨m4 q hq, fun w h => (by cases h)⟩⟩, ⟨q3, fun j hj => absurd hj (by omega), q2⟩, ⟨by omega, m2, fun c j hcj => ?_⟩, caX_void g10 g9 (by omega) (by omega) m2 f, cT_fr g11 (fun c j h => f c j (by omega)), mK_fr g12 (fun j => f 54 j (by omega))⟩
      have := sNk_c hcj
      rw [f c j this.1]; exact sOld_up (g9 c j hcj) (by omega)
    · have h25' : I2 61 25 = nt e := (p6 61 25 (by unfold rdReg; omega) (by unfold rdReg2; omega)).trans h25
      obtain ⟨_, _, _, g11, g12, _⟩ := hr1
      refine ⟨⟨r1, r2, r3, ⟨r4, by omega, e, he, h25', fun i hi => absurd hi (by omega)⟩, fun q hq => ⟨r5 q hq, fun w h => (by cases h)⟩⟩, ⟨p3, fun j hj => absurd hj (by omega), p2⟩, ⟨fun h => absurd r6 h, fun y hy h => ?_⟩, rT_fr g11 (fun j => p6 87 j (by unfold rdReg; omega) (by unfold rdReg2; omega)), rK_fr g12 (fun j => p6 88 j (by unfold rdReg; omega) (by unfold rdReg2; omega)), p7⟩
      exfalso
      have : y = 0 ∨ y = 1 := by omega
      rcases this with rfl | rfl
      · exact h r7
      · exact h r8
  · refine ⟨a, n, m, k, g, sl, 0, fun _ => 0, plc l tb, by omega, ⟨G.1, G.2.1, G.2.2.1, G.2.2.2.1, T0⟩, ?_, ?_⟩
    · refine cI_fr (I := I1) ?_ f61
      refine cI_tape hc (fun c j h1 h2 h3 h4 => ?_) q3 (fun j hj => absurd hj (by omega)) q2
      by_cases cc : (1 ≤ c ∧ c ≤ 4) ∨ (c = 5 ∧ j = 6) ∨ c = 11
      · exact q5 c0 c j cc
      · exact q6 c j h3 (by omega) (by omega) (by omega) h4 h2
    · refine rI_tape hr1 (fun c j h1 h2 h3 => ?_) p3 (fun j hj => absurd hj (by omega)) p2 p7
      by_cases cc : rdReg2 c j
      · exact p5 c0 c j cc
      · exact p6 c j (by unfold rdReg; omega) cc
