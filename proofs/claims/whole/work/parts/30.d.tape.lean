/-! the tape and the deeds of both -/
def ub (y : Int32) : Nat := (y.toInt % 256).toNat
theorem ub_ok (y : Int32) : ub y < 256 ∧ byt (nt (ub y)) = byt y := by
  have h1 : 0 ≤ y.toInt % 256 := Int.emod_nonneg _ (by decide)
  have h2 : y.toInt % 256 < 256 := Int.emod_lt_of_pos _ (by decide)
  have hu : ub y < 256 := by unfold ub; omega
  refine ⟨hu, ?_⟩
  unfold byt
  congr 1
  apply Int8.toInt_inj.mp
  rw [Int32.toInt_toInt8, Int32.toInt_toInt8, nt_int (by omega)]
  have e : ((ub y : Nat) : Int) = y.toInt % 256 := by unfold ub; omega
  rw [e]
  exact Int.emod_bmod y.toInt 256
theorem bs5_byt (l : Nat) (bs : Nat → Int32) (a b c d e : Int32) (k : Nat) (hk : ¬ k < l) : byt (bs5 l bs a b c d e k) = bs5 l bs a b c d e k := by
  unfold bs5
  rw [if_neg hk]
  have hz : ∀ x j, byt (bz x j) = bz x j := fun x j => byt_byt _
  split
  · exact hz _ _
  split
  · exact hz _ _
  split
  · exact hz _ _
  split
  · exact hz _ _
  exact hz _ _
def tb5 (l : Nat) (tb : Nat → Nat) (a b c d e : Int32) (k : Nat) : Nat := if k < l then tb k else if k < l + 20 then ub (bs5 l (fun j => byt (nt (tb j))) a b c d e k) else 0
theorem tb5_ok {l : Nat} {tb : Nat → Nat} (T : Tb l tb) (hl : l + 20 ≤ 2000) (a b c d e : Int32) : Tb (l + 20) (tb5 l tb a b c d e) ∧ ∀ j, j < l + 20 → bs5 l (fun j => byt (nt (tb j))) a b c d e j = byt (nt (tb5 l tb a b c d e j)) := by
  refine ⟨⟨hl, fun k => ?_, fun k hk => ?_⟩, fun j hj => ?_⟩
  · unfold tb5
    split
    · exact T.2.1 k
    split
    · exact (ub_ok _).1
    · omega
  · unfold tb5
    rw [if_neg (by omega), if_neg (by omega)]
  · unfold tb5
    by_cases c1 : j < l
    · rw [if_pos c1]
      unfold bs5
      rw [if_pos c1]
    · rw [if_neg c1, if_pos hj, (ub_ok _).2, bs5_byt _ _ _ _ _ _ _ _ c1]
def tbb (l : Nat) (tb : Nat → Nat) (k : Nat) : Nat := if k < l then tb k else 0
theorem tbb_ok {l l' : Nat} {tb : Nat → Nat} (T : Tb l tb) (h : l' ≤ l) : Tb l' (tbb l' tb) ∧ ∀ j, j < l' → tbb l' tb j = tb j := by
  have := T.1
  refine ⟨⟨by omega, fun k => ?_, fun k hk => if_neg (by omega)⟩, fun j hj => if_pos hj⟩
  unfold tbb
  split
  · exact T.2.1 k
  · omega
theorem cI_tape {a n m k l l' : Nat} {g : Nat → aT} {sl : Nat → Option aT} {tb tb' : Nat → Nat} {pl pl' : Int32} {I I' : xI} (h : cI a n m k g sl l tb pl I) (hf : ∀ c j, ¬ c = 25 → ¬ (c = 24 ∧ j = 1) → ¬ (26 ≤ c ∧ c ≤ 31) → ¬ (c = 0 ∧ j = 11) → I' c j = I c j) (h1 : I' 24 1 = nt l') (h2 : ∀ j, j < l' → I' 25 j = byt (nt (tb' j))) (h0 : I' 0 11 = pl') : cI a n m k g sl l' tb' pl' I' := by
  obtain ⟨⟨g1, g2, g3⟩, _, ⟨g7, g8, g9⟩, g10, g11, g12⟩ := h
  refine ⟨⟨cMa_fr g1 (fun c j _ _ => hf c j (by omega) (by omega) (by omega) (by omega)), cHi_fr g2 (fun c j _ _ => hf c j (by omega) (by omega) (by omega) (by omega)), cSl_fr g3 (fun c j _ _ => hf c j (by omega) (by omega) (by omega) (by omega))⟩, ⟨h1, h2, h0⟩, ⟨g7, (hf 1 2 (by omega) (by omega) (by omega) (by omega)).trans g8, fun c j hc => ?_⟩, caX_fr g10 (fun c j hc => hf c j (by omega) (by omega) (by omega) (by omega)), cT_fr g11 (fun c j hc => hf c j (by omega) (by omega) (by omega) (by omega)), mK_fr g12 (fun j => hf 54 j (by omega) (by omega) (by omega) (by omega))⟩
  have := sNk_c hc
  rw [hf c j (by omega) (by omega) (by omega) (by omega)]; exact g9 c j hc
theorem rI_tape {n m k l l' : Nat} {g : Nat → aT} {sl : Nat → Option aT} {tb tb' : Nat → Nat} {pl pl' : Int32} {I I' : xI} {J J' : xJ} (h : rI n m k g sl l tb pl I J) (hf : ∀ c j, ¬ (62 ≤ c ∧ c ≤ 66) → ¬ c = 71 → ¬ (c = 61 ∧ (j = 2 ∨ j = 4 ∨ (10 ≤ j ∧ j ≤ 16) ∨ j = 19 ∨ j = 20)) → I' c j = I c j) (h1 : I' 61 2 = nt l') (h2 : ∀ j, j < l' → I' 62 j = byt (nt (tb' j))) (h0 : I' 61 16 = pl') (hK : hKy J') : rI n m k g sl l' tb' pl' I' J' := by
  obtain ⟨⟨g1, g2, g3, g4, g5⟩, _, ⟨g6, g7⟩, g8, g9, _⟩ := h
  have e : ∀ c, (c = 70 ∨ c = 73 ∨ c = 74) → I' c = I c := fun c h => funext fun j => hf c j (by omega) (by omega) (by omega)
  refine ⟨⟨(hf 61 17 (by omega) (by omega) (by omega)).trans g1, (hf 61 18 (by omega) (by omega) (by omega)).trans g2, ?_, rHi_fr g4 (fun c j hc => hf c j (by omega) (by omega) (by omega)), ?_⟩, ⟨h1, h2, h0⟩, ⟨rCa_fr g6 (fun c j hc => hf c j (by omega) (by omega) (by omega)), rbF_fr g7 (fun c j hc => hf c j (by omega) (by omega) (by omega))⟩, rT_fr g8 (fun j => hf 87 j (by omega) (by omega) (by omega)), rK_fr g9 (fun j => hf 88 j (by omega) (by omega) (by omega)), hK⟩
  · rw [e 70 (by omega)]; exact g3
  · rw [e 73 (by omega), e 74 (by omega)]; exact g5
theorem b_feed {a A n m k l : Nat} {g : Nat → aT} {sl : Nat → Option aT} {tb : Nat → Nat} {pl : Int32} {I : xI} {J : xJ} (ha : a ≤ A) (G : gI n m k g sl l tb) (hc : cI a n m k g sl l tb pl I) (hr : rI n m k g sl l tb pl I J) (x y z u v : Int32) : Bo A (f_X11_feed x y z u v) (f_X12_feed x y z u v) I J := by
  have T := G.2.2.2.2
  refine (cfeed_ok (J := J) (bs := fun j => byt (nt (tb j))) (a := x) (b := y) (c := z) (d := u) (e := v) ⟨hc.2.1.1, hc.2.1.2.1⟩ T.1).imp ?_
  rintro ⟨w, I1, J1⟩ ⟨rfl, q1, q2, q3⟩
  dsimp only at q1 q2 q3 ⊢
  have hr1 : rI n m k g sl l tb pl I1 J1 := rI_fr hr (fun c j hc => q3 c j (by omega) (by omega))
  refine (rfeed_ok (J := J1) (bs := fun j => byt (nt (tb j))) (a := x) (b := y) (c := z) (d := u) (e := v) ⟨hr1.2.1.1, hr1.2.1.2.1⟩ T.1).imp ?_
  rintro ⟨w', I2, J2⟩ ⟨rfl, p1, p2, p3⟩
  dsimp only at p1 p2 p3 ⊢
  refine ⟨by rw [q1, p1], ?_⟩
  by_cases c : l + 20 ≤ 2000
  · rw [if_pos c] at q2 p2
    obtain ⟨T', e'⟩ := tb5_ok T c x y z u v
    refine ⟨a, n, m, k, g, sl, l + 20, tb5 l tb x y z u v, pl, ha, ⟨G.1, G.2.1, G.2.2.1, G.2.2.2.1, T'⟩, ?_, ?_⟩
    · have : cI a n m k g sl (l + 20) (tb5 l tb x y z u v) pl I1 := cI_tape hc (fun c j h1 h2 _ _ => q3 c j h1 h2) q2.1 (fun j hj => (q2.2 j hj).trans (e' j hj)) ((q3 0 11 (by omega) (by omega)).trans hc.2.1.2.2)
      exact cI_fr this (fun c j hc => p3 c j (by omega) (by omega))
    · exact rI_tape hr1 (fun c j h1 _ h2 => p3 c j (by omega) (by omega)) p2.1 (fun j hj => (p2.2 j hj).trans (e' j hj)) ((p3 61 16 (by omega) (by omega)).trans hr1.2.1.2.2) hr1.2.2.2.2.2
  · rw [if_neg c] at q2 p2
    subst q2 p2
    exact ⟨a, n, m, k, g, sl, l, tb, pl, ha, G, hc, hr⟩
theorem b_back {a A n m k l : Nat} {g : Nat → aT} {sl : Nat → Option aT} {tb : Nat → Nat} {pl : Int32} {I : xI} {J : xJ} (ha : a ≤ A) (G : gI n m k g sl l tb) (hc : cI a n m k g sl l tb pl I) (hr : rI n m k g sl l tb pl I J) (x : Int32) : Bo A (f_X11_back x) (f_X12_back x) I J := by
  have T := G.2.2.2.2
  refine (cback_ok (J := J) (bs := fun j => byt (nt (tb j))) (x := x) ⟨hc.2.1.1, hc.2.1.2.1⟩ T.1).imp ?_
  rintro ⟨w, I1, J1⟩ ⟨rfl, q1, q2, q3⟩
  dsimp only at q1 q2 q3 ⊢
  have hr1 : rI n m k g sl l tb pl I1 J1 := rI_fr hr (fun c j hc => q3 c j (by omega))
  refine (rback_ok (J := J1) (bs := fun j => byt (nt (tb j))) (x := x) ⟨hr1.2.1.1, hr1.2.1.2.1⟩ T.1).imp ?_
  rintro ⟨w', I2, J2⟩ ⟨rfl, p1, p2, p3⟩
  dsimp only at p1 p2 p3 ⊢
  refine ⟨by rw [q1, p1], ?_⟩
  by_cases c : isS (l + 1) x = true
  · rw [if_pos c] at q2 p2
    obtain ⟨T', e'⟩ := tbb_ok (l' := l - x.toNatClampNeg) T (by omega)
    refine ⟨a, n, m, k, g, sl, l - x.toNatClampNeg, tbb (l - x.toNatClampNeg) tb, pl, ha, ⟨G.1, G.2.1, G.2.2.1, G.2.2.2.1, T'⟩, ?_, ?_⟩
    · have : cI a n m k g sl (l - x.toNatClampNeg) (tbb (l - x.toNatClampNeg) tb) pl I1 := cI_tape hc (fun c j _ h2 _ _ => q3 c j h2) q2.1 (fun j hj => (q2.2 j hj).trans (by rw [e' j hj])) ((q3 0 11 (by omega)).trans hc.2.1.2.2)
      exact cI_fr this (fun c j hc => p3 c j (by omega))
    · exact rI_tape hr1 (fun c j h1 _ h2 => p3 c j (by omega)) p2.1 (fun j hj => (p2.2 j hj).trans (by rw [e' j hj])) ((p3 61 16 (by omega)).trans hr1.2.1.2.2) hr1.2.2.2.2.2
  · rw [if_neg c] at q2 p2
    subst q2 p2
    exact ⟨a, n, m, k, g, sl, l, tb, pl, ha, G, hc, hr⟩
/-- another age: nothing that was seen is seen -/
theorem caX_void {a a' n m n' m' : Nat} {w w' : aT} {I I' : xI} (h : caX n m w I) (hs : ∀ c j, sNk c j = true → sOld a (I c j)) (ha : a < a') (ha' : a' < 2147483648) (h12 : I' 1 2 = nt a') (hf : ∀ c j, (32 ≤ c ∧ c ≤ 60) → I' c j = I c j) : caX n' m' w' I' := by
  have ne : ∀ c j, sNk c j = true → ¬ I' c j = I' 1 2 := by
    intro c j hc
    have := sNk_c hc
    rw [h12, hf c j this.1]
    exact sOld_ne (hs c j hc) ha ha'
  obtain ⟨g1, g2, g3, ⟨k, hk, hP, _⟩, g5, g6, g7⟩ := h
  refine ⟨fun e => absurd e (ne 32 4 rfl), fun e => absurd e (ne 36 8 rfl), fun e => absurd e (ne 36 13 rfl), ⟨k, hk, ?_, fun e => absurd e (ne 43 9 rfl)⟩, fun e => absurd e (ne 43 13 rfl), fun y hy e => absurd e (ne 60 y (by unfold sNk; simp)), fun e => absurd e (ne 32 7 rfl)⟩
  obtain ⟨p1, p2, p3⟩ := hP
  refine ⟨(hf 43 6 (by omega)).trans p1, (hf 43 5 (by omega)).trans p2, fun i q hq => ?_⟩
  rw [hf 44 i (by omega), hf 46 i (by omega), hf 45 i (by omega)]
  exact p3 i q hq
theorem cI_new {a a' n m k n' m' k' l : Nat} {g g' : Nat → aT} {sl sl' : Nat → Option aT} {tb : Nat → Nat} {pl : Int32} {I I' : xI} (h : cI a n m k g sl l tb pl I) (ha : a < a') (ha' : a' < 1000000000) (h12 : I' 1 2 = nt a') (hM : cMa n' m' (g' 0) (I' 1 0) (I' 1 1) (I' 2) (I' 3) (I' 4)) (hH : cHi n' m' k' g' (I' 5 5) (I' 5 6) (I' 6) (I' 7) (I' 8) (I' 9)) (hS : cSl n' m' sl' I') (hf : ∀ c j, ((32 ≤ c ∧ c ≤ 60) ∨ c = 25 ∨ (c = 24 ∧ j = 1) ∨ (c = 0 ∧ j = 11)) → I' c j = I c j) : cI a' n' m' k' g' sl' l tb pl I' := by
  obtain ⟨_, ⟨h4, h5, h6⟩, ⟨h7, h8, h9⟩, h10, h11, h12'⟩ := h
  refine ⟨⟨hM, hH, hS⟩, ⟨(hf 24 1 (by omega)).trans h4, fun j hj => (hf 25 j (by omega)).trans (h5 j hj), (hf 0 11 (by omega)).trans h6⟩, ⟨ha', h12, fun c j hc => ?_⟩, caX_void h10 h9 ha (by omega) h12 (fun c j hc => hf c j (by omega)), cT_fr h11 (fun c j hc => hf c j (by omega)), mK_fr h12' (fun j => hf 54 j (by omega))⟩
  have := sNk_c hc
  rw [hf c j (by omega)]; exact sOld_up (h9 c j hc) (by omega)
theorem rI_new {n m k n' m' k' l : Nat} {g g' : Nat → aT} {sl sl' : Nat → Option aT} {tb : Nat → Nat} {pl : Int32} {I I' : xI} {J : xJ} (h : rI n m k g sl l tb pl I J) (h17 : I' 61 17 = nt n') (h18 : I' 61 18 = nt m') (hM : rMa n' m' (g' 0) (I' 70) 0) (hH : rHi n' m' k' g' (I' 61 25) (I' 61 26) (I' 72)) (hS : rSl n' m' sl' (I' 73) (I' 74)) (h29 : I' 61 29 = 0) (h750 : I' 75 0 = 0) (h751 : I' 75 1 = 0) (hf : ∀ c j, (c = 62 ∨ c = 87 ∨ c = 88 ∨ (c = 61 ∧ (j = 2 ∨ j = 16))) → I' c j = I c j) : rI n' m' k' g' sl' l tb pl I' J := by
  obtain ⟨_, ⟨g6, g7, g8⟩, _, g9, g10, g11⟩ := h
  refine ⟨⟨h17, h18, hM, hH, hS⟩, ⟨(hf 61 2 (by omega)).trans g6, fun j hj => (hf 62 j (by omega)).trans (g7 j hj), (hf 61 16 (by omega)).trans g8⟩, ⟨fun e => absurd h29 e, fun y hy e => ?_⟩, rT_fr g9 (fun j => hf 87 j (by omega)), rK_fr g10 (fun j => hf 88 j (by omega)), g11⟩
  exfalso
  have : y = 0 ∨ y = 1 := by omega
  rcases this with rfl | rfl
  · exact e h750
  · exact e h751
