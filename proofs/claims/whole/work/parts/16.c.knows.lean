/-! all that the reference knows of a machine -/
def rKn (n m : Nat) (w : aT) (I : xI) : Prop := cR (rd m w) (I 76) ∧ (I 61 33 = nt (cls n m w).length ∧ Ls (cls n m w) (I 77)) ∧ (I 61 35 = nt (grs n m w).length ∧ Ls (grs n m w) (I 78)) ∧ cFw n m w (I 61 37) (I 79) ∧ (∀ s, s < n → I 81 s = mt n m w s) ∧ I 61 40 = nt (pts n).length ∧ rPt n m w (pts n).length (I 82) (I 83) (I 84) (I 85)
def kReg (a j : Nat) : Prop := (76 ≤ a ∧ a ≤ 85) ∨ (a = 61 ∧ (j = 29 ∨ j = 33 ∨ j = 35 ∨ j = 37 ∨ j = 40))
theorem knows_ok {n m : Nat} {w : aT} {I : xI} {J : xJ} (hn : n ≤ 6) (hm : m ≤ 4) (V : Vd n m w) (h0 : I 61 17 = nt n) (h1 : I 61 18 = nt m) (h : rMa n m w (I 70) 0) (hc : ¬ I 61 29 = 0 → rKn n m w I ∧ I 61 29 = 1) : Ok (f_X12_knows I J) (fun o => o.2.2 = J ∧ rKn n m w o.2.1 ∧ o.2.1 61 29 = 1 ∧ ∀ c j, ¬ kReg c j → o.2.1 c j = I c j) := by
  unfold f_X12_knows f_X12_knows_0
  by_cases hk : I 61 29 = 0
  · rw [if_pos hk]
    unfold f_X12_knows_2
    apply ok_bind
    refine (finds_ok hn hm V (I := xup I 61 29 1) (by rw [xup_j _ _ _ _ (by omega)]; exact h0) (by rw [xup_j _ _ _ _ (by omega)]; exact h1) (by rw [xup_b _ _ _ _ (by omega)]; exact h)).imp ?_
    rintro ⟨_, I1, J1⟩ ⟨rfl, a1, a2⟩
    dsimp only at a1 a2 ⊢
    have f1 : ∀ c j, ¬ kReg c j → I1 c j = I c j := by
      intro c j hr
      unfold kReg at hr
      rw [a2 c j (by omega), xup_no _ _ _ _ (by omega)]
    have k1 : I1 61 29 = 1 := by rw [a2 61 29 (by omega), xup_at]
    have b0 : I1 61 17 = nt n := (f1 61 17 (by unfold kReg; omega)).trans h0
    have b1 : I1 61 18 = nt m := (f1 61 18 (by unfold kReg; omega)).trans h1
    have b70 : I1 70 = I 70 := funext fun j => f1 70 j (by unfold kReg; omega)
    have bM : rMa n m w (I1 70) 0 := by rw [b70]; exact h
    unfold f_X12_knows_3
    apply ok_bind
    refine (lists_ok hn V b0 a1).imp ?_
    rintro ⟨_, I2, J2⟩ ⟨rfl, c1, c2, c3, c4, c5⟩
    dsimp only at c1 c2 c3 c4 c5 ⊢
    have d0 : I2 61 17 = nt n := (c5 61 17 (by omega) (by omega) (by omega)).trans b0
    have d1 : I2 61 18 = nt m := (c5 61 18 (by omega) (by omega) (by omega)).trans b1
    have d70 : I2 70 = I1 70 := funext fun j => c5 70 j (by omega) (by omega) (by omega)
    have dM : rMa n m w (I2 70) 0 := by rw [d70]; exact bM
    unfold f_X12_knows_4
    apply ok_bind
    refine (laysFewest_ok hn hm V d0 d1 dM c1 c2).imp ?_
    rintro ⟨_, I3, J3⟩ ⟨rfl, e1, k, p, e2, e3, e4, e5⟩
    dsimp only at e1 e4 e5 ⊢
    have eF : cFw n m w (I3 61 37) (I3 79) := cFw_of e2 e3 e4 e5
    have g0 : I3 61 17 = nt n := (e1 61 17 (by omega) (by omega) (by omega)).trans d0
    have g1 : I3 61 18 = nt m := (e1 61 18 (by omega) (by omega) (by omega)).trans d1
    have g70 : I3 70 = I2 70 := funext fun j => e1 70 j (by omega) (by omega) (by omega)
    have gM : rMa n m w (I3 70) 0 := by rw [g70]; exact dM
    unfold f_X12_knows_5
    apply ok_bind
    refine (laysMet_ok hn hm V g0 g1 gM eF).imp ?_
    rintro ⟨_, I4, J4⟩ ⟨rfl, i1, i2⟩
    dsimp only at i1 i2 ⊢
    have l0 : I4 61 17 = nt n := (i2 61 17 (by omega)).trans g0
    have l1 : I4 61 18 = nt m := (i2 61 18 (by omega)).trans g1
    have l70 : I4 70 = I3 70 := funext fun j => i2 70 j (by omega)
    have lM : rMa n m w (I4 70) 0 := by rw [l70]; exact gM
    unfold f_X12_knows_6
    apply ok_bind
    refine (listsPart_ok hn hm V l0 l1 lM).imp ?_
    rintro ⟨_, I5, J5⟩ ⟨rfl, m1, m2, m3⟩
    dsimp only at m1 m2 m3 ⊢
    refine ok_some ⟨rfl, ⟨?_, ⟨?_, ?_⟩, ⟨?_, ?_⟩, ?_, ?_, m1, m2⟩, ?_, ?_⟩
    · have : I5 76 = I1 76 := by
        funext j
        rw [m3 76 j (by omega) (by omega) (by omega) (by omega) (by omega), i2 76 j (by omega), e1 76 j (by omega) (by omega) (by omega), c5 76 j (by omega) (by omega) (by omega)]
      show cR (rd m w) (I5 76)
      rw [this]; exact a1
    · show I5 61 33 = _
      rw [m3 61 33 (by omega) (by omega) (by omega) (by omega) (by omega), i2 61 33 (by omega), e1 61 33 (by omega) (by omega) (by omega)]; exact c1
    · have : I5 77 = I2 77 := by
        funext j
        rw [m3 77 j (by omega) (by omega) (by omega) (by omega) (by omega), i2 77 j (by omega), e1 77 j (by omega) (by omega) (by omega)]
      show Ls _ (I5 77)
      rw [this]; exact c2
    · show I5 61 35 = _
      rw [m3 61 35 (by omega) (by omega) (by omega) (by omega) (by omega), i2 61 35 (by omega), e1 61 35 (by omega) (by omega) (by omega)]; exact c3
    · have : I5 78 = I2 78 := by
        funext j
        rw [m3 78 j (by omega) (by omega) (by omega) (by omega) (by omega), i2 78 j (by omega), e1 78 j (by omega) (by omega) (by omega)]
      show Ls _ (I5 78)
      rw [this]; exact c4
    · have t1 : I5 61 37 = I3 61 37 := by
        rw [m3 61 37 (by omega) (by omega) (by omega) (by omega) (by omega), i2 61 37 (by omega)]
      have t2 : I5 79 = I3 79 := by
        funext j
        rw [m3 79 j (by omega) (by omega) (by omega) (by omega) (by omega), i2 79 j (by omega)]
      show cFw n m w (I5 61 37) (I5 79)
      rw [t1, t2]; exact eF
    · intro s hs
      show I5 81 s = _
      rw [m3 81 s (by omega) (by omega) (by omega) (by omega) (by omega)]; exact i1 s hs
    · show I5 61 29 = 1
      rw [m3 61 29 (by omega) (by omega) (by omega) (by omega) (by omega), i2 61 29 (by omega), e1 61 29 (by omega) (by omega) (by omega), c5 61 29 (by omega) (by omega) (by omega)]; exact k1
    · intro c j hr
      have hr' := hr
      unfold kReg at hr
      show I5 c j = I c j
      rw [m3 c j (by omega) (by omega) (by omega) (by omega) (by omega), i2 c j (by omega), e1 c j (by omega) (by omega) (by omega), c5 c j (by omega) (by omega) (by omega)]; exact f1 c j hr'
  · rw [if_neg hk]
    exact ok_some ⟨rfl, (hc hk).1, (hc hk).2, fun _ _ _ => rfl⟩
