/-! what holds between calls: the reference -/
def rI (n m k : Nat) (g : Nat → aT) (sl : Nat → Option aT) (l : Nat) (tb : Nat → Nat) (pl : Int32) (I : xI) (J : xJ) : Prop := (I 61 17 = nt n ∧ I 61 18 = nt m ∧ rMa n m (g 0) (I 70) 0 ∧ rHi n m k g (I 61 25) (I 61 26) (I 72) ∧ rSl n m sl (I 73) (I 74)) ∧ (I 61 2 = nt l ∧ (∀ j, j < l → I 62 j = byt (nt (tb j))) ∧ I 61 16 = pl) ∧ (rCa n m (g 0) I ∧ rbF n m (g 0) I) ∧ rT I ∧ rK I ∧ hKy J
theorem rCa_fr {n m : Nat} {w : aT} {I I' : xI} (h : rCa n m w I) (hf : ∀ c j, ((76 ≤ c ∧ c ≤ 79) ∨ (81 ≤ c ∧ c ≤ 85) ∨ (c = 61 ∧ (j = 29 ∨ j = 33 ∨ j = 35 ∨ j = 37 ∨ j = 40))) → I' c j = I c j) : rCa n m w I' := by
  have e : ∀ c, ((76 ≤ c ∧ c ≤ 79) ∨ (81 ≤ c ∧ c ≤ 85)) → I' c = I c := fun c h => funext fun j => hf c j (by omega)
  unfold rCa rKn
  rw [e 76 (by omega), e 77 (by omega), e 78 (by omega), e 79 (by omega), e 81 (by omega), e 82 (by omega), e 83 (by omega), e 84 (by omega), e 85 (by omega), hf 61 29 (by omega), hf 61 33 (by omega), hf 61 35 (by omega), hf 61 37 (by omega), hf 61 40 (by omega)]
  exact h
theorem rbF_fr {n m : Nat} {w : aT} {I I' : xI} (h : rbF n m w I) (hf : ∀ c j, ((c = 75 ∧ j < 2) ∨ c = 92 ∨ c = 93) → I' c j = I c j) : rbF n m w I' := by
  have e92 : I' 92 = I 92 := funext fun j => hf 92 j (by omega)
  have e93 : I' 93 = I 93 := funext fun j => hf 93 j (by omega)
  intro y hy
  rw [e92, e93, hf 75 y (by omega)]
  exact h y hy
theorem rT_fr {I I' : xI} (h : rT I) (hf : ∀ j, I' 87 j = I 87 j) : rT I' := fun c hc => (hf c).trans (h c hc)
theorem rK_fr {I I' : xI} (h : rK I) (hf : ∀ j, I' 88 j = I 88 j) : rK I' := by
  intro R O h1 h2 h3
  rw [hf]; exact h R O h1 h2 h3
theorem rHi_fr {n m k : Nat} {g : Nat → aT} {I I' : xI} (h : rHi n m k g (I 61 25) (I 61 26) (I 72)) (hf : ∀ c j, (c = 72 ∨ (c = 61 ∧ (j = 25 ∨ j = 26))) → I' c j = I c j) : rHi n m k g (I' 61 25) (I' 61 26) (I' 72) := by
  have e : I' 72 = I 72 := funext fun j => hf 72 j (by omega)
  rw [e, hf 61 25 (by omega), hf 61 26 (by omega)]
  exact h
/-- the cells that say what the machine is -/
def rSt (c j : Nat) : Prop := c = 62 ∨ c = 70 ∨ c = 72 ∨ c = 73 ∨ c = 74 ∨ (c = 61 ∧ (j = 2 ∨ j = 16 ∨ j = 17 ∨ j = 18 ∨ j = 25 ∨ j = 26))
theorem rI_q {n m k l : Nat} {g : Nat → aT} {sl : Nat → Option aT} {tb : Nat → Nat} {pl : Int32} {I I' : xI} {J : xJ} (h : rI n m k g sl l tb pl I J) (hf : ∀ c j, rSt c j → I' c j = I c j) (hC : rCa n m (g 0) I') (hB : rbF n m (g 0) I') (hT : rT I') (hK : rK I') : rI n m k g sl l tb pl I' J := by
  obtain ⟨⟨h1, h2, h3, h4, h5⟩, ⟨h6, h7, h8⟩, _, _, _, h9⟩ := h
  have e : ∀ c, (c = 70 ∨ c = 73 ∨ c = 74) → I' c = I c := fun c h => funext fun j => hf c j (by unfold rSt; omega)
  refine ⟨⟨(hf 61 17 (by unfold rSt; omega)).trans h1, (hf 61 18 (by unfold rSt; omega)).trans h2, ?_, rHi_fr h4 (fun c j hc => hf c j (by unfold rSt; omega)), ?_⟩, ⟨(hf 61 2 (by unfold rSt; omega)).trans h6, fun j hj => (hf 62 j (by unfold rSt; omega)).trans (h7 j hj), (hf 61 16 (by unfold rSt; omega)).trans h8⟩, ⟨hC, hB⟩, hT, hK, h9⟩
  · rw [e 70 (by omega)]; exact h3
  · rw [e 73 (by omega), e 74 (by omega)]; exact h5
/-- what the class does leaves the reference -/
theorem rI_fr {n m k l : Nat} {g : Nat → aT} {sl : Nat → Option aT} {tb : Nat → Nat} {pl : Int32} {I I' : xI} {J : xJ} (h : rI n m k g sl l tb pl I J) (hf : ∀ c j, 61 ≤ c → I' c j = I c j) : rI n m k g sl l tb pl I' J :=
  rI_q h (fun c j hc => hf c j (by unfold rSt at hc; omega)) (rCa_fr h.2.2.1.1 (fun c j hc => hf c j (by omega))) (rbF_fr h.2.2.1.2 (fun c j hc => hf c j (by omega))) (rT_fr h.2.2.2.1 (fun j => hf 87 j (by omega))) (rK_fr h.2.2.2.2.1 (fun j => hf 88 j (by omega)))
/-- what a call of the reference gives -/
def qR (n m k : Nat) (g : Nat → aT) (sl : Nat → Option aT) (l : Nat) (tb : Nat → Nat) (pl : Int32) (I : xI) (v : Int32) (o : Int32 × xI × xJ) : Prop := o.1 = v ∧ rI n m k g sl l tb pl o.2.1 o.2.2 ∧ ∀ c j, c < 61 → o.2.1 c j = I c j
theorem r0 {n m k l : Nat} {g : Nat → aT} {sl : Nat → Option aT} {tb : Nat → Nat} {pl : Int32} {I : xI} {J : xJ} {v : Int32} {x : Option (Int32 × xI × xJ)} (h : rI n m k g sl l tb pl I J) (e : x = some (v, I, J)) : Ok x (qR n m k g sl l tb pl I v) := ⟨_, e, rfl, h, fun _ _ _ => rfl⟩
theorem r1 {n m k l : Nat} {g : Nat → aT} {sl : Nat → Option aT} {tb : Nat → Nat} {pl : Int32} {I : xI} {J : xJ} {v : Int32} {x : Option (Int32 × xI × xJ)} (h : rI n m k g sl l tb pl I J) (hq : Ok x (fun o => o.2.2 = J ∧ o.1 = v ∧ rCa n m (g 0) o.2.1 ∧ ∀ c j, ¬ kReg c j → o.2.1 c j = I c j)) : Ok x (qR n m k g sl l tb pl I v) := by
  obtain ⟨o, e, q1, q2, q3, q4⟩ := hq
  refine ⟨o, e, q2, ?_, fun c j hc => q4 c j (by unfold kReg; omega)⟩
  rw [q1]
  exact rI_q h (fun c j hc => q4 c j (by unfold rSt at hc; unfold kReg; omega)) q3 (rbF_fr h.2.2.1.2 (fun c j hc => q4 c j (by unfold kReg; omega))) (rT_fr h.2.2.2.1 (fun j => q4 87 j (by unfold kReg; omega))) (rK_fr h.2.2.2.2.1 (fun j => q4 88 j (by unfold kReg; omega)))
theorem r2 {n m k l : Nat} {g : Nat → aT} {sl : Nat → Option aT} {tb : Nat → Nat} {pl : Int32} {I : xI} {J : xJ} {v : Int32} {x : Option (Int32 × xI × xJ)} (h : rI n m k g sl l tb pl I J) (hq : Ok x (fun o => o.2.2 = J ∧ o.1 = v ∧ ∀ c j, ¬ c = 86 → o.2.1 c j = I c j)) : Ok x (qR n m k g sl l tb pl I v) := by
  obtain ⟨o, e, q1, q2, q4⟩ := hq
  refine ⟨o, e, q2, ?_, fun c j hc => q4 c j (by omega)⟩
  rw [q1]
  exact rI_q h (fun c j hc => q4 c j (by unfold rSt at hc; omega)) (rCa_fr h.2.2.1.1 (fun c j hc => q4 c j (by omega))) (rbF_fr h.2.2.1.2 (fun c j hc => q4 c j (by omega))) (rT_fr h.2.2.2.1 (fun j => q4 87 j (by omega))) (rK_fr h.2.2.2.2.1 (fun j => q4 88 j (by omega)))
theorem r3 {n m k l : Nat} {g : Nat → aT} {sl : Nat → Option aT} {tb : Nat → Nat} {pl : Int32} {I : xI} {J : xJ} {v : Int32} {x : Option (Int32 × xI × xJ)} (h : rI n m k g sl l tb pl I J) (hq : Ok x (fun o => o.2.2 = J ∧ o.1 = v ∧ rK o.2.1 ∧ ∀ a j, ¬ cReg a j → o.2.1 a j = I a j)) : Ok x (qR n m k g sl l tb pl I v) := by
  obtain ⟨o, e, q1, q2, q3, q4⟩ := hq
  refine ⟨o, e, q2, ?_, fun c j hc => q4 c j (by unfold cReg; omega)⟩
  rw [q1]
  exact rI_q h (fun c j hc => q4 c j (by unfold rSt at hc; unfold cReg; omega)) (rCa_fr h.2.2.1.1 (fun c j hc => q4 c j (by unfold cReg; omega))) (rbF_fr h.2.2.1.2 (fun c j hc => q4 c j (by unfold cReg; omega))) (rT_fr h.2.2.2.1 (fun j => q4 87 j (by unfold cReg; omega))) q3
theorem r4 {n m k l : Nat} {g : Nat → aT} {sl : Nat → Option aT} {tb : Nat → Nat} {pl : Int32} {I : xI} {J : xJ} {v : Int32} {x : Option (Int32 × xI × xJ)} (h : rI n m k g sl l tb pl I J) (hq : Ok x (fun o => o.2.2 = J ∧ o.1 = v ∧ rK o.2.1 ∧ rbF n m (g 0) o.2.1 ∧ ∀ a j, ¬ rbReg a j → o.2.1 a j = I a j)) : Ok x (qR n m k g sl l tb pl I v) := by
  obtain ⟨o, e, q1, q2, q3, q5, q4⟩ := hq
  refine ⟨o, e, q2, ?_, fun c j hc => q4 c j (by unfold rbReg; omega)⟩
  rw [q1]
  exact rI_q h (fun c j hc => q4 c j (by unfold rSt at hc; unfold rbReg; omega)) (rCa_fr h.2.2.1.1 (fun c j hc => q4 c j (by unfold rbReg; omega))) q5 (rT_fr h.2.2.2.1 (fun j => q4 87 j (by unfold rbReg; omega))) q3
/-- both -/
def LI (A : Nat) (I : xI) (J : xJ) : Prop := ∃ a n m k g sl l tb pl, a ≤ A ∧ gI n m k g sl l tb ∧ cI a n m k g sl l tb pl I ∧ rI n m k g sl l tb pl I J
/-- a call of both: the answers are one, and all holds again -/
def Bo (A : Nat) (f h : xI → xJ → Option (Int32 × xI × xJ)) (I : xI) (J : xJ) : Prop := Ok (f I J) (fun o => Ok (h o.2.1 o.2.2) (fun p => o.1 = p.1 ∧ LI A p.2.1 p.2.2))
theorem bo_q {a A n m k l : Nat} {g : Nat → aT} {sl : Nat → Option aT} {tb : Nat → Nat} {pl : Int32} {I : xI} {J : xJ} {v : Int32} {f h : xI → xJ → Option (Int32 × xI × xJ)} (ha : a ≤ A) (G : gI n m k g sl l tb) (hr : rI n m k g sl l tb pl I J) (h1 : Ok (f I J) (qC a n m k g sl l tb pl I J v)) (h2 : ∀ I', rI n m k g sl l tb pl I' J → Ok (h I' J) (qR n m k g sl l tb pl I' v)) : Bo A f h I J := by
  refine h1.imp ?_
  rintro ⟨w, I1, J1⟩ ⟨rfl, q2, q3, q4⟩
  dsimp only at q2 q3 q4 ⊢
  refine (h2 I1 (rI_fr hr q4)).imp ?_
  rintro ⟨w', I2, J2⟩ ⟨p1, p2, p3⟩
  exact ⟨by rw [q2]; exact p1.symm, a, n, m, k, g, sl, l, tb, pl, ha, G, cI_fr q3 p3, p2⟩
