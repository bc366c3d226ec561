/-! what holds between calls: the class -/
def sOld (a : Nat) (x : Int32) : Prop := x = -1 ∨ ∃ b, b ≤ a ∧ x = nt b
def gI (n m k : Nat) (g : Nat → aT) (sl : Nat → Option aT) (l : Nat) (tb : Nat → Nat) : Prop := n ≤ 6 ∧ m ≤ 4 ∧ (∀ i, i ≤ k → Vd n m (g i)) ∧ (∀ q w, sl q = some w → Vd n m w) ∧ Tb l tb
def cI (a n m k : Nat) (g : Nat → aT) (sl : Nat → Option aT) (l : Nat) (tb : Nat → Nat) (pl : Int32) (I : xI) : Prop := (cMa n m (g 0) (I 1 0) (I 1 1) (I 2) (I 3) (I 4) ∧ cHi n m k g (I 5 5) (I 5 6) (I 6) (I 7) (I 8) (I 9) ∧ cSl n m sl I) ∧ (I 24 1 = nt l ∧ (∀ j, j < l → I 25 j = byt (nt (tb j))) ∧ I 0 11 = pl) ∧ (a < 1000000000 ∧ I 1 2 = nt a ∧ ∀ c j, sNk c j = true → sOld a (I c j)) ∧ caX n m (g 0) I ∧ cT I ∧ mK I
theorem cHi_fr {n m k : Nat} {g : Nat → aT} {I I' : xI} (h : cHi n m k g (I 5 5) (I 5 6) (I 6) (I 7) (I 8) (I 9)) (hf : ∀ c j, 5 ≤ c → c ≤ 9 → I' c j = I c j) : cHi n m k g (I' 5 5) (I' 5 6) (I' 6) (I' 7) (I' 8) (I' 9) := by
  have e : ∀ c, 5 ≤ c → c ≤ 9 → I' c = I c := fun c h1 h2 => funext fun j => hf c j h1 h2
  rw [e 5 (by omega) (by omega), e 6 (by omega) (by omega), e 7 (by omega) (by omega), e 8 (by omega) (by omega), e 9 (by omega) (by omega)]
  exact h
theorem caE_fr {n m : Nat} {w : aT} {I I' : xI} (h : caE n m w I) (hf : ∀ c j, ((c = 43 ∧ 10 ≤ j ∧ j ≤ 13) ∨ (c = 1 ∧ j = 2)) → I' c j = I c j) : caE n m w I' := by
  unfold caE
  rw [hf 43 10 (by omega), hf 43 11 (by omega), hf 43 12 (by omega), hf 43 13 (by omega), hf 1 2 (by omega)]
  exact h
theorem caF_fr {n m : Nat} {w : aT} {I I' : xI} (h : caF n m w I) (hf : ∀ c j, ((58 ≤ c ∧ c ≤ 60) ∨ (c = 1 ∧ j = 2)) → I' c j = I c j) : caF n m w I' := by
  have e58 : I' 58 = I 58 := funext fun j => hf 58 j (by omega)
  have e59 : I' 59 = I 59 := funext fun j => hf 59 j (by omega)
  intro y hy
  rw [e58, e59, hf 60 y (by omega), hf 1 2 (by omega)]
  exact h y hy
theorem caG_fr {n m : Nat} {w : aT} {I I' : xI} (h : caG n m w I) (hf : ∀ c j, (c = 35 ∨ (c = 32 ∧ (j = 6 ∨ j = 7)) ∨ (c = 1 ∧ j = 2)) → I' c j = I c j) : caG n m w I' := by
  have e35 : I' 35 = I 35 := funext fun j => hf 35 j (by omega)
  unfold caG
  rw [e35, hf 32 6 (by omega), hf 32 7 (by omega), hf 1 2 (by omega)]
  exact h
theorem cT_fr {I I' : xI} (h : cT I) (hf : ∀ c j, (c = 52 ∨ c = 53) → I' c j = I c j) : cT I' :=
  ⟨fun c hc => (hf 52 c (by omega)).trans (h.1 c hc), fun S hS => (hf 53 S (by omega)).trans (h.2 S hS)⟩
theorem mK_fr {I I' : xI} (h : mK I) (hf : ∀ j, I' 54 j = I 54 j) : mK I' := by
  intro R O h1 h2 h3 h4
  rw [hf]; exact h R O h1 h2 h3 h4
theorem caX_fr {n m : Nat} {w : aT} {I I' : xI} (h : caX n m w I) (hf : ∀ c j, ((32 ≤ c ∧ c ≤ 60) ∨ (c = 1 ∧ j = 2)) → I' c j = I c j) : caX n m w I' := by
  obtain ⟨g1, g2, g3, g4, g5, g6, g7⟩ := h
  exact ⟨caA_fr g1 (fun c j hc => hf c j (by omega)), caB_fr g2 (fun c j hc => hf c j (by omega)), caC_fr g3 (fun c j hc => hf c j (by omega)), caD_fr g4 (fun c j hc => hf c j (by omega)), caE_fr g5 (fun c j hc => hf c j (by omega)), caF_fr g6 (fun c j hc => hf c j (by omega)), caG_fr g7 (fun c j hc => hf c j (by omega))⟩
theorem sNk_c {c j : Nat} (h : sNk c j = true) : (32 ≤ c ∧ c ≤ 60) ∧ ¬ (c = 54 ∨ c = 55) := by
  unfold sNk at h
  rw [Bool.or_eq_true, Bool.or_eq_true, Bool.or_eq_true, Bool.and_eq_true, Bool.and_eq_true, Bool.and_eq_true] at h
  rcases h with ((h | h) | h) | h
  · have := of_decide_eq_true h.1; omega
  · have := of_decide_eq_true h.1; omega
  · have := of_decide_eq_true h.1; omega
  · have := of_decide_eq_true h; omega
/-- what the reference does leaves the class -/
theorem cI_fr {a n m k l : Nat} {g : Nat → aT} {sl : Nat → Option aT} {tb : Nat → Nat} {pl : Int32} {I I' : xI} (h : cI a n m k g sl l tb pl I) (hf : ∀ c j, c < 61 → I' c j = I c j) : cI a n m k g sl l tb pl I' := by
  obtain ⟨⟨h1, h2, h3⟩, ⟨h4, h5, h6⟩, ⟨h7, h8, h9⟩, h10, h11, h12⟩ := h
  refine ⟨⟨cMa_fr h1 (fun c j _ _ => hf c j (by omega)), cHi_fr h2 (fun c j _ _ => hf c j (by omega)), cSl_fr h3 (fun c j _ _ => hf c j (by omega))⟩, ⟨(hf 24 1 (by omega)).trans h4, fun j hj => (hf 25 j (by omega)).trans (h5 j hj), (hf 0 11 (by omega)).trans h6⟩, ⟨h7, (hf 1 2 (by omega)).trans h8, fun c j hc => ?_⟩, caX_fr h10 (fun c j hc => hf c j (by omega)), cT_fr h11 (fun c j hc => hf c j (by omega)), mK_fr h12 (fun j => hf 54 j (by omega))⟩
  have := sNk_c hc
  rw [hf c j (by omega)]; exact h9 c j hc
theorem sOld_up {a a' : Nat} {x : Int32} (h : sOld a x) (ha : a ≤ a') : sOld a' x := by
  rcases h with h | ⟨b, hb, h⟩
  · exact Or.inl h
  · exact Or.inr ⟨b, by omega, h⟩
theorem sOld_ne {a a' : Nat} {x : Int32} (h : sOld a x) (ha : a < a') (h' : a' < 2147483648) : ¬ x = nt a' := by
  rcases h with h | ⟨b, hb, h⟩
  · rw [h]; intro e
    have := nt_m1 h'
    rw [← e] at this
    exact absurd rfl (fun h2 : (-1 : Int32) = -1 => by rw [this] at h2; exact h2)
  · rw [h]; intro e
    have := nt_inj (by omega) h' e
    omega
/-- a question leaves what it asks about -/
theorem cI_q {a n m k l : Nat} {g : Nat → aT} {sl : Nat → Option aT} {tb : Nat → Nat} {pl : Int32} {I I' : xI} (h : cI a n m k g sl l tb pl I) (hx : SnX I I') (hf : ∀ c j, c ≤ 25 → I' c j = I c j) (hX : caX n m (g 0) I') (hT : cT I') (hM : mK I') : cI a n m k g sl l tb pl I' := by
  obtain ⟨⟨h1, h2, h3⟩, ⟨h4, h5, h6⟩, ⟨h7, h8, h9⟩, h10, h11, h12⟩ := h
  refine ⟨⟨cMa_fr h1 (fun c j _ _ => hf c j (by omega)), cHi_fr h2 (fun c j _ _ => hf c j (by omega)), cSl_fr h3 (fun c j _ _ => hf c j (by omega))⟩, ⟨(hf 24 1 (by omega)).trans h4, fun j hj => (hf 25 j (by omega)).trans (h5 j hj), (hf 0 11 (by omega)).trans h6⟩, ⟨h7, (hf 1 2 (by omega)).trans h8, fun c j hc => ?_⟩, hX, hT, hM⟩
  rcases hx.2 c j hc with e | e
  · rw [e]; exact h9 c j hc
  · rw [e]; exact Or.inr ⟨a, Nat.le_refl _, h8⟩
/-- what a call of the class gives -/
def qC (a n m k : Nat) (g : Nat → aT) (sl : Nat → Option aT) (l : Nat) (tb : Nat → Nat) (pl : Int32) (I : xI) (J : xJ) (v : Int32) (o : Int32 × xI × xJ) : Prop := o.2.2 = J ∧ o.1 = v ∧ cI a n m k g sl l tb pl o.2.1 ∧ ∀ c j, 61 ≤ c → o.2.1 c j = I c j
theorem k0 {a n m k l : Nat} {g : Nat → aT} {sl : Nat → Option aT} {tb : Nat → Nat} {pl : Int32} {I : xI} {J : xJ} {v : Int32} {x : Option (Int32 × xI × xJ)} (h : cI a n m k g sl l tb pl I) (e : x = some (v, I, J)) : Ok x (qC a n m k g sl l tb pl I J v) := ⟨_, e, rfl, rfl, h, fun _ _ _ => rfl⟩
theorem k1 {a n m k l : Nat} {g : Nat → aT} {sl : Nat → Option aT} {tb : Nat → Nat} {pl : Int32} {I : xI} {J : xJ} {v : Int32} {x : Option (Int32 × xI × xJ)} (h : cI a n m k g sl l tb pl I) (hs : SG (fun o => o.2.1) I x) (hq : Ok x (fun o => o.2.2 = J ∧ o.1 = v ∧ caA m (g 0) o.2.1 ∧ ∀ c j, ¬ pReg c j → o.2.1 c j = I c j)) : Ok x (qC a n m k g sl l tb pl I J v) := by
  obtain ⟨o, e, q1, q2, q3, q4⟩ := hq
  obtain ⟨g1, g2, g3, g4, g5, g6, g7⟩ := h.2.2.2.1
  refine ⟨o, e, q1, q2, cI_q h (hs o e) (fun c j hc => q4 c j (by unfold pReg; omega)) ⟨q3, caB_fr g2 ?_, caC_fr g3 ?_, caD_fr g4 ?_, caE_fr g5 ?_, caF_fr g6 ?_, caG_fr g7 ?_⟩ (cT_fr h.2.2.2.2.1 ?_) (mK_fr h.2.2.2.2.2 ?_), ?_⟩
  all_goals (intros; exact q4 _ _ (by unfold pReg; omega))
theorem k2 {a n m k l : Nat} {g : Nat → aT} {sl : Nat → Option aT} {tb : Nat → Nat} {pl : Int32} {I : xI} {J : xJ} {v : Int32} {x : Option (Int32 × xI × xJ)} (h : cI a n m k g sl l tb pl I) (hs : SG (fun o => o.2.1) I x) (hq : Ok x (fun o => o.2.2 = J ∧ o.1 = v ∧ caABC n m (g 0) o.2.1 ∧ ∀ c j, ¬ qReg c j → o.2.1 c j = I c j)) : Ok x (qC a n m k g sl l tb pl I J v) := by
  obtain ⟨o, e, q1, q2, ⟨q3, q5, q6⟩, q4⟩ := hq
  obtain ⟨g1, g2, g3, g4, g5, g6, g7⟩ := h.2.2.2.1
  refine ⟨o, e, q1, q2, cI_q h (hs o e) (fun c j hc => q4 c j (by unfold qReg pReg; omega)) ⟨q3, q5, q6, caD_fr g4 ?_, caE_fr g5 ?_, caF_fr g6 ?_, caG_fr g7 ?_⟩ (cT_fr h.2.2.2.2.1 ?_) (mK_fr h.2.2.2.2.2 ?_), ?_⟩
  all_goals (intros; exact q4 _ _ (by unfold qReg pReg; omega))
theorem k3 {a n m k l : Nat} {g : Nat → aT} {sl : Nat → Option aT} {tb : Nat → Nat} {pl : Int32} {I : xI} {J : xJ} {v : Int32} {x : Option (Int32 × xI × xJ)} (h : cI a n m k g sl l tb pl I) (hs : SG (fun o => o.2.1) I x) (hq : Ok x (fun o => o.2.2 = J ∧ o.1 = v ∧ caA m (g 0) o.2.1 ∧ caD n m (g 0) o.2.1 ∧ ∀ c j, ¬ tReg c j → o.2.1 c j = I c j)) : Ok x (qC a n m k g sl l tb pl I J v) := by
  obtain ⟨o, e, q1, q2, q3, q5, q4⟩ := hq
  obtain ⟨g1, g2, g3, g4, g5, g6, g7⟩ := h.2.2.2.1
  refine ⟨o, e, q1, q2, cI_q h (hs o e) (fun c j hc => q4 c j (by unfold tReg pReg; omega)) ⟨q3, caB_fr g2 ?_, caC_fr g3 ?_, q5, caE_fr g5 ?_, caF_fr g6 ?_, caG_fr g7 ?_⟩ (cT_fr h.2.2.2.2.1 ?_) (mK_fr h.2.2.2.2.2 ?_), ?_⟩
  all_goals (intros; exact q4 _ _ (by unfold tReg pReg; omega))
theorem k4 {a n m k l : Nat} {g : Nat → aT} {sl : Nat → Option aT} {tb : Nat → Nat} {pl : Int32} {I : xI} {J : xJ} {v : Int32} {x : Option (Int32 × xI × xJ)} (h : cI a n m k g sl l tb pl I) (hs : SG (fun o => o.2.1) I x) (hq : Ok x (fun o => o.2.2 = J ∧ o.1 = v ∧ caA m (g 0) o.2.1 ∧ caD n m (g 0) o.2.1 ∧ caE n m (g 0) o.2.1 ∧ ∀ c j, ¬ tReg c j → ¬ (c = 43 ∧ (j = 10 ∨ j = 11 ∨ j = 12 ∨ j = 13)) → o.2.1 c j = I c j)) : Ok x (qC a n m k g sl l tb pl I J v) := by
  obtain ⟨o, e, q1, q2, q3, q5, q6, q4⟩ := hq
  obtain ⟨g1, g2, g3, g4, g5, g6, g7⟩ := h.2.2.2.1
  refine ⟨o, e, q1, q2, cI_q h (hs o e) (fun c j hc => q4 c j (by unfold tReg pReg; omega) (by omega)) ⟨q3, caB_fr g2 ?_, caC_fr g3 ?_, q5, q6, caF_fr g6 ?_, caG_fr g7 ?_⟩ (cT_fr h.2.2.2.2.1 ?_) (mK_fr h.2.2.2.2.2 ?_), ?_⟩
  all_goals (intros; exact q4 _ _ (by unfold tReg pReg; omega) (by omega))
theorem k5 {a n m k l : Nat} {g : Nat → aT} {sl : Nat → Option aT} {tb : Nat → Nat} {pl : Int32} {I : xI} {J : xJ} {v : Int32} {x : Option (Int32 × xI × xJ)} (h : cI a n m k g sl l tb pl I) (hs : SG (fun o => o.2.1) I x) (hq : Ok x (fun o => o.2.2 = J ∧ o.1 = v ∧ caA m (g 0) o.2.1 ∧ ∀ c j, ¬ hReg c j → o.2.1 c j = I c j)) : Ok x (qC a n m k g sl l tb pl I J v) := by
  obtain ⟨o, e, q1, q2, q3, q4⟩ := hq
  obtain ⟨g1, g2, g3, g4, g5, g6, g7⟩ := h.2.2.2.1
  refine ⟨o, e, q1, q2, cI_q h (hs o e) (fun c j hc => q4 c j (by unfold hReg pReg; omega)) ⟨q3, caB_fr g2 ?_, caC_fr g3 ?_, caD_fr g4 ?_, caE_fr g5 ?_, caF_fr g6 ?_, caG_fr g7 ?_⟩ (cT_fr h.2.2.2.2.1 ?_) (mK_fr h.2.2.2.2.2 ?_), ?_⟩
  all_goals (intros; exact q4 _ _ (by unfold hReg pReg; omega))
theorem k6 {a n m k l : Nat} {g : Nat → aT} {sl : Nat → Option aT} {tb : Nat → Nat} {pl : Int32} {I : xI} {J : xJ} {v : Int32} {x : Option (Int32 × xI × xJ)} (h : cI a n m k g sl l tb pl I) (hs : SG (fun o => o.2.1) I x) (hq : Ok x (fun o => o.2.2 = J ∧ o.1 = v ∧ mK o.2.1 ∧ ∀ c j, ¬ zReg c j → o.2.1 c j = I c j)) : Ok x (qC a n m k g sl l tb pl I J v) := by
  obtain ⟨o, e, q1, q2, q3, q4⟩ := hq
  obtain ⟨g1, g2, g3, g4, g5, g6, g7⟩ := h.2.2.2.1
  refine ⟨o, e, q1, q2, cI_q h (hs o e) (fun c j hc => q4 c j (by unfold zReg; omega)) ⟨caA_fr g1 ?_, caB_fr g2 ?_, caC_fr g3 ?_, caD_fr g4 ?_, caE_fr g5 ?_, caF_fr g6 ?_, caG_fr g7 ?_⟩ (cT_fr h.2.2.2.2.1 ?_) q3, ?_⟩
  all_goals (intros; exact q4 _ _ (by unfold zReg; omega))
theorem k7 {a n m k l : Nat} {g : Nat → aT} {sl : Nat → Option aT} {tb : Nat → Nat} {pl : Int32} {I : xI} {J : xJ} {v : Int32} {x : Option (Int32 × xI × xJ)} (h : cI a n m k g sl l tb pl I) (hs : SG (fun o => o.2.1) I x) (hq : Ok x (fun o => o.2.2 = J ∧ o.1 = v ∧ caA m (g 0) o.2.1 ∧ mK o.2.1 ∧ caF n m (g 0) o.2.1 ∧ ∀ c j, ¬ bgReg c j → o.2.1 c j = I c j)) : Ok x (qC a n m k g sl l tb pl I J v) := by
  obtain ⟨o, e, q1, q2, q3, q5, q6, q4⟩ := hq
  obtain ⟨g1, g2, g3, g4, g5, g6, g7⟩ := h.2.2.2.1
  refine ⟨o, e, q1, q2, cI_q h (hs o e) (fun c j hc => q4 c j (by unfold bgReg pReg zReg; omega)) ⟨q3, caB_fr g2 ?_, caC_fr g3 ?_, caD_fr g4 ?_, caE_fr g5 ?_, q6, caG_fr g7 ?_⟩ (cT_fr h.2.2.2.2.1 ?_) q5, ?_⟩
  all_goals (intros; exact q4 _ _ (by unfold bgReg pReg zReg; omega))
theorem k8 {a n m k l : Nat} {g : Nat → aT} {sl : Nat → Option aT} {tb : Nat → Nat} {pl : Int32} {I : xI} {J : xJ} {v : Int32} {x : Option (Int32 × xI × xJ)} (h : cI a n m k g sl l tb pl I) (hs : SG (fun o => o.2.1) I x) (hq : Ok x (fun o => o.2.2 = J ∧ o.1 = v ∧ caA m (g 0) o.2.1 ∧ caG n m (g 0) o.2.1 ∧ ∀ c j, ¬ (pReg c j ∨ wReg c j) → o.2.1 c j = I c j)) : Ok x (qC a n m k g sl l tb pl I J v) := by
  obtain ⟨o, e, q1, q2, q3, q5, q4⟩ := hq
  obtain ⟨g1, g2, g3, g4, g5, g6, g7⟩ := h.2.2.2.1
  refine ⟨o, e, q1, q2, cI_q h (hs o e) (fun c j hc => q4 c j (by unfold pReg wReg; omega)) ⟨q3, caB_fr g2 ?_, caC_fr g3 ?_, caD_fr g4 ?_, caE_fr g5 ?_, caF_fr g6 ?_, q5⟩ (cT_fr h.2.2.2.2.1 ?_) (mK_fr h.2.2.2.2.2 ?_), ?_⟩
  all_goals (intros; exact q4 _ _ (by unfold pReg wReg; omega))
theorem k9 {a n m k l : Nat} {g : Nat → aT} {sl : Nat → Option aT} {tb : Nat → Nat} {pl : Int32} {I : xI} {J : xJ} {v : Int32} {x : Option (Int32 × xI × xJ)} (h : cI a n m k g sl l tb pl I) (hs : SG (fun o => o.2.1) I x) (hq : Ok x (cPost n m (g 0) I J v)) : Ok x (qC a n m k g sl l tb pl I J v) := by
  obtain ⟨o, e, q1, q2, ⟨q3, q5, q6⟩, q7, q4⟩ := hq
  obtain ⟨g1, g2, g3, g4, g5, g6, g7⟩ := h.2.2.2.1
  refine ⟨o, e, q1, q2, cI_q h (hs o e) (fun c j hc => q4 c j (by unfold qtReg qReg tReg pReg; omega)) ⟨q3, q5, q6, q7, caE_fr g5 ?_, caF_fr g6 ?_, caG_fr g7 ?_⟩ (cT_fr h.2.2.2.2.1 ?_) (mK_fr h.2.2.2.2.2 ?_), ?_⟩
  all_goals (intros; exact q4 _ _ (by unfold qtReg qReg tReg pReg; omega))
