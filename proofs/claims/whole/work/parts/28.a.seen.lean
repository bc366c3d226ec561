/-! what was seen is old or now -/
def sNk (c j : Nat) : Bool := (decide (c = 32) && (decide (j = 4) || decide (j = 7))) || (decide (c = 36) && (decide (j = 8) || decide (j = 13))) || (decide (c = 43) && (decide (j = 9) || decide (j = 13))) || decide (c = 60)
def sCk (c : Nat) : Bool := !(decide (c = 1) || decide (c = 32) || decide (c = 36) || decide (c = 43) || decide (c = 60))
def SnX (I I' : xI) : Prop := I' 1 2 = I 1 2 ∧ ∀ c j, sNk c j = true → I' c j = I c j ∨ I' c j = I 1 2
theorem sx_rf {I : xI} : SnX I I := ⟨rfl, fun _ _ _ => Or.inl rfl⟩
theorem sx_tr {I I1 I2 : xI} (h : SnX I I1) (g : SnX I1 I2) : SnX I I2 := by
  refine ⟨g.1.trans h.1, fun c j hc => ?_⟩
  rcases g.2 c j hc with e | e
  · rw [e]; exact h.2 c j hc
  · rw [e, h.1]; exact Or.inr rfl
theorem sx_up {I I1 : xI} {c j : Nat} {v : Int32} (h : SnX I I1) (hc : (sNk c j || (decide (c = 1) && decide (j = 2))) = false) : SnX I (xup I1 c j v) := by
  have hne : ∀ a b, (a = 1 ∧ b = 2) ∨ sNk a b = true → ¬ (a = c ∧ b = j) := by
    rintro a b hab ⟨rfl, rfl⟩
    rw [Bool.or_eq_false_iff] at hc
    rcases hab with ⟨rfl, rfl⟩ | hab
    · exact absurd hc.2 (by decide)
    · rw [hc.1] at hab; cases hab
  refine ⟨?_, fun a b hab => ?_⟩
  · rw [xup_no _ _ _ _ (hne _ _ (Or.inl ⟨rfl, rfl⟩))]; exact h.1
  · rw [xup_no _ _ _ _ (hne _ _ (Or.inr hab))]; exact h.2 a b hab
theorem sCk_n {c : Nat} (hc : sCk c = true) (j : Nat) : (sNk c j || (decide (c = 1) && decide (j = 2))) = false := by
  unfold sCk at hc
  rw [Bool.not_eq_true', Bool.or_eq_false_iff, Bool.or_eq_false_iff, Bool.or_eq_false_iff, Bool.or_eq_false_iff] at hc
  obtain ⟨⟨⟨⟨h1, h2⟩, h3⟩, h4⟩, h5⟩ := hc
  unfold sNk
  rw [h1, h2, h3, h4, h5]; rfl
theorem sx_upc {I I1 : xI} {c j : Nat} {v : Int32} (h : SnX I I1) (hc : sCk c = true) : SnX I (xup I1 c j v) := sx_up h (sCk_n hc j)
theorem sx_age {I I1 : xI} {c j : Nat} (h : SnX I I1) (hc : ¬ c = 1) : SnX I (xup I1 c j (I1 1 2)) := by
  refine ⟨?_, fun a b hab => ?_⟩
  · rw [xup_no _ _ _ _ (by omega)]; exact h.1
  · by_cases e : a = c ∧ b = j
    · rw [e.1, e.2, xup_at, h.1]; exact Or.inr rfl
    · rw [xup_no _ _ _ _ e]; exact h.2 a b hab
theorem sx_cp {I I1 : xI} {a b sp dp n : Nat} (h : SnX I I1) (hb : sCk b = true) : SnX I (xcp I1 a b sp dp n) := by
  have hne : ∀ c j, (c = 1 ∧ j = 2) ∨ sNk c j = true → ¬ c = b := by
    rintro c j hab rfl
    have := sCk_n hb j
    rw [Bool.or_eq_false_iff] at this
    rcases hab with ⟨rfl, rfl⟩ | hab
    · exact absurd this.2 (by decide)
    · rw [this.1] at hab; cases hab
  refine ⟨?_, fun c j hc => ?_⟩
  · rw [xcp_bj _ _ _ _ _ _ _ (hne _ _ (Or.inl ⟨rfl, rfl⟩))]; exact h.1
  · rw [xcp_bj _ _ _ _ _ _ _ (hne _ _ (Or.inr hc))]; exact h.2 c j hc
def SG {β : Type} (g : β → xI) (I : xI) (x : Option β) : Prop := ∀ o, x = some o → SnX I (g o)
theorem sg_none {β : Type} {g : β → xI} {I : xI} : SG g I none := fun o h => by cases h
theorem sg_some {β : Type} {g : β → xI} {I : xI} {o : β} (h : SnX I (g o)) : SG g I (some o) := fun o' e => by cases e; exact h
theorem sg_ite {β : Type} {g : β → xI} {I : xI} {c : Prop} {d : Decidable c} {x y : Option β} (h1 : SG g I x) (h2 : SG g I y) : SG g I (@ite _ c d x y) := by
  by_cases hc : c
  · rw [if_pos hc]; exact h1
  · rw [if_neg hc]; exact h2
theorem sg_bind {α β : Type} {g : β → xI} {I : xI} {x : Option (α × xI × xJ)} {k : α × xI × xJ → Option β} (h1 : SG (fun o => o.2.1) I x) (h2 : ∀ o, SnX I o.2.1 → SG g I (k o)) : SG g I (x.bind k) := by
  intro o e
  cases hx : x with
  | none => rw [hx] at e; cases e
  | some a => rw [hx] at e; exact h2 a (h1 a hx) o e
theorem sg_map {α β : Type} {gs : α → xI} {gr : β → xI} {I : xI} {x : Option β} (h : SG gr I x) : SG (Sum.elim gs gr) I (x.map .inr) := by
  intro o e
  cases hx : x with
  | none => rw [hx] at e; cases e
  | some a => rw [hx] at e; cases e; exact h a hx
theorem sg_at {β : Type} {g : β → xI} {I I1 : xI} {x : Option β} (h : SnX I I1) (h1 : SG g I1 x) : SG g I x := fun o e => sx_tr h (h1 o e)
theorem sg_loop0 {S R : Type} {gs : S → xI} {gr : R → xI} {body : S → Option (S ⊕ R)} (h : ∀ s, SG (Sum.elim gs gr) (gs s) (body s)) : ∀ (f : Nat) (s : S), SG gr (gs s) (xloop body f s) := by
  intro f
  induction f with
  | zero => intro s o e; cases e
  | succ f ih =>
    intro s o e
    have e' : (match body s with
      | none => none
      | some (.inl s') => xloop body f s'
      | some (.inr r) => some r) = some o := e
    cases hb : body s with
    | none => rw [hb] at e'; cases e'
    | some q =>
      rw [hb] at e'
      have hq := h s q hb
      cases q with
      | inl s' => exact sx_tr hq (ih s' o e')
      | inr r => cases e'; exact hq
theorem sg_loop {S R : Type} {gs : S → xI} {gr : R → xI} {body : S → Option (S ⊕ R)} {f : Nat} {s : S} {I : xI} (h : ∀ s, SG (Sum.elim gs gr) (gs s) (body s)) (hs : SnX I (gs s)) : SG gr I (xloop body f s) := sg_at hs (sg_loop0 h f s)
