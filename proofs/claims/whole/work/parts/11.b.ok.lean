/-! runs of the pure functions, with what holds behind them -/
def Ok {α : Type} (x : Option α) (Q : α → Prop) : Prop := ∃ t, x = some t ∧ Q t
theorem Ok.eq {α : Type} {x : Option α} {v : α} (h : Ok x (fun t => t = v)) : x = some v := by
  obtain ⟨t, h, rfl⟩ := h; exact h
theorem ok_some {α : Type} {a : α} {Q : α → Prop} (h : Q a) : Ok (some a) Q := ⟨a, rfl, h⟩
theorem ok_bind {α β : Type} {x : Option α} {f : α → Option β} {Q : β → Prop} (h : Ok x (fun a => Ok (f a) Q)) : Ok (x.bind f) Q := by
  obtain ⟨a, rfl, b, hb, q⟩ := h; exact ⟨b, hb, q⟩
theorem ok_map {α β : Type} {x : Option α} {f : α → β} {Q : β → Prop} (h : Ok x (fun a => Q (f a))) : Ok (x.map f) Q := by
  obtain ⟨a, rfl, q⟩ := h; exact ⟨f a, rfl, q⟩
theorem ok_of {α : Type} {x : Option α} {t : α} {Q : α → Prop} (e : x = some t) (h : Q t) : Ok x Q := ⟨t, e, h⟩
theorem Ok.imp {α : Type} {x : Option α} {Q R : α → Prop} (h : Ok x Q) (hq : ∀ t, Q t → R t) : Ok x R := by
  obtain ⟨t, e, q⟩ := h; exact ⟨t, e, hq t q⟩
theorem ok_if {α : Type} {c : Prop} [Decidable c] {x y : Option α} {Q : α → Prop} (h1 : c → Ok x Q) (h2 : ¬ c → Ok y Q) : Ok (if c then x else y) Q := by
  by_cases h : c
  · rw [if_pos h]; exact h1 h
  · rw [if_neg h]; exact h2 h
theorem ok_nn {α : Type} {c : Prop} [Decidable c] {y : Option α} {Q : α → Prop} (h : ¬ c) (h2 : Ok y Q) : Ok (if c then none else y) Q := by
  rw [if_neg h]; exact h2
theorem ok_pos {α : Type} {c : Prop} [Decidable c] {x y : Option α} {Q : α → Prop} (h : c) (h1 : Ok x Q) : Ok (if c then x else y) Q := by
  rw [if_pos h]; exact h1
theorem ok_neg {α : Type} {c : Prop} [Decidable c] {x y : Option α} {Q : α → Prop} (h : ¬ c) (h2 : Ok y Q) : Ok (if c then x else y) Q := by
  rw [if_neg h]; exact h2
theorem ok_xloop {S R : Type} {body : S → Option (S ⊕ R)} {Q : R → Prop} {f : Nat} {s : S} (h : Ok (body s) (Sum.elim (fun s' => Ok (xloop body f s') Q) Q)) : Ok (xloop body (f + 1) s) Q := by
  obtain ⟨o, e, q⟩ := h
  cases o with
  | inl s' =>
    obtain ⟨r, hr, q⟩ := q
    refine ⟨r, ?_, q⟩
    rw [← hr]
    show (match body s with
      | none => none
      | some (.inl s') => xloop body f s'
      | some (.inr r) => some r) = xloop body f s'
    rw [e]
  | inr r =>
    refine ⟨r, ?_, q⟩
    show (match body s with
      | none => none
      | some (.inl s') => xloop body f s'
      | some (.inr r) => some r) = some r
    rw [e]
/-- a loop that counts up to n -/
theorem ok_loop {S R : Type} {body : S → Option (S ⊕ R)} {Q : R → Prop} (P : Nat → S → Prop) (n : Nat) (hs : ∀ k, k < n → ∀ s, P k s → Ok (body s) (Sum.elim (P (k + 1)) Q)) (he : ∀ s, P n s → Ok (body s) (Sum.elim (fun _ => False) Q)) : ∀ (f k : Nat) (s : S), k ≤ n → n < f + k → P k s → Ok (xloop body f s) Q := by
  intro f
  induction f with
  | zero => intro k s h1 h2; omega
  | succ f ih =>
    intro k s h1 h2 hp
    apply ok_xloop
    by_cases hk : k < n
    · refine (hs k hk s hp).imp ?_
      intro o
      cases o with
      | inl s' => exact fun h => ih (k + 1) s' hk (by omega) h
      | inr r => exact id
    · have : k = n := by omega
      subst this
      refine (he s hp).imp ?_
      intro o
      cases o with
      | inl s' => exact fun h => h.elim
      | inr r => exact id
/-- a loop that goes down by a measure -/
theorem ok_while {S R : Type} {body : S → Option (S ⊕ R)} {Q : R → Prop} (P : S → Prop) (m : S → Nat) (hs : ∀ s, P s → Ok (body s) (Sum.elim (fun s' => P s' ∧ m s' < m s) Q)) : ∀ (f : Nat) (s : S), m s < f → P s → Ok (xloop body f s) Q := by
  intro f
  induction f with
  | zero => intro s h; omega
  | succ f ih =>
    intro s h hp
    apply ok_xloop
    refine (hs s hp).imp ?_
    intro o
    cases o with
    | inl s' =>
      intro h'
      have h2 := h'.2
      exact ih s' (by omega) h'.1
    | inr r => exact id
/-- all below n -/
def al (n : Nat) (p : Nat → Bool) : Bool := match n with
  | 0 => true
  | n + 1 => al n p && p n
theorem al_iff {n : Nat} {p : Nat → Bool} : al n p = true ↔ ∀ k, k < n → p k = true := by
  induction n with
  | zero => simp [al]
  | succ n ih =>
    rw [al, Bool.and_eq_true, ih]
    constructor
    · intro h k hk
      by_cases e : k = n
      · rw [e]; exact h.2
      · exact h.1 k (by omega)
    · intro h
      exact ⟨fun k hk => h k (by omega), h n (by omega)⟩
theorem al_false {n : Nat} {p : Nat → Bool} {k : Nat} (hk : k < n) (h : p k = false) : al n p = false := by
  cases e : al n p with
  | false => rfl
  | true => rw [al_iff.mp e k hk] at h; exact absurd h (by decide)
/-- memory but for one place -/
theorem xup_at {α : Type} (f : Nat → Nat → α) (a i : Nat) (v : α) : xup f a i v a i = v := by
  show (if a = a then (fun j => if j = i then v else f a j) else f a) i = v
  rw [if_pos rfl]; exact if_pos rfl
theorem xup_j {α : Type} (f : Nat → Nat → α) (a i : Nat) (v : α) {j : Nat} (h : ¬ j = i) : xup f a i v a j = f a j := by
  show (if a = a then (fun j => if j = i then v else f a j) else f a) j = f a j
  rw [if_pos rfl]; exact if_neg h
theorem xup_b {α : Type} (f : Nat → Nat → α) (a i : Nat) (v : α) {b : Nat} (h : ¬ b = a) : xup f a i v b = f b := if_neg h
theorem xup_bj {α : Type} (f : Nat → Nat → α) (a i : Nat) (v : α) {b : Nat} (j : Nat) (h : ¬ b = a) : xup f a i v b j = f b j := congrFun (xup_b f a i v h) j
theorem xup_if {α : Type} (f : Nat → Nat → α) (a i : Nat) (v : α) (j : Nat) : xup f a i v a j = if j = i then v else f a j := by
  show (if a = a then (fun j => if j = i then v else f a j) else f a) j = _
  rw [if_pos rfl]
