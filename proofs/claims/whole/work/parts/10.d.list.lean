/-! memory as lists, for the kernel -/
abbrev wL (α : Type) : Type := List (Nat × Option Nat × α)
def wden {α : Type} (v0 : α) : wL α → Nat → Nat → α
  | [] => fun _ _ => v0
  | (a, some i, v) :: l => xup (wden v0 l) a i v
  | (a, none, v) :: l => xz (wden v0 l) a v
def wrd {α : Type} (v0 : α) : wL α → Nat → Nat → α
  | [], _, _ => v0
  | (a, o, v) :: l, b, j => bif Nat.beq b a then (match o with
    | none => v
    | some i => bif Nat.beq j i then v else wrd v0 l b j) else wrd v0 l b j
theorem wbeq_t {a b : Nat} (h : Nat.beq a b = true) : a = b := Nat.eq_of_beq_eq_true h
theorem wbeq_f {a b : Nat} (h : Nat.beq a b = false) : ¬ a = b := Nat.ne_of_beq_eq_false h
theorem wrd_eq {α : Type} (v0 : α) (l : wL α) (b j : Nat) : wrd v0 l b j = wden v0 l b j := by
  induction l with
  | nil => rfl
  | cons e l ih =>
    obtain ⟨a, o, v⟩ := e
    cases o with
    | none =>
      show (bif Nat.beq b a then v else wrd v0 l b j) = (if b = a then (fun _ => v) else wden v0 l b) j
      cases h : Nat.beq b a with
      | true => rw [if_pos (wbeq_t h)]; rfl
      | false => rw [if_neg (wbeq_f h)]; exact ih
    | some i =>
      show (bif Nat.beq b a then (bif Nat.beq j i then v else wrd v0 l b j) else wrd v0 l b j) = (if b = a then (fun j => if j = i then v else wden v0 l a j) else wden v0 l b) j
      cases h : Nat.beq b a with
      | true =>
        rw [if_pos (wbeq_t h)]
        cases h2 : Nat.beq j i with
        | true => exact (if_pos (wbeq_t h2)).symm
        | false => show wrd v0 l b j = if j = i then v else wden v0 l a j; rw [if_neg (wbeq_f h2), ih, wbeq_t h]
      | false => rw [if_neg (wbeq_f h)]; exact ih
/-- a cell no place of which is written -/
def wno {α : Type} (a : Nat) (l : wL α) : Bool := l.all fun e => !(Nat.beq e.1 a && e.2.1.isSome)
abbrev wM : Type := wL Int32 × wL Int64 × wL (Option Nat)
def wD (m : wM) : xM := (wden 0 m.1, wden 0 m.2.1, wden none m.2.2)
theorem wD0 : wD ([], [], []) = xM0 := rfl
theorem wD_i (m : wM) (a t : Nat) (x : Int32) : wD ((a, some t, x) :: m.1, m.2.1, m.2.2) = (xup (wD m).1 a t x, (wD m).2.1, (wD m).2.2) := rfl
theorem wD_j (m : wM) (a t : Nat) (x : Int64) : wD (m.1, (a, some t, x) :: m.2.1, m.2.2) = ((wD m).1, xup (wD m).2.1 a t x, (wD m).2.2) := rfl
theorem wD_r (m : wM) (a t : Nat) (x : Option Nat) : wD (m.1, m.2.1, (a, some t, x) :: m.2.2) = ((wD m).1, (wD m).2.1, xup (wD m).2.2 a t x) := rfl
theorem wD_n (m : wM) (n : Nat) : wD ((n, none, 0) :: m.1, (n, none, 0) :: m.2.1, (n, none, none) :: m.2.2) = (xz (wD m).1 n 0, xz (wD m).2.1 n 0, xz (wD m).2.2 n none) := rfl
