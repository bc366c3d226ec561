/-- instructions that touch the memory -/
def wmem : Instr → Bool
  | .getfield _ => true
  | .putfield _ => true
  | .iaload => true
  | .baload => true
  | .laload => true
  | .aaload => true
  | .iastore => true
  | .bastore => true
  | .lastore => true
  | .aastore => true
  | .new _ => true
  | .newarray _ => true
  | .anewarray _ => true
  | _ => false
theorem xi_nomem {α : Type} {L : Nat} {xs : Nat → Int32} {ini pc : Nat} {q : xQ} {ls : List (Option Value)} {st : List Value} {n : Nat} {M : xM} {k : xK α} (h : wmem q.1 = false) : xi L xs ini pc q ls st n M k = xi L xs ini pc q ls st n xM0 (fun a b c d _ => k a b c d M) := by
  obtain ⟨i, len, r1, r2⟩ := q
  cases i with
  | ifCond c o => cases c <;> rfl
  | if_icmp c o => cases c <;> rfl
  | _ => first | rfl | exact absurd h (by simp [wmem])
theorem w_nomem {α : Type} {L : Nat} {xs : Nat → Int32} {ini pc : Nat} {q : xQ} {ls : List (Option Value)} {st : List Value} {n : Nat} {M : xM} {t : Nat × List (Option Value) × List Value × Nat} (hm : wmem q.1 = false)
    (h : zi ini pc q ls st n xM0 (fun a b c d _ => some (a, b, c, d)) = some t) (k : xK α) : xi L xs ini pc q ls st n M k = k t.1 t.2.1 t.2.2.1 t.2.2.2 M := by
  rw [zi_yi] at h
  have h := yi_xi (L := L) (xs := xs) h
  rw [xi_bind] at h
  rw [xi_nomem hm, xi_bind]
  cases hx : xi L xs ini pc q ls st n xM0 (fun a b c d e => (some (a, b, c, d, e) : Option xT)) with
  | none => rw [hx] at h; exact absurd h (by simp)
  | some u =>
    rw [hx] at h
    have h : some (u.1, u.2.1, u.2.2.1, u.2.2.2.1) = some t := h
    injection h with h
    subst h
    rfl
