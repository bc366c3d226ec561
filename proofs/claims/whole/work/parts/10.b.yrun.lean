theorem xrun_R {L : Nat} {xs : Nat → Int32} : ∀ (f d j pc : Nat) (ls : List (Option Value)) (st : List Value) (n : Nat) (M : xM) (o : xO), xRv n M → xrun L xs f d j pc ls st n M = some o → xRv o.2.1 o.2.2 := by
  intro f
  induction f with
  | zero => intro d j pc ls st n M o _ h; exact absurd h (by simp [xrun])
  | succ f ih =>
    intro d j pc ls st n M o hR h
    unfold xrun at h
    split at h
    · exact absurd h (by simp)
    · rename_i q hq
      split at h
      · obtain ⟨pc', ls', st', n', M', h, hR'⟩ := xi_R hR h
        exact ih _ _ _ _ _ _ _ _ hR' h
      · split at h
        · cases h; exact hR
        · exact absurd h (by simp)
      · rename_i s hs
        cases h2 : Nat.beq q.2.2.2 2 with
        | true =>
          rw [h2] at h
          obtain ⟨_, _, -, -, h⟩ := xr_some h
          obtain ⟨-, h⟩ := xbif h
          exact ih _ _ _ _ _ _ _ _ hR h
        | false =>
          rw [h2, cond_false] at h
          cases h3 : Nat.beq q.2.2.2 3 with
          | true =>
            rw [h3] at h
            obtain ⟨_, _, _, _, _, _, -, h⟩ := xcopy_some h
            obtain ⟨-, h⟩ := xbif h
            obtain ⟨-, h⟩ := xif h
            exact ih _ _ _ _ _ _ _ _ (by exact hR) h
          | false =>
            rw [h3, cond_false] at h
            cases h4 : Nat.beq q.2.2.2 4 with
            | true =>
              rw [h4] at h
              obtain ⟨_, _, _, -, h⟩ := x2_some h
              obtain ⟨-, h⟩ := xbif h
              exact ih _ _ _ _ _ _ _ _ hR h
            | false =>
              rw [h4, cond_false] at h
              cases h5 : Nat.beq q.2.2.2 5 with
              | true =>
                rw [h5] at h
                obtain ⟨_, _, _, -, h⟩ := x2_some h
                obtain ⟨-, h⟩ := xbif h
                exact ih _ _ _ _ _ _ _ _ hR h
              | false =>
                rw [h5, cond_false] at h
                split at h
                · exact absurd h (by simp)
                · obtain ⟨-, h⟩ := xbif h
                  split at h
                  · rename_i o1 ho1
                    exact ih _ _ _ _ _ _ _ _ (ih _ _ _ _ _ _ _ _ hR ho1) h
                  · exact absurd h (by simp)
/-! the same machine without what lies outside: for the constructors, which the kernel runs -/
def yi {α : Type} (ini : Nat) (pc : Nat) (q : xQ) (ls : List (Option Value)) (st : List Value) (n : Nat) (M : xM) (k : xK α) : Option α :=
  match q.1 with
  | .iaload => xia st fun i a r => xaw n (fun w => Nat.beq w 14) i a (k (pc + 1) ls (.int (M.1 a i.toNatClampNeg) :: r) n M)
  | .baload => xia st fun i a r => xaw n (fun w => Nat.beq w 13 || Nat.beq w 16) i a (k (pc + 1) ls (.int (M.1 a i.toNatClampNeg) :: r) n M)
  | .arraylength => xr st fun a r => bif (Nat.blt a n && Nat.blt a 1000) && (Nat.blt (xk a).1 18 && Nat.ble 13 (xk a).1) then k (pc + 1) ls (.int (Int32.ofNat (xk a).2) :: r) n M else none
  | _ => xi 0 (fun _ => 0) ini pc q ls st n M k
theorem xar_y {L : Nat} {xs : Nat → Int32} {n a : Nat} (h1 : a < n) (h2 : a < 1000) : xar L xs n a = xk a := by
  unfold xar
  rw [Nat.blt_eq.mpr h2, Nat.blt_eq.mpr h1]
  rfl
theorem xal_y {α : Type} {L : Nat} {xs : Nat → Int32} {n : Nat} {w : Nat → Bool} {i : Int32} {a : Nat} {k : Option α} {o : α} (h : xaw n w i a k = some o) : xal L xs n w i a k = some o := by
  obtain ⟨h1, h2, h3, h4, h5⟩ := xaw_some h
  unfold xal
  rw [xar_y h1 h2, h3]
  show (if _ then none else k) = some o
  rw [if_neg h4]
  exact h5
theorem xrd_y {L : Nat} {xs : Nat → Int32} {M : xM} {a i : Nat} (h2 : a < 1000) : xrd L xs M a i = M.1 a i := by
  unfold xrd
  rw [Nat.blt_eq.mpr h2]
  rfl
theorem yi_xi {α : Type} {L : Nat} {xs : Nat → Int32} {ini pc : Nat} {q : xQ} {ls : List (Option Value)} {st : List Value} {n : Nat} {M : xM} {k : xK α} {o : α} (h : yi ini pc q ls st n M k = some o) : xi L xs ini pc q ls st n M k = some o := by
  obtain ⟨i, len, r1, r2⟩ := q
  cases i with
  | iaload =>
    obtain ⟨i, a, r, rfl, h'⟩ := xia_some h
    have h2 := (xaw_some h').2.1
    have h3 := xal_y (L := L) (xs := xs) h'
    rw [← xrd_y (L := L) (xs := xs) (M := M) h2] at h3
    exact h3
  | baload =>
    obtain ⟨i, a, r, rfl, h'⟩ := xia_some h
    have h2 := (xaw_some h').2.1
    have h3 := xal_y (L := L) (xs := xs) h'
    rw [← xrd_y (L := L) (xs := xs) (M := M) h2] at h3
    exact h3
  | arraylength =>
    obtain ⟨a, r, rfl, ha, h'⟩ := xr_some h
    obtain ⟨hc, h'⟩ := xbif h'
    simp only [Bool.and_eq_true] at hc
    show (bif Nat.blt a 2999 then (bif Nat.blt (xar L xs n a).1 18 && Nat.ble 13 (xar L xs n a).1 then k (pc + 1) ls (.int (Int32.ofNat (xar L xs n a).2) :: r) n M else none) else none) = some o
    rw [Nat.blt_eq.mpr ha, xar_y (Nat.blt_eq.mp hc.1.1) (Nat.blt_eq.mp hc.1.2), hc.2.1, hc.2.2]
    exact h'
  | ifCond cd of => cases cd <;> exact h
  | if_icmp cd of => cases cd <;> exact h
  | _ => exact h
def yrun : Nat → Nat → Nat → Nat → List (Option Value) → List Value → Nat → xM → Option xO
  | 0, _, _, _, _, _, _, _ => none
  | f + 1, d, j, pc, ls, st, n, M => match xfind (xme j).1 pc with
    | none => none
    | some q => match xsort q.1 with
      | 0 => yi (bif (xme j).2.2.2.2.2 then (xme j).2.2.2.2.1 + 1 else 0) pc q ls st n M (fun pc ls st n M => yrun f d j pc ls st n M)
      | 1 => match xret (xme j).2.2.2.1 q.1 st with
        | some r => some (r, n, M)
        | none => none
      | s + 2 => bif Nat.beq q.2.2.2 2 then xr st fun _ r => bif Nat.blt 0 d && Nat.ble (r.map fun v => v.category).sum 8 then yrun f d j (pc + 3) ls r n M else none
        else bif Nat.ble 3 q.2.2.2 then none
        else match d with
          | 0 => none
          | d + 1 => bif ((Nat.ble (xme q.2.2.1).2.1 st.length && Nat.ble (xent (st.take (xme q.2.2.1).2.1).reverse).length (xme q.2.2.1).2.2.1) && Nat.ble ((st.drop (xme q.2.2.1).2.1).map fun v => v.category).sum 8) && (Nat.beq s 1 || (match (st.take (xme q.2.2.1).2.1).reverse with
              | .ref b :: _ => Nat.blt b 2999 && (Nat.beq s 2 || Nat.beq (xcl n b) (xme q.2.2.1).2.2.2.2.1)
              | _ => false)) then
            (match yrun f d q.2.2.1 0 (xpad (xent (st.take (xme q.2.2.1).2.1).reverse) (xme q.2.2.1).2.2.1) [] n M with
            | some o => yrun f (d + 1) j (pc + 3) ls (o.1.toList ++ st.drop (xme q.2.2.1).2.1) o.2.1 o.2.2
            | none => none) else none
theorem yrun_x {L : Nat} {xs : Nat → Int32} : ∀ (f d j pc : Nat) (ls : List (Option Value)) (st : List Value) (n : Nat) (M : xM) (o : xO), yrun f d j pc ls st n M = some o → xrun L xs f d j pc ls st n M = some o := by
  intro f
  induction f with
  | zero => intro d j pc ls st n M o h; exact absurd h (by simp [yrun])
  | succ f ih =>
    intro d j pc ls st n M o h
    unfold yrun at h
    unfold xrun
    cases hq : xfind (xme j).1 pc with
    | none => rw [hq] at h; exact absurd h (by simp)
    | some q =>
      rw [hq] at h
      dsimp only at h ⊢
      generalize xsort q.1 = s at h
      match s, h with
      | 0, h => exact xi_le (fun a b c d' e' hk => ih _ _ _ _ _ _ _ _ hk) (yi_xi h)
      | 1, h => exact h
      | s + 2, h =>
        dsimp only at h ⊢
        cases h2 : Nat.beq q.2.2.2 2 with
        | true =>
          rw [h2] at h
          obtain ⟨a, r, rfl, ha, h⟩ := xr_some h
          obtain ⟨hc, h⟩ := xbif h
          rw [Bool.and_eq_true] at hc
          show (bif Nat.blt a 2999 then (bif Nat.blt 0 d && Nat.ble (r.map fun v => v.category).sum 8 then xrun L xs f d j (pc + 3) ls r n M else none) else none) = some o
          rw [Nat.blt_eq.mpr ha, hc.1, hc.2]
          exact ih _ _ _ _ _ _ _ _ h
        | false =>
          rw [h2, cond_false] at h
          rw [cond_false]
          cases h3 : Nat.ble 3 q.2.2.2 with
          | true => rw [h3] at h; exact absurd h (by simp)
          | false =>
            rw [h3, cond_false] at h
            have hlt : q.2.2.2 < 3 := by
              rcases Nat.lt_or_ge q.2.2.2 3 with w | w
              · exact w
              · rw [Nat.ble_eq_true_of_le w] at h3; cases h3
            rw [show Nat.beq q.2.2.2 3 = false from Bool.eq_false_iff.mpr (fun w => by have := Nat.eq_of_beq_eq_true w; omega), show Nat.beq q.2.2.2 4 = false from Bool.eq_false_iff.mpr (fun w => by have := Nat.eq_of_beq_eq_true w; omega), show Nat.beq q.2.2.2 5 = false from Bool.eq_false_iff.mpr (fun w => by have := Nat.eq_of_beq_eq_true w; omega), cond_false, cond_false, cond_false]
            match d, h, ih with
            | 0, h, ih => exact absurd h (by simp)
            | d + 1, h, ih =>
              obtain ⟨hc, h⟩ := xbif h
              have key : ∀ (c : Bool) (X : Option xO), c = true → X = some o → (bif c then X else none) = some o := fun c X h1 h2 => by rw [h1]; exact h2
              refine key _ _ hc ?_
              split at h
              · rename_i o1 ho1
                rw [ih _ _ _ _ _ _ _ _ ho1]
                exact ih _ _ _ _ _ _ _ _ h
              · exact absurd h (by simp)
