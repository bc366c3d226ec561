abbrev wO : Type := Option Value × Nat × wM
def wX (o : wO) : xO := (o.1, o.2.1, wD o.2.2)
def wrun : Nat → Nat → Nat → Nat → List (Option Value) → List Value → Nat → wM → Option wO
  | 0, _, _, _, _, _, _, _ => none
  | f + 1, d, j, pc, ls, st, n, m => fN pc fun pc => fN n fun n => match xfind (xme j).1 pc with
    | none => none
    | some q => match xsort q.1 with
      | 0 => bif wmem q.1 then (match wmi (bif (xme j).2.2.2.2.2 then (xme j).2.2.2.2.1 + 1 else 0) pc q ls st n m with
          | some (pc, ls, st, n, m) => wrun f d j pc ls st n m
          | none => none)
        else (match zi (bif (xme j).2.2.2.2.2 then (xme j).2.2.2.2.1 + 1 else 0) pc q ls st n xM0 (fun a b c d _ => some (a, b, c, d)) with
          | some (pc, ls, st, n) => wrun f d j pc ls st n m
          | none => none)
      | 1 => match xret (xme j).2.2.2.1 q.1 st with
        | some r => some (r, n, m)
        | none => none
      | s + 2 => bif Nat.beq q.2.2.2 2 then xr st fun _ r => bif Nat.blt 0 d && Nat.ble (r.map fun v => v.category).sum 8 then wrun f d j (pc + 3) ls r n m else none
        else bif Nat.ble 3 q.2.2.2 then none
        else match d with
          | 0 => none
          | d + 1 => bif ((Nat.ble (xme q.2.2.1).2.1 st.length && Nat.ble (xent (st.take (xme q.2.2.1).2.1).reverse).length (xme q.2.2.1).2.2.1) && Nat.ble ((st.drop (xme q.2.2.1).2.1).map fun v => v.category).sum 8) && (Nat.beq s 1 || (match (st.take (xme q.2.2.1).2.1).reverse with
              | .ref b :: _ => Nat.blt b 2999 && (Nat.beq s 2 || Nat.beq (xcl n b) (xme q.2.2.1).2.2.2.2.1)
              | _ => false)) then
            (fL (xpad (xent (st.take (xme q.2.2.1).2.1).reverse) (xme q.2.2.1).2.2.1) fun ls' => match wrun f d q.2.2.1 0 ls' [] n m with
            | some (r, n, m) => fS (r.toList ++ st.drop (xme q.2.2.1).2.1) fun st => wrun f (d + 1) j (pc + 3) ls st n m
            | none => none) else none
theorem wrun_x {L : Nat} {xs : Nat → Int32} : ∀ (f d j pc : Nat) (ls : List (Option Value)) (st : List Value) (n : Nat) (m : wM) (o : wO), wrun f d j pc ls st n m = some o → xrun L xs f d j pc ls st n (wD m) = some (wX o) := by
  intro f
  induction f with
  | zero => intro d j pc ls st n m o h; exact absurd h (by simp [wrun])
  | succ f ih =>
    intro d j pc ls st n m o h
    unfold wrun at h
    rw [fN_eq, fN_eq] at h
    unfold xrun
    cases hq : xfind (xme j).1 pc with
    | none => rw [hq] at h; exact absurd h (by simp)
    | some q =>
      rw [hq] at h
      dsimp only at h ⊢
      generalize xsort q.1 = s at h
      match s, h with
      | 0, h =>
        dsimp only at h ⊢
        cases hm : wmem q.1 with
        | true =>
          rw [hm, cond_true] at h
          split at h
          · rename_i a b c d' m' ht
            apply yi_xi
            apply wmi_y
            rw [ht]
            exact ih _ _ _ _ _ _ _ _ h
          · exact absurd h (by simp)
        | false =>
          rw [hm, cond_false] at h
          split at h
          · rename_i a b c d' ht
            rw [w_nomem hm ht]
            exact ih _ _ _ _ _ _ _ _ h
          · exact absurd h (by simp)
      | 1, h =>
        dsimp only at h ⊢
        cases hr : xret (xme j).2.2.2.1 q.1 st with
        | none => rw [hr] at h; exact absurd h (by simp)
        | some r =>
          rw [hr] at h
          have h : some (r, n, m) = some o := h
          injection h with h
          subst h
          rfl
      | s + 2, h =>
        dsimp only at h ⊢
        cases h2 : Nat.beq q.2.2.2 2 with
        | true =>
          rw [h2] at h
          obtain ⟨a, r, rfl, ha, h⟩ := xr_some h
          obtain ⟨hc, h⟩ := xbif h
          rw [Bool.and_eq_true] at hc
          show (bif Nat.blt a 2999 then (bif Nat.blt 0 d && Nat.ble (r.map fun v => v.category).sum 8 then xrun L xs f d j (pc + 3) ls r n (wD m) else none) else none) = some (wX o)
          rw [Nat.blt_eq.mpr ha, hc.1, hc.2]
          exact ih _ _ _ _ _ _ _ _ h
        | false =>
          rw [h2, cond_false] at h
          rw [cond_false]
          cases h3 : Nat.ble 3 q.2.2.2 with
          | true => rw [h3] at h; exact absurd h (by simp)
          | false =>
            rw [h3, cond_false] at h
            have hlt : q.2.2.2 < 3 := by
              rcases Nat.lt_or_ge q.2.2.2 3 with w | w
              · exact w
              · rw [Nat.ble_eq_true_of_le w] at h3; cases h3
            rw [show Nat.beq q.2.2.2 3 = false from Bool.eq_false_iff.mpr (fun w => by have := Nat.eq_of_beq_eq_true w; omega), show Nat.beq q.2.2.2 4 = false from Bool.eq_false_iff.mpr (fun w => by have := Nat.eq_of_beq_eq_true w; omega), show Nat.beq q.2.2.2 5 = false from Bool.eq_false_iff.mpr (fun w => by have := Nat.eq_of_beq_eq_true w; omega), cond_false, cond_false, cond_false]
            match d, h, ih with
            | 0, h, ih => exact absurd h (by simp)
            | d + 1, h, ih =>
              obtain ⟨hc, h⟩ := xbif h
              have key : ∀ (c : Bool) (X : Option xO), c = true → X = some (wX o) → (bif c then X else none) = some (wX o) := fun c X h1 h2 => by rw [h1]; exact h2
              refine key _ _ hc ?_
              rw [fL_eq] at h
              split at h
              · rename_i r1 n1 m1 ho1
                rw [fS_eq] at h
                rw [ih _ _ _ _ _ _ _ _ ho1]
                exact ih _ _ _ _ _ _ _ _ h
              · exact absurd h (by simp)
