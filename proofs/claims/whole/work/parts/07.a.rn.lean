/-! runs of the abstract machine, behind which something holds: rules to go along -/
section XB
variable {α β : Type}
theorem x1_b (st : List Value) (k : Int32 → List Value → Option α) (g : α → Option β) : (x1 st k).bind g = x1 st fun x r => (k x r).bind g := by unfold x1; split <;> rfl
theorem x2_b (st : List Value) (k : Int32 → Int32 → List Value → Option α) (g : α → Option β) : (x2 st k).bind g = x2 st fun x y r => (k x y r).bind g := by unfold x2; split <;> rfl
theorem x2l_b (st : List Value) (k : Int64 → Int64 → List Value → Option α) (g : α → Option β) : (x2l st k).bind g = x2l st fun x y r => (k x y r).bind g := by unfold x2l; split <;> rfl
theorem bif_b (c : Bool) (k m : Option α) (g : α → Option β) : (bif c then k else m).bind g = bif c then k.bind g else m.bind g := by cases c <;> rfl
theorem if_b (c : Prop) [Decidable c] (k m : Option α) (g : α → Option β) : (if c then k else m).bind g = if c then k.bind g else m.bind g := by split <;> rfl
theorem xr_b (st : List Value) (k : Nat → List Value → Option α) (g : α → Option β) : (xr st k).bind g = xr st fun x r => (k x r).bind g := by
  unfold xr; split
  · rw [bif_b]; rfl
  · rfl
theorem xia_b (st : List Value) (k : Int32 → Nat → List Value → Option α) (g : α → Option β) : (xia st k).bind g = xia st fun x y r => (k x y r).bind g := by unfold xia; split <;> rfl
theorem xva_b (st : List Value) (k : Value → Int32 → Nat → List Value → Option α) (g : α → Option β) : (xva st k).bind g = xva st fun v x y r => (k v x y r).bind g := by unfold xva; split <;> rfl
theorem xvr_b (st : List Value) (k : Value → Nat → List Value → Option α) (g : α → Option β) : (xvr st k).bind g = xvr st fun v y r => (k v y r).bind g := by unfold xvr; split <;> rfl
theorem xld_b (ls : List (Option Value)) (i : Nat) (k : Value → Option α) (g : α → Option β) : (xld ls i k).bind g = xld ls i fun v => (k v).bind g := by unfold xld; split <;> rfl
theorem xii_b (v : Value) (k : Int32 → Option α) (g : α → Option β) : (xii v k).bind g = xii v fun x => (k x).bind g := by unfold xii; split <;> rfl
theorem xll_b (v : Value) (k : Int64 → Option α) (g : α → Option β) : (xll v k).bind g = xll v fun x => (k x).bind g := by unfold xll; split <;> rfl
theorem xrr_b (v : Value) (k : Nat → Option α) (g : α → Option β) : (xrr v k).bind g = xrr v fun x => (k x).bind g := by
  unfold xrr; split
  · rw [bif_b]; rfl
  · rfl
theorem xtop_b (st : List Value) (k : Value → List Value → Option α) (g : α → Option β) : (xtop st k).bind g = xtop st fun v r => (k v r).bind g := by unfold xtop; split <;> rfl
theorem xal_b (L : Nat) (xs : Nat → Int32) (n : Nat) (w : Nat → Bool) (i : Int32) (a : Nat) (k : Option α) (g : α → Option β) : (xal L xs n w i a k).bind g = xal L xs n w i a (k.bind g) := by
  unfold xal
  rw [bif_b, if_b]; rfl
theorem xaw_b (n : Nat) (w : Nat → Bool) (i : Int32) (a : Nat) (k : Option α) (g : α → Option β) : (xaw n w i a k).bind g = xaw n w i a (k.bind g) := by
  unfold xaw
  rw [bif_b, if_b]; rfl
end XB
abbrev xT : Type := Nat × List (Option Value) × List Value × Nat × xM
set_option maxHeartbeats 2000000 in
theorem xi_bind {α : Type} (L : Nat) (xs : Nat → Int32) (ini pc : Nat) (q : xQ) (ls : List (Option Value)) (st : List Value) (n : Nat) (M : xM) (k : xK α) : xi L xs ini pc q ls st n M k = (xi L xs ini pc q ls st n M (fun a b c d e => (some (a, b, c, d, e) : Option xT))).bind (fun t => k t.1 t.2.1 t.2.2.1 t.2.2.2.1 t.2.2.2.2) := by
  obtain ⟨i, len, r1, r2⟩ := q
  cases i with
  | putfield idx =>
    simp only [xi, xvr_b, bif_b]
    congr 1
    funext v a r
    congr 1
    generalize r2 / 100 % 10 = tt
    match tt with
    | 0 => exact (xii_b v (fun x => (some (pc + 3, ls, r, n, xup M.1 a (r2 % 100) x, M.2.1, M.2.2) : Option xT)) (fun t => k t.1 t.2.1 t.2.2.1 t.2.2.2.1 t.2.2.2.2)).symm
    | 1 => simp only [xii_b, if_b]; rfl
    | 2 => exact (xll_b v (fun x => (some (pc + 3, ls, r, n, M.1, xup M.2.1 a (r2 % 100) x, M.2.2) : Option xT)) (fun t => k t.1 t.2.1 t.2.2.1 t.2.2.2.1 t.2.2.2.2)).symm
    | t + 3 => exact (xrr_b v (fun x => (some (pc + 3, ls, r, n, M.1, M.2.1, xup M.2.2 a (r2 % 100) (some x)) : Option xT)) (fun t => k t.1 t.2.1 t.2.2.1 t.2.2.2.1 t.2.2.2.2)).symm
  | tableswitch d lo hi os =>
    simp only [xi, x1_b, if_b]
    congr 1
    funext x r
    congr 1
    cases os[(x.toInt - lo).toNat]? <;> rfl
  | ifCond cd o => cases cd <;> simp only [xi, x1_b, if_b, Option.bind_some]
  | if_icmp cd o => cases cd <;> simp only [xi, x2_b, if_b, Option.bind_some]
  | _ => first | rfl | (simp only [xi, x1_b, x2_b, x2l_b, xr_b, xia_b, xva_b, xld_b, xii_b, xll_b, xrr_b, xtop_b, xal_b, xaw_b, bif_b, if_b, Option.bind_some]; done) | (simp only [xi, x1_b, x2_b, x2l_b, xr_b, xia_b, xva_b, xld_b, xii_b, xll_b, xrr_b, xtop_b, xal_b, xaw_b, bif_b, if_b, Option.bind_some]; rfl)
theorem xi_le {L : Nat} {xs : Nat → Int32} {ini pc : Nat} {q : xQ} {ls : List (Option Value)} {st : List Value} {n : Nat} {M : xM} {α : Type} {k k' : xK α} {o : α} (hk : ∀ a b c d e, k a b c d e = some o → k' a b c d e = some o) (h : xi L xs ini pc q ls st n M k = some o) : xi L xs ini pc q ls st n M k' = some o := by
  rw [xi_bind] at h ⊢
  cases hx : xi L xs ini pc q ls st n M (fun a b c d e => (some (a, b, c, d, e) : Option xT)) with
  | none => rw [hx] at h; exact absurd h (by simp)
  | some t =>
    rw [hx] at h
    exact hk _ _ _ _ _ h
/-- more fuel and more depth do no harm -/
theorem xrun_le {L : Nat} {xs : Nat → Int32} : ∀ (f d j pc : Nat) (ls : List (Option Value)) (st : List Value) (n : Nat) (M : xM) (o : xO) (g e : Nat), xrun L xs f d j pc ls st n M = some o → xrun L xs (f + g) (d + e) j pc ls st n M = some o := by
  intro f
  induction f with
  | zero => intro d j pc ls st n M o g e h; exact absurd h (by simp [xrun])
  | succ f ih =>
    intro d j pc ls st n M o g e h
    rw [show f + 1 + g = f + g + 1 by omega]
    unfold xrun at h ⊢
    cases hq : xfind (xme j).1 pc with
    | none => rw [hq] at h; exact absurd h (by simp)
    | some q =>
      rw [hq] at h
      dsimp only at h ⊢
      generalize xsort q.1 = s at h
      match s, h with
      | 0, h => exact xi_le (fun a b c d' e' hk => ih _ _ _ _ _ _ _ _ _ _ hk) h
      | 1, h => exact h
      | s + 2, h =>
        dsimp only at h ⊢
        have hd : Nat.blt 0 d = true → Nat.blt 0 (d + e) = true := fun w => Nat.blt_eq.mpr (by have := Nat.blt_eq.mp w; omega)
        cases h2 : Nat.beq q.2.2.2 2 with
        | true =>
          rw [h2] at h
          obtain ⟨a, r, rfl, ha, h⟩ := xr_some h
          obtain ⟨hc, h⟩ := xbif h
          rw [Bool.and_eq_true] at hc
          show (bif Nat.blt a 2999 then (bif Nat.blt 0 (d + e) && Nat.ble (r.map fun v => v.category).sum 8 then xrun L xs (f + g) (d + e) j (pc + 3) ls r n M else none) else none) = some o
          rw [Nat.blt_eq.mpr ha, hd hc.1, hc.2]
          exact ih _ _ _ _ _ _ _ _ _ _ h
        | false =>
          rw [h2, cond_false] at h
          rw [cond_false]
          cases h3 : Nat.beq q.2.2.2 3 with
          | true =>
            rw [h3] at h
            obtain ⟨a, sp, b, dp, m, r, rfl, h⟩ := xcopy_some h
            obtain ⟨hc, h⟩ := xbif h
            obtain ⟨hn, h⟩ := xif h
            simp only [Bool.and_eq_true] at hc
            show (bif _ && (Nat.beq n xNN && Nat.blt 0 (d + e) && Nat.ble (r.map fun v => v.category).sum 8) then _ else none) = some o
            rw [hd hc.2.1.2, hc.2.1.1, hc.2.2, hc.1.1.1, hc.1.1.2, hc.1.2.1.1, hc.1.2.1.2, hc.1.2.2.1, hc.1.2.2.2]
            show (if _ then none else _) = some o
            rw [if_neg hn]
            exact ih _ _ _ _ _ _ _ _ _ _ h
          | false =>
            rw [h3, cond_false] at h
            rw [cond_false]
            cases h4 : Nat.beq q.2.2.2 4 with
            | true =>
              rw [h4] at h
              obtain ⟨x, y, r, rfl, h⟩ := x2_some h
              obtain ⟨hc, h⟩ := xbif h
              rw [Bool.and_eq_true] at hc
              show (bif Nat.blt 0 (d + e) && Nat.ble (r.map fun v => v.category).sum 8 then xrun L xs (f + g) (d + e) j (pc + 3) ls (.int (if x < y then y else x) :: r) n M else none) = some o
              rw [hd hc.1, hc.2]
              exact ih _ _ _ _ _ _ _ _ _ _ h
            | false =>
              rw [h4, cond_false] at h
              rw [cond_false]
              cases h5 : Nat.beq q.2.2.2 5 with
              | true =>
                rw [h5] at h
                obtain ⟨x, y, r, rfl, h⟩ := x2_some h
                obtain ⟨hc, h⟩ := xbif h
                rw [Bool.and_eq_true] at hc
                show (bif Nat.blt 0 (d + e) && Nat.ble (r.map fun v => v.category).sum 8 then xrun L xs (f + g) (d + e) j (pc + 3) ls (.int (if y < x then y else x) :: r) n M else none) = some o
                rw [hd hc.1, hc.2]
                exact ih _ _ _ _ _ _ _ _ _ _ h
              | false =>
                rw [h5, cond_false] at h
                rw [cond_false]
                match d, h, ih with
                | 0, h, ih => exact absurd h (by simp)
                | d + 1, h, ih =>
                  obtain ⟨hc, h⟩ := xbif h
                  rw [show d + 1 + e = d + e + 1 by omega]
                  dsimp only
                  rw [hc, cond_true]
                  split at h
                  · rename_i o1 ho1
                    rw [ih _ _ _ _ _ _ _ _ g e ho1]
                    have := ih _ _ _ _ _ _ _ _ g e h
                    rw [show d + 1 + e = d + e + 1 by omega] at this
                    exact this
                  · exact absurd h (by simp)
/-- the abstract machine, from here, comes to an end with Q -/
def Rn (L : Nat) (xs : Nat → Int32) (d j pc : Nat) (ls : List (Option Value)) (st : List Value) (n : Nat) (M : xM) (Q : xO → Prop) : Prop := ∃ f o, xrun L xs f d j pc ls st n M = some o ∧ Q o
section RN
variable {L : Nat} {xs : Nat → Int32} {d j pc n : Nat} {ls : List (Option Value)} {st : List Value} {M : xM} {Q : xO → Prop}
theorem Rn.go (k : Nat) {d' j' pc' n' : Nat} {ls' : List (Option Value)} {st' : List Value} {M' : xM} (h : ∀ f, xrun L xs (f + k) d j pc ls st n M = xrun L xs f d' j' pc' ls' st' n' M') (hr : Rn L xs d' j' pc' ls' st' n' M' Q) : Rn L xs d j pc ls st n M Q := by
  obtain ⟨f, o, e, q⟩ := hr
  exact ⟨f + k, o, (h f).trans e, q⟩
theorem Rn.fi (k : Nat) {c : Prop} [Decidable c] {p1 n1 p2 n2 : Nat} {l1 l2 : List (Option Value)} {s1 s2 : List Value} {M1 M2 : xM} (h : ∀ f, xrun L xs (f + k) d j pc ls st n M = if c then xrun L xs f d j p1 l1 s1 n1 M1 else xrun L xs f d j p2 l2 s2 n2 M2) (ht : c → Rn L xs d j p1 l1 s1 n1 M1 Q) (he : ¬ c → Rn L xs d j p2 l2 s2 n2 M2 Q) : Rn L xs d j pc ls st n M Q := by
  by_cases hc : c
  · obtain ⟨f, o, e, q⟩ := ht hc
    exact ⟨f + k, o, by rw [h f, if_pos hc]; exact e, q⟩
  · obtain ⟨f, o, e, q⟩ := he hc
    exact ⟨f + k, o, by rw [h f, if_neg hc]; exact e, q⟩
theorem Rn.ok (k : Nat) {c : Prop} [Decidable c] {p1 n1 : Nat} {l1 : List (Option Value)} {s1 : List Value} {M1 : xM} (h : ∀ f, xrun L xs (f + k) d j pc ls st n M = if c then none else xrun L xs f d j p1 l1 s1 n1 M1) (hc : ¬ c) (he : Rn L xs d j p1 l1 s1 n1 M1 Q) : Rn L xs d j pc ls st n M Q := by
  obtain ⟨f, o, e, q⟩ := he
  exact ⟨f + k, o, by rw [h f, if_neg hc]; exact e, q⟩
theorem Rn.okT (k : Nat) {c : Prop} [Decidable c] {p1 n1 : Nat} {l1 : List (Option Value)} {s1 : List Value} {M1 : xM} (h : ∀ f, xrun L xs (f + k) d j pc ls st n M = if c then xrun L xs f d j p1 l1 s1 n1 M1 else none) (hc : c) (he : Rn L xs d j p1 l1 s1 n1 M1 Q) : Rn L xs d j pc ls st n M Q := by
  obtain ⟨f, o, e, q⟩ := he
  exact ⟨f + k, o, by rw [h f, if_pos hc]; exact e, q⟩
theorem Rn.ret (k : Nat) {o : xO} (h : ∀ f, xrun L xs (f + k) d j pc ls st n M = some o) (hq : Q o) : Rn L xs d j pc ls st n M Q := ⟨0 + k, o, h 0, hq⟩
theorem Rn.retT (k : Nat) {c : Prop} [Decidable c] {o : xO} (h : ∀ f, xrun L xs (f + k) d j pc ls st n M = match (if c then some o.1 else none) with
    | some r => some (r, o.2.1, o.2.2)
    | none => none) (hc : c) (hq : Q o) : Rn L xs d j pc ls st n M Q := ⟨0 + k, o, by rw [h 0, if_pos hc], hq⟩
theorem Rn.call {d1 j1 : Nat} {ls1 : List (Option Value)} {rest : List Value} (h : ∀ f, xrun L xs (f + 1) (d1 + 1) j pc ls st n M = match xrun L xs f d1 j1 0 ls1 [] n M with
    | some o => xrun L xs f (d1 + 1) j (pc + 3) ls (o.1.toList ++ rest) o.2.1 o.2.2
    | none => none) (hr : Rn L xs d1 j1 0 ls1 [] n M (fun o => Rn L xs (d1 + 1) j (pc + 3) ls (o.1.toList ++ rest) o.2.1 o.2.2 Q)) : Rn L xs (d1 + 1) j pc ls st n M Q := by
  obtain ⟨f1, o1, e1, f2, o, e2, q⟩ := hr
  refine ⟨f1 + f2 + 1, o, ?_, q⟩
  have e3 : xrun L xs (f1 + f2) d1 j1 0 ls1 [] n M = some o1 := xrun_le _ _ _ _ _ _ _ _ _ f2 0 e1
  rw [h, e3]
  show xrun L xs (f1 + f2) (d1 + 1) j (pc + 3) ls (o1.1.toList ++ rest) o1.2.1 o1.2.2 = some o
  rw [Nat.add_comm f1 f2]
  exact xrun_le _ _ _ _ _ _ _ _ _ f1 0 e2
theorem Rn.imp {Q' : xO → Prop} (h : Rn L xs d j pc ls st n M Q) (hq : ∀ o, Q o → Q' o) : Rn L xs d j pc ls st n M Q' := by
  obtain ⟨f, o, e, q⟩ := h
  exact ⟨f, o, e, hq o q⟩
theorem Rn.deep {e : Nat} (h : Rn L xs d j pc ls st n M Q) : Rn L xs (d + e) j pc ls st n M Q := by
  obtain ⟨f, o, e1, q⟩ := h
  exact ⟨f, o, by have := xrun_le _ _ _ _ _ _ _ _ _ 0 e e1; exact this, q⟩
end RN
/-- a loop with a bound -/
def xloop {S R : Type} (body : S → Option (S ⊕ R)) : Nat → S → Option R
  | 0, _ => none
  | n + 1, s => match body s with
    | none => none
    | some (.inl s') => xloop body n s'
    | some (.inr r) => some r
theorem xloop_some {S R : Type} {body : S → Option (S ⊕ R)} {P : S → Prop} (r : R) (hb : ∀ s, (∃ s', body s = some (.inl s') ∧ P s') → P s) (hr : ∀ s, body s = some (.inr r) → P s) : ∀ (n : Nat) (s : S), xloop body n s = some r → P s := by
  intro n
  induction n with
  | zero => intro s h; exact absurd h (by simp [xloop])
  | succ n ih =>
    intro s h
    unfold xloop at h
    split at h
    · exact absurd h (by simp)
    · rename_i s' hs
      exact hb s ⟨s', hs, ih s' h⟩
    · rename_i r' hs
      cases h
      exact hr s hs
