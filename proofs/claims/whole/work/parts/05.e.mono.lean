/-! calls, returns, and the whole: what the abstract machine answers, the real one answers -/
set_option maxHeartbeats 4000000 in
theorem xi_k {α : Type} {L : Nat} {xs : Nat → Int32} {ini pc : Nat} {q : xQ} {ls : List (Option Value)} {st : List Value} {n : Nat} {M : xM} {k : xK α} {o : α} (h : xi L xs ini pc q ls st n M k = some o) : ∃ pc' ls' st' n' M', n ≤ n' ∧ k pc' ls' st' n' M' = some o := by
  obtain ⟨i, len, r1, r2⟩ := q
  cases i with
  | iconst _ => exact ⟨_, _, _, _, _, Nat.le_refl n, h⟩
  | bipush _ => exact ⟨_, _, _, _, _, Nat.le_refl n, h⟩
  | sipush _ => exact ⟨_, _, _, _, _, Nat.le_refl n, h⟩
  | lconst _ => exact ⟨_, _, _, _, _, Nat.le_refl n, h⟩
  | ldc_w _ => exact ⟨_, _, _, _, _, Nat.le_refl n, h⟩
  | ldc2_w _ => exact ⟨_, _, _, _, _, Nat.le_refl n, h⟩
  | goto _ => exact ⟨_, _, _, _, _, Nat.le_refl n, h⟩
  | iload _ => obtain ⟨_, -, h⟩ := xld_some h; obtain ⟨_, -, h⟩ := xii_some h; exact ⟨_, _, _, _, _, Nat.le_refl n, h⟩
  | iload_n _ => obtain ⟨_, -, h⟩ := xld_some h; obtain ⟨_, -, h⟩ := xii_some h; exact ⟨_, _, _, _, _, Nat.le_refl n, h⟩
  | lload _ => obtain ⟨_, -, h⟩ := xld_some h; obtain ⟨_, -, h⟩ := xll_some h; exact ⟨_, _, _, _, _, Nat.le_refl n, h⟩
  | lload_n _ => obtain ⟨_, -, h⟩ := xld_some h; obtain ⟨_, -, h⟩ := xll_some h; exact ⟨_, _, _, _, _, Nat.le_refl n, h⟩
  | aload _ => obtain ⟨_, -, h⟩ := xld_some h; obtain ⟨_, -, -, h⟩ := xrr_some h; exact ⟨_, _, _, _, _, Nat.le_refl n, h⟩
  | aload_n _ => obtain ⟨_, -, h⟩ := xld_some h; obtain ⟨_, -, -, h⟩ := xrr_some h; exact ⟨_, _, _, _, _, Nat.le_refl n, h⟩
  | istore _ => obtain ⟨-, h⟩ := xbif h; obtain ⟨_, _, -, h⟩ := x1_some h; exact ⟨_, _, _, _, _, Nat.le_refl n, h⟩
  | istore_n _ => obtain ⟨-, h⟩ := xbif h; obtain ⟨_, _, -, h⟩ := x1_some h; exact ⟨_, _, _, _, _, Nat.le_refl n, h⟩
  | astore _ => obtain ⟨-, h⟩ := xbif h; obtain ⟨_, _, -, -, h⟩ := xr_some h; exact ⟨_, _, _, _, _, Nat.le_refl n, h⟩
  | astore_n _ => obtain ⟨-, h⟩ := xbif h; obtain ⟨_, _, -, -, h⟩ := xr_some h; exact ⟨_, _, _, _, _, Nat.le_refl n, h⟩
  | lstore _ => obtain ⟨-, h⟩ := xbif h; obtain ⟨_, _, -, h⟩ := xtop_some h; obtain ⟨_, -, h⟩ := xll_some h; exact ⟨_, _, _, _, _, Nat.le_refl n, h⟩
  | iinc _ _ => obtain ⟨-, h⟩ := xbif h; obtain ⟨_, -, h⟩ := xld_some h; obtain ⟨_, -, h⟩ := xii_some h; exact ⟨_, _, _, _, _, Nat.le_refl n, h⟩
  | iadd => obtain ⟨_, _, _, -, h⟩ := x2_some h; exact ⟨_, _, _, _, _, Nat.le_refl n, h⟩
  | isub => obtain ⟨_, _, _, -, h⟩ := x2_some h; exact ⟨_, _, _, _, _, Nat.le_refl n, h⟩
  | imul => obtain ⟨_, _, _, -, h⟩ := x2_some h; exact ⟨_, _, _, _, _, Nat.le_refl n, h⟩
  | iand => obtain ⟨_, _, _, -, h⟩ := x2_some h; exact ⟨_, _, _, _, _, Nat.le_refl n, h⟩
  | ior => obtain ⟨_, _, _, -, h⟩ := x2_some h; exact ⟨_, _, _, _, _, Nat.le_refl n, h⟩
  | ixor => obtain ⟨_, _, _, -, h⟩ := x2_some h; exact ⟨_, _, _, _, _, Nat.le_refl n, h⟩
  | ishl => obtain ⟨_, _, _, -, h⟩ := x2_some h; exact ⟨_, _, _, _, _, Nat.le_refl n, h⟩
  | ishr => obtain ⟨_, _, _, -, h⟩ := x2_some h; exact ⟨_, _, _, _, _, Nat.le_refl n, h⟩
  | iushr => obtain ⟨_, _, _, -, h⟩ := x2_some h; exact ⟨_, _, _, _, _, Nat.le_refl n, h⟩
  | idiv => obtain ⟨_, _, _, -, h⟩ := x2_some h; obtain ⟨-, h⟩ := xif h; exact ⟨_, _, _, _, _, Nat.le_refl n, h⟩
  | irem => obtain ⟨_, _, _, -, h⟩ := x2_some h; obtain ⟨-, h⟩ := xif h; exact ⟨_, _, _, _, _, Nat.le_refl n, h⟩
  | ladd => obtain ⟨_, _, _, -, h⟩ := x2l_some h; exact ⟨_, _, _, _, _, Nat.le_refl n, h⟩
  | lmul => obtain ⟨_, _, _, -, h⟩ := x2l_some h; exact ⟨_, _, _, _, _, Nat.le_refl n, h⟩
  | lcmp => obtain ⟨_, _, _, -, h⟩ := x2l_some h; exact ⟨_, _, _, _, _, Nat.le_refl n, h⟩
  | ineg => obtain ⟨_, _, -, h⟩ := x1_some h; exact ⟨_, _, _, _, _, Nat.le_refl n, h⟩
  | i2l => obtain ⟨_, _, -, h⟩ := x1_some h; exact ⟨_, _, _, _, _, Nat.le_refl n, h⟩
  | i2b => obtain ⟨_, _, -, h⟩ := x1_some h; exact ⟨_, _, _, _, _, Nat.le_refl n, h⟩
  | i2c => obtain ⟨_, _, -, h⟩ := x1_some h; exact ⟨_, _, _, _, _, Nat.le_refl n, h⟩
  | dup => obtain ⟨_, _, -, h⟩ := xtop_some h; obtain ⟨-, h⟩ := xbif h; exact ⟨_, _, _, _, _, Nat.le_refl n, h⟩
  | pop => obtain ⟨_, _, -, h⟩ := xtop_some h; obtain ⟨-, h⟩ := xbif h; exact ⟨_, _, _, _, _, Nat.le_refl n, h⟩
  | dup2 => obtain ⟨_, _, -, h⟩ := xtop_some h; obtain ⟨_, _, -, h⟩ := xtop_some h; obtain ⟨-, h⟩ := xbif h; exact ⟨_, _, _, _, _, Nat.le_refl n, h⟩
  | arraylength => obtain ⟨_, _, -, -, h⟩ := xr_some h; obtain ⟨-, h⟩ := xbif h; exact ⟨_, _, _, _, _, Nat.le_refl n, h⟩
  | iaload => obtain ⟨_, _, _, -, h⟩ := xia_some h; obtain ⟨-, -, h⟩ := xal_some h; exact ⟨_, _, _, _, _, Nat.le_refl n, h⟩
  | baload => obtain ⟨_, _, _, -, h⟩ := xia_some h; obtain ⟨-, -, h⟩ := xal_some h; exact ⟨_, _, _, _, _, Nat.le_refl n, h⟩
  | laload => obtain ⟨_, _, _, -, h⟩ := xia_some h; obtain ⟨-, -, -, -, h⟩ := xaw_some h; exact ⟨_, _, _, _, _, Nat.le_refl n, h⟩
  | aaload => obtain ⟨_, _, _, -, h⟩ := xia_some h; obtain ⟨-, -, -, -, h⟩ := xaw_some h; obtain ⟨_, -, -, h⟩ := xrr_some h; exact ⟨_, _, _, _, _, Nat.le_refl n, h⟩
  | iastore => obtain ⟨_, _, _, _, -, h⟩ := xva_some h; obtain ⟨_, -, h⟩ := xii_some h; obtain ⟨-, -, -, -, h⟩ := xaw_some h; exact ⟨_, _, _, _, _, Nat.le_refl n, h⟩
  | bastore => obtain ⟨_, _, _, _, -, h⟩ := xva_some h; obtain ⟨_, -, h⟩ := xii_some h; obtain ⟨-, -, -, -, h⟩ := xaw_some h; exact ⟨_, _, _, _, _, Nat.le_refl n, h⟩
  | lastore => obtain ⟨_, _, _, _, -, h⟩ := xva_some h; obtain ⟨_, -, h⟩ := xll_some h; obtain ⟨-, -, -, -, h⟩ := xaw_some h; exact ⟨_, _, _, _, _, Nat.le_refl n, h⟩
  | aastore => obtain ⟨_, _, _, _, -, h⟩ := xva_some h; obtain ⟨_, -, -, h⟩ := xrr_some h; obtain ⟨-, h⟩ := xbif h; obtain ⟨-, -, -, -, h⟩ := xaw_some h; exact ⟨_, _, _, _, _, Nat.le_refl n, h⟩
  | new _ => obtain ⟨-, h⟩ := xbif h; exact ⟨_, _, _, _, _, Nat.le_succ n, h⟩
  | newarray _ => obtain ⟨_, _, -, h⟩ := x1_some h; obtain ⟨-, h⟩ := xbif h; obtain ⟨-, h⟩ := xif h; exact ⟨_, _, _, _, _, Nat.le_succ n, h⟩
  | anewarray _ => obtain ⟨_, _, -, h⟩ := x1_some h; obtain ⟨-, h⟩ := xbif h; obtain ⟨-, h⟩ := xif h; exact ⟨_, _, _, _, _, Nat.le_succ n, h⟩
  | ifCond cd _ =>
    cases cd with
    | eq =>
      obtain ⟨x, _, -, h⟩ := x1_some h
      by_cases hc : x = 0
      · rw [if_pos hc] at h; exact ⟨_, _, _, _, _, Nat.le_refl n, h⟩
      · rw [if_neg hc] at h; exact ⟨_, _, _, _, _, Nat.le_refl n, h⟩
    | ne =>
      obtain ⟨x, _, -, h⟩ := x1_some h
      by_cases hc : x = 0
      · rw [if_pos hc] at h; exact ⟨_, _, _, _, _, Nat.le_refl n, h⟩
      · rw [if_neg hc] at h; exact ⟨_, _, _, _, _, Nat.le_refl n, h⟩
    | lt =>
      obtain ⟨x, _, -, h⟩ := x1_some h
      by_cases hc : x < 0
      · rw [if_pos hc] at h; exact ⟨_, _, _, _, _, Nat.le_refl n, h⟩
      · rw [if_neg hc] at h; exact ⟨_, _, _, _, _, Nat.le_refl n, h⟩
    | ge =>
      obtain ⟨x, _, -, h⟩ := x1_some h
      by_cases hc : 0 ≤ x
      · rw [if_pos hc] at h; exact ⟨_, _, _, _, _, Nat.le_refl n, h⟩
      · rw [if_neg hc] at h; exact ⟨_, _, _, _, _, Nat.le_refl n, h⟩
    | gt =>
      obtain ⟨x, _, -, h⟩ := x1_some h
      by_cases hc : 0 < x
      · rw [if_pos hc] at h; exact ⟨_, _, _, _, _, Nat.le_refl n, h⟩
      · rw [if_neg hc] at h; exact ⟨_, _, _, _, _, Nat.le_refl n, h⟩
    | le =>
      obtain ⟨x, _, -, h⟩ := x1_some h
      by_cases hc : x ≤ 0
      · rw [if_pos hc] at h; exact ⟨_, _, _, _, _, Nat.le_refl n, h⟩
      · rw [if_neg hc] at h; exact ⟨_, _, _, _, _, Nat.le_refl n, h⟩
  | if_icmp cd _ =>
    cases cd with
    | eq =>
      obtain ⟨x, y, _, -, h⟩ := x2_some h
      by_cases hc : x = y
      · rw [if_pos hc] at h; exact ⟨_, _, _, _, _, Nat.le_refl n, h⟩
      · rw [if_neg hc] at h; exact ⟨_, _, _, _, _, Nat.le_refl n, h⟩
    | ne =>
      obtain ⟨x, y, _, -, h⟩ := x2_some h
      by_cases hc : x = y
      · rw [if_pos hc] at h; exact ⟨_, _, _, _, _, Nat.le_refl n, h⟩
      · rw [if_neg hc] at h; exact ⟨_, _, _, _, _, Nat.le_refl n, h⟩
    | lt =>
      obtain ⟨x, y, _, -, h⟩ := x2_some h
      by_cases hc : x < y
      · rw [if_pos hc] at h; exact ⟨_, _, _, _, _, Nat.le_refl n, h⟩
      · rw [if_neg hc] at h; exact ⟨_, _, _, _, _, Nat.le_refl n, h⟩
    | ge =>
      obtain ⟨x, y, _, -, h⟩ := x2_some h
      by_cases hc : y ≤ x
      · rw [if_pos hc] at h; exact ⟨_, _, _, _, _, Nat.le_refl n, h⟩
      · rw [if_neg hc] at h; exact ⟨_, _, _, _, _, Nat.le_refl n, h⟩
    | gt =>
      obtain ⟨x, y, _, -, h⟩ := x2_some h
      by_cases hc : y < x
      · rw [if_pos hc] at h; exact ⟨_, _, _, _, _, Nat.le_refl n, h⟩
      · rw [if_neg hc] at h; exact ⟨_, _, _, _, _, Nat.le_refl n, h⟩
    | le =>
      obtain ⟨x, y, _, -, h⟩ := x2_some h
      by_cases hc : x ≤ y
      · rw [if_pos hc] at h; exact ⟨_, _, _, _, _, Nat.le_refl n, h⟩
      · rw [if_neg hc] at h; exact ⟨_, _, _, _, _, Nat.le_refl n, h⟩
  | tableswitch d lo hi os =>
    obtain ⟨x, r, -, h⟩ := x1_some h
    by_cases hc : x.toInt < lo ∨ hi < x.toInt
    · rw [if_pos hc] at h; exact ⟨_, _, _, _, _, Nat.le_refl n, h⟩
    · rw [if_neg hc] at h
      cases ho : os[(x.toInt - lo).toNat]? with
      | none => rw [ho] at h; exact absurd h (by simp)
      | some off => rw [ho] at h; exact ⟨_, _, _, _, _, Nat.le_refl n, h⟩
  | lookupswitch _ _ => obtain ⟨_, _, -, h⟩ := x1_some h; exact ⟨_, _, _, _, _, Nat.le_refl n, h⟩
  | ldc _ =>
    have h : (bif Nat.beq r2 0 then k (pc + 2) ls (.int (Int32.ofNat r1) :: st) n M else bif Nat.beq r2 1 then k (pc + 2) ls (.ref r1 :: st) n M else none) = some o := h
    cases hr : Nat.beq r2 0 with
    | true => rw [hr] at h; exact ⟨_, _, _, _, _, Nat.le_refl n, h⟩
    | false => rw [hr] at h; obtain ⟨-, h⟩ := xbif (show (bif Nat.beq r2 1 then k (pc + 2) ls (.ref r1 :: st) n M else none) = some o from h); exact ⟨_, _, _, _, _, Nat.le_refl n, h⟩
  | getstatic _ =>
    have h : (bif Nat.beq r2 0 then k (pc + 3) ls (.ref r1 :: st) n M else bif Nat.beq r2 1 then k (pc + 3) ls (.int (Int32.ofNat r1) :: st) n M else none) = some o := h
    cases hr : Nat.beq r2 0 with
    | true => rw [hr] at h; exact ⟨_, _, _, _, _, Nat.le_refl n, h⟩
    | false => rw [hr] at h; obtain ⟨-, h⟩ := xbif (show (bif Nat.beq r2 1 then k (pc + 3) ls (.int (Int32.ofNat r1) :: st) n M else none) = some o from h); exact ⟨_, _, _, _, _, Nat.le_refl n, h⟩
  | getfield _ =>
    obtain ⟨a, r, -, -, h⟩ := xr_some h
    obtain ⟨-, h⟩ := xbif h
    have h : (bif Nat.blt a 1000 then k (pc + 3) ls (xfa (r2 / 100 % 10) M a (r2 % 100) :: r) n M else (bif Nat.beq r2 0 then k (pc + 3) ls (.int 0 :: r) n M else k (pc + 3) ls (.ref (a + 100) :: r) n M)) = some o := h
    cases h1 : Nat.blt a 1000 with
    | true => rw [h1] at h; exact ⟨_, _, _, _, _, Nat.le_refl n, h⟩
    | false =>
      rw [h1] at h
      have h : (bif Nat.beq r2 0 then k (pc + 3) ls (.int 0 :: r) n M else k (pc + 3) ls (.ref (a + 100) :: r) n M) = some o := h
      cases h2 : Nat.beq r2 0 with
      | true => rw [h2] at h; exact ⟨_, _, _, _, _, Nat.le_refl n, h⟩
      | false => rw [h2] at h; exact ⟨_, _, _, _, _, Nat.le_refl n, h⟩
  | putfield _ =>
    obtain ⟨v, a, r, -, h⟩ := xvr_some h
    obtain ⟨-, h⟩ := xbif h
    have h : (match r2 / 100 % 10 with
      | 0 => xii v fun x => k (pc + 3) ls r n (xup M.1 a (r2 % 100) x, M.2.1, M.2.2)
      | 1 => xii v fun x => if x = 0 ∨ x = 1 then k (pc + 3) ls r n (xup M.1 a (r2 % 100) x, M.2.1, M.2.2) else none
      | 2 => xll v fun x => k (pc + 3) ls r n (M.1, xup M.2.1 a (r2 % 100) x, M.2.2)
      | _ => xrr v fun x => k (pc + 3) ls r n (M.1, M.2.1, xup M.2.2 a (r2 % 100) (some x))) = some o := h
    generalize r2 / 100 % 10 = tt at h
    match tt, h with
    | 0, h => obtain ⟨_, -, h⟩ := xii_some h; exact ⟨_, _, _, _, _, Nat.le_refl n, h⟩
    | 1, h => obtain ⟨_, -, h⟩ := xii_some h; obtain ⟨-, h⟩ := xifT h; exact ⟨_, _, _, _, _, Nat.le_refl n, h⟩
    | 2, h => obtain ⟨_, -, h⟩ := xll_some h; exact ⟨_, _, _, _, _, Nat.le_refl n, h⟩
    | t + 3, h => obtain ⟨_, -, -, h⟩ := xrr_some h; exact ⟨_, _, _, _, _, Nat.le_refl n, h⟩
  | _ => exact absurd (show (none : Option α) = some o from h) (by simp)
theorem xrun_mono {L : Nat} {xs : Nat → Int32} : ∀ (f d j pc : Nat) (ls : List (Option Value)) (st : List Value) (n : Nat) (M : xM) (o : xO), xrun L xs f d j pc ls st n M = some o → n ≤ o.2.1 := by
  intro f
  induction f with
  | zero => intro d j pc ls st n M o h; exact absurd h (by simp [xrun])
  | succ f ih =>
    intro d j pc ls st n M o h
    unfold xrun at h
    split at h
    · exact absurd h (by simp)
    · rename_i q hq
      split at h
      · obtain ⟨pc', ls', st', n', M', hn, h⟩ := xi_k h
        exact Nat.le_trans hn (ih _ _ _ _ _ _ _ _ h)
      · split at h
        · cases h; exact Nat.le_refl _
        · exact absurd h (by simp)
      · rename_i s hs
        cases h2 : Nat.beq q.2.2.2 2 with
        | true =>
          rw [h2] at h
          obtain ⟨_, _, -, -, h⟩ := xr_some h
          obtain ⟨-, h⟩ := xbif h
          exact ih _ _ _ _ _ _ _ _ h
        | false =>
          rw [h2, cond_false] at h
          cases h3 : Nat.beq q.2.2.2 3 with
          | true =>
            rw [h3] at h
            obtain ⟨_, _, _, _, _, _, -, h⟩ := xcopy_some h
            obtain ⟨-, h⟩ := xbif h
            obtain ⟨-, h⟩ := xif h
            exact ih _ _ _ _ _ _ _ _ h
          | false =>
            rw [h3, cond_false] at h
            cases h4 : Nat.beq q.2.2.2 4 with
            | true =>
              rw [h4] at h
              obtain ⟨_, _, _, -, h⟩ := x2_some h
              obtain ⟨-, h⟩ := xbif h
              exact ih _ _ _ _ _ _ _ _ h
            | false =>
              rw [h4, cond_false] at h
              cases h5 : Nat.beq q.2.2.2 5 with
              | true =>
                rw [h5] at h
                obtain ⟨_, _, _, -, h⟩ := x2_some h
                obtain ⟨-, h⟩ := xbif h
                exact ih _ _ _ _ _ _ _ _ h
              | false =>
                rw [h5, cond_false] at h
                split at h
                · exact absurd h (by simp)
                · obtain ⟨-, h⟩ := xbif h
                  split at h
                  · rename_i o1 ho1
                    exact Nat.le_trans (ih _ _ _ _ _ _ _ _ ho1) (ih _ _ _ _ _ _ _ _ h)
                  · exact absurd h (by simp)
