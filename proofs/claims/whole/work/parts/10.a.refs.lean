/-! references stay within their places -/
def xRv (n : Nat) (M : xM) : Prop := n ≤ 94 ∧ ∀ a i, 94 ≤ a ∨ 100 ≤ i → M.2.2 a i = none
theorem xRv_up {n a i : Nat} {v : Option Nat} {M : xM} (h : xRv n M) (ha : a < n) (hi : i < 100) {A : xI} {B : xJ} : xRv n (A, B, xup M.2.2 a i v) := by
  refine ⟨h.1, fun b k hb => ?_⟩
  have h1 := h.1
  show xup M.2.2 a i v b k = none
  unfold xup
  by_cases hba : b = a
  · rw [if_pos hba]
    show (if k = i then v else M.2.2 a k) = none
    rw [if_neg (by omega), ← hba]
    exact h.2 b k hb
  · rw [if_neg hba]
    exact h.2 b k hb
theorem xRv_new {n : Nat} {M : xM} (h : xRv n M) (hk : (xk n).1 < 18) {A : xI} {B : xJ} : xRv (n + 1) (A, B, xz M.2.2 n none) := by
  have := xk_lt hk
  refine ⟨by omega, fun b k hb => ?_⟩
  show xz M.2.2 n none b k = none
  unfold xz
  by_cases hbn : b = n
  · rw [if_pos hbn]
  · rw [if_neg hbn]
    exact h.2 b k hb
theorem xlay17 : xlay.all (fun r => !(Nat.beq r.1 17) || Nat.ble r.2 100) = true := by decide +kernel
theorem xk17 {a : Nat} {i : Int32} (h : (xk a).1 = 17) (hv : vp_in i (xk a).2) : i.toNatClampNeg < 100 := by
  have hlt : i.toNatClampNeg < (xk a).2 := Nat.not_le.mp fun q => hv (Or.inr q)
  have : (xk a).2 ≤ 100 := by
    unfold xk at h ⊢
    rw [List.getD_eq_getElem?_getD] at h ⊢
    cases hx : xlay[a]? with
    | none => exact Nat.zero_le _
    | some r =>
      rw [hx] at h
      have := List.all_eq_true.mp xlay17 r (List.mem_of_getElem? hx)
      rw [show r.1 = 17 from h] at this
      exact Nat.le_of_ble_eq_true this
  omega
set_option maxHeartbeats 4000000 in
theorem xi_R {α : Type} {L : Nat} {xs : Nat → Int32} {ini pc : Nat} {q : xQ} {ls : List (Option Value)} {st : List Value} {n : Nat} {M : xM} {k : xK α} {o : α} (hR : xRv n M) (h : xi L xs ini pc q ls st n M k = some o) : ∃ pc' ls' st' n' M', k pc' ls' st' n' M' = some o ∧ xRv n' M' := by
  obtain ⟨i, len, r1, r2⟩ := q
  cases i with
  | iconst _ => exact ⟨_, _, _, _, _, h, hR⟩
  | bipush _ => exact ⟨_, _, _, _, _, h, hR⟩
  | sipush _ => exact ⟨_, _, _, _, _, h, hR⟩
  | lconst _ => exact ⟨_, _, _, _, _, h, hR⟩
  | ldc_w _ => exact ⟨_, _, _, _, _, h, hR⟩
  | ldc2_w _ => exact ⟨_, _, _, _, _, h, hR⟩
  | goto _ => exact ⟨_, _, _, _, _, h, hR⟩
  | iload _ => obtain ⟨_, -, h⟩ := xld_some h; obtain ⟨_, -, h⟩ := xii_some h; exact ⟨_, _, _, _, _, h, hR⟩
  | iload_n _ => obtain ⟨_, -, h⟩ := xld_some h; obtain ⟨_, -, h⟩ := xii_some h; exact ⟨_, _, _, _, _, h, hR⟩
  | lload _ => obtain ⟨_, -, h⟩ := xld_some h; obtain ⟨_, -, h⟩ := xll_some h; exact ⟨_, _, _, _, _, h, hR⟩
  | lload_n _ => obtain ⟨_, -, h⟩ := xld_some h; obtain ⟨_, -, h⟩ := xll_some h; exact ⟨_, _, _, _, _, h, hR⟩
  | aload _ => obtain ⟨_, -, h⟩ := xld_some h; obtain ⟨_, -, -, h⟩ := xrr_some h; exact ⟨_, _, _, _, _, h, hR⟩
  | aload_n _ => obtain ⟨_, -, h⟩ := xld_some h; obtain ⟨_, -, -, h⟩ := xrr_some h; exact ⟨_, _, _, _, _, h, hR⟩
  | istore _ => obtain ⟨-, h⟩ := xbif h; obtain ⟨_, _, -, h⟩ := x1_some h; exact ⟨_, _, _, _, _, h, hR⟩
  | istore_n _ => obtain ⟨-, h⟩ := xbif h; obtain ⟨_, _, -, h⟩ := x1_some h; exact ⟨_, _, _, _, _, h, hR⟩
  | astore _ => obtain ⟨-, h⟩ := xbif h; obtain ⟨_, _, -, -, h⟩ := xr_some h; exact ⟨_, _, _, _, _, h, hR⟩
  | astore_n _ => obtain ⟨-, h⟩ := xbif h; obtain ⟨_, _, -, -, h⟩ := xr_some h; exact ⟨_, _, _, _, _, h, hR⟩
  | lstore _ => obtain ⟨-, h⟩ := xbif h; obtain ⟨_, _, -, h⟩ := xtop_some h; obtain ⟨_, -, h⟩ := xll_some h; exact ⟨_, _, _, _, _, h, hR⟩
  | iinc _ _ => obtain ⟨-, h⟩ := xbif h; obtain ⟨_, -, h⟩ := xld_some h; obtain ⟨_, -, h⟩ := xii_some h; exact ⟨_, _, _, _, _, h, hR⟩
  | iadd => obtain ⟨_, _, _, -, h⟩ := x2_some h; exact ⟨_, _, _, _, _, h, hR⟩
  | isub => obtain ⟨_, _, _, -, h⟩ := x2_some h; exact ⟨_, _, _, _, _, h, hR⟩
  | imul => obtain ⟨_, _, _, -, h⟩ := x2_some h; exact ⟨_, _, _, _, _, h, hR⟩
  | iand => obtain ⟨_, _, _, -, h⟩ := x2_some h; exact ⟨_, _, _, _, _, h, hR⟩
  | ior => obtain ⟨_, _, _, -, h⟩ := x2_some h; exact ⟨_, _, _, _, _, h, hR⟩
  | ixor => obtain ⟨_, _, _, -, h⟩ := x2_some h; exact ⟨_, _, _, _, _, h, hR⟩
  | ishl => obtain ⟨_, _, _, -, h⟩ := x2_some h; exact ⟨_, _, _, _, _, h, hR⟩
  | ishr => obtain ⟨_, _, _, -, h⟩ := x2_some h; exact ⟨_, _, _, _, _, h, hR⟩
  | iushr => obtain ⟨_, _, _, -, h⟩ := x2_some h; exact ⟨_, _, _, _, _, h, hR⟩
  | idiv => obtain ⟨_, _, _, -, h⟩ := x2_some h; obtain ⟨-, h⟩ := xif h; exact ⟨_, _, _, _, _, h, hR⟩
  | irem => obtain ⟨_, _, _, -, h⟩ := x2_some h; obtain ⟨-, h⟩ := xif h; exact ⟨_, _, _, _, _, h, hR⟩
  | ladd => obtain ⟨_, _, _, -, h⟩ := x2l_some h; exact ⟨_, _, _, _, _, h, hR⟩
  | lmul => obtain ⟨_, _, _, -, h⟩ := x2l_some h; exact ⟨_, _, _, _, _, h, hR⟩
  | lcmp => obtain ⟨_, _, _, -, h⟩ := x2l_some h; exact ⟨_, _, _, _, _, h, hR⟩
  | ineg => obtain ⟨_, _, -, h⟩ := x1_some h; exact ⟨_, _, _, _, _, h, hR⟩
  | i2l => obtain ⟨_, _, -, h⟩ := x1_some h; exact ⟨_, _, _, _, _, h, hR⟩
  | i2b => obtain ⟨_, _, -, h⟩ := x1_some h; exact ⟨_, _, _, _, _, h, hR⟩
  | i2c => obtain ⟨_, _, -, h⟩ := x1_some h; exact ⟨_, _, _, _, _, h, hR⟩
  | dup => obtain ⟨_, _, -, h⟩ := xtop_some h; obtain ⟨-, h⟩ := xbif h; exact ⟨_, _, _, _, _, h, hR⟩
  | pop => obtain ⟨_, _, -, h⟩ := xtop_some h; obtain ⟨-, h⟩ := xbif h; exact ⟨_, _, _, _, _, h, hR⟩
  | dup2 => obtain ⟨_, _, -, h⟩ := xtop_some h; obtain ⟨_, _, -, h⟩ := xtop_some h; obtain ⟨-, h⟩ := xbif h; exact ⟨_, _, _, _, _, h, hR⟩
  | arraylength => obtain ⟨_, _, -, -, h⟩ := xr_some h; obtain ⟨-, h⟩ := xbif h; exact ⟨_, _, _, _, _, h, hR⟩
  | iaload => obtain ⟨_, _, _, -, h⟩ := xia_some h; obtain ⟨-, -, h⟩ := xal_some h; exact ⟨_, _, _, _, _, h, hR⟩
  | baload => obtain ⟨_, _, _, -, h⟩ := xia_some h; obtain ⟨-, -, h⟩ := xal_some h; exact ⟨_, _, _, _, _, h, hR⟩
  | laload => obtain ⟨_, _, _, -, h⟩ := xia_some h; obtain ⟨-, -, -, -, h⟩ := xaw_some h; exact ⟨_, _, _, _, _, h, hR⟩
  | aaload => obtain ⟨_, _, _, -, h⟩ := xia_some h; obtain ⟨-, -, -, -, h⟩ := xaw_some h; obtain ⟨_, -, -, h⟩ := xrr_some h; exact ⟨_, _, _, _, _, h, hR⟩
  | iastore => obtain ⟨_, _, _, _, -, h⟩ := xva_some h; obtain ⟨_, -, h⟩ := xii_some h; obtain ⟨-, -, -, -, h⟩ := xaw_some h; exact ⟨_, _, _, _, _, h, hR⟩
  | bastore => obtain ⟨_, _, _, _, -, h⟩ := xva_some h; obtain ⟨_, -, h⟩ := xii_some h; obtain ⟨-, -, -, -, h⟩ := xaw_some h; exact ⟨_, _, _, _, _, h, hR⟩
  | lastore => obtain ⟨_, _, _, _, -, h⟩ := xva_some h; obtain ⟨_, -, h⟩ := xll_some h; obtain ⟨-, -, -, -, h⟩ := xaw_some h; exact ⟨_, _, _, _, _, h, hR⟩
  | aastore => obtain ⟨_, _, a, _, -, h⟩ := xva_some h; obtain ⟨_, -, -, h⟩ := xrr_some h; obtain ⟨-, h⟩ := xbif h; obtain ⟨han, -, hk, hv, h⟩ := xaw_some h; exact ⟨_, _, _, _, _, h, xRv_up hR han (xk17 (Nat.eq_of_beq_eq_true hk) hv)⟩
  | new _ => obtain ⟨hc, h⟩ := xbif h; simp only [Bool.and_eq_true, Nat.blt_eq] at hc; exact ⟨_, _, _, _, _, h, xRv_new hR (by have := Nat.eq_of_beq_eq_true hc.1; omega)⟩
  | newarray _ => obtain ⟨_, _, -, h⟩ := x1_some h; obtain ⟨hc, h⟩ := xbif h; obtain ⟨-, h⟩ := xif h; simp only [Bool.and_eq_true, Nat.blt_eq, Nat.ble_eq] at hc; exact ⟨_, _, _, _, _, h, xRv_new hR (by have := Nat.eq_of_beq_eq_true hc.1.1.1; omega)⟩
  | anewarray _ => obtain ⟨_, _, -, h⟩ := x1_some h; obtain ⟨hc, h⟩ := xbif h; obtain ⟨-, h⟩ := xif h; simp only [Bool.and_eq_true] at hc; exact ⟨_, _, _, _, _, h, xRv_new hR (by have := Nat.eq_of_beq_eq_true hc.1; omega)⟩
  | ifCond cd _ =>
    cases cd with
    | eq =>
      obtain ⟨x, _, -, h⟩ := x1_some h
      by_cases hc : x = 0
      · rw [if_pos hc] at h; exact ⟨_, _, _, _, _, h, hR⟩
      · rw [if_neg hc] at h; exact ⟨_, _, _, _, _, h, hR⟩
    | ne =>
      obtain ⟨x, _, -, h⟩ := x1_some h
      by_cases hc : x = 0
      · rw [if_pos hc] at h; exact ⟨_, _, _, _, _, h, hR⟩
      · rw [if_neg hc] at h; exact ⟨_, _, _, _, _, h, hR⟩
    | lt =>
      obtain ⟨x, _, -, h⟩ := x1_some h
      by_cases hc : x < 0
      · rw [if_pos hc] at h; exact ⟨_, _, _, _, _, h, hR⟩
      · rw [if_neg hc] at h; exact ⟨_, _, _, _, _, h, hR⟩
    | ge =>
      obtain ⟨x, _, -, h⟩ := x1_some h
      by_cases hc : 0 ≤ x
      · rw [if_pos hc] at h; exact ⟨_, _, _, _, _, h, hR⟩
      · rw [if_neg hc] at h; exact ⟨_, _, _, _, _, h, hR⟩
    | gt =>
      obtain ⟨x, _, -, h⟩ := x1_some h
      by_cases hc : 0 < x
      · rw [if_pos hc] at h; exact ⟨_, _, _, _, _, h, hR⟩
      · rw [if_neg hc] at h; exact ⟨_, _, _, _, _, h, hR⟩
    | le =>
      obtain ⟨x, _, -, h⟩ := x1_some h
      by_cases hc : x ≤ 0
      · rw [if_pos hc] at h; exact ⟨_, _, _, _, _, h, hR⟩
      · rw [if_neg hc] at h; exact ⟨_, _, _, _, _, h, hR⟩
  | if_icmp cd _ =>
    cases cd with
    | eq =>
      obtain ⟨x, y, _, -, h⟩ := x2_some h
      by_cases hc : x = y
      · rw [if_pos hc] at h; exact ⟨_, _, _, _, _, h, hR⟩
      · rw [if_neg hc] at h; exact ⟨_, _, _, _, _, h, hR⟩
    | ne =>
      obtain ⟨x, y, _, -, h⟩ := x2_some h
      by_cases hc : x = y
      · rw [if_pos hc] at h; exact ⟨_, _, _, _, _, h, hR⟩
      · rw [if_neg hc] at h; exact ⟨_, _, _, _, _, h, hR⟩
    | lt =>
      obtain ⟨x, y, _, -, h⟩ := x2_some h
      by_cases hc : x < y
      · rw [if_pos hc] at h; exact ⟨_, _, _, _, _, h, hR⟩
      · rw [if_neg hc] at h; exact ⟨_, _, _, _, _, h, hR⟩
    | ge =>
      obtain ⟨x, y, _, -, h⟩ := x2_some h
      by_cases hc : y ≤ x
      · rw [if_pos hc] at h; exact ⟨_, _, _, _, _, h, hR⟩
      · rw [if_neg hc] at h; exact ⟨_, _, _, _, _, h, hR⟩
    | gt =>
      obtain ⟨x, y, _, -, h⟩ := x2_some h
      by_cases hc : y < x
      · rw [if_pos hc] at h; exact ⟨_, _, _, _, _, h, hR⟩
      · rw [if_neg hc] at h; exact ⟨_, _, _, _, _, h, hR⟩
    | le =>
      obtain ⟨x, y, _, -, h⟩ := x2_some h
      by_cases hc : x ≤ y
      · rw [if_pos hc] at h; exact ⟨_, _, _, _, _, h, hR⟩
      · rw [if_neg hc] at h; exact ⟨_, _, _, _, _, h, hR⟩
  | tableswitch d lo hi os =>
    obtain ⟨x, r, -, h⟩ := x1_some h
    by_cases hc : x.toInt < lo ∨ hi < x.toInt
    · rw [if_pos hc] at h; exact ⟨_, _, _, _, _, h, hR⟩
    · rw [if_neg hc] at h
      cases ho : os[(x.toInt - lo).toNat]? with
      | none => rw [ho] at h; exact absurd h (by simp)
      | some off => rw [ho] at h; exact ⟨_, _, _, _, _, h, hR⟩
  | lookupswitch _ _ => obtain ⟨_, _, -, h⟩ := x1_some h; exact ⟨_, _, _, _, _, h, hR⟩
  | ldc _ =>
    have h : (bif Nat.beq r2 0 then k (pc + 2) ls (.int (Int32.ofNat r1) :: st) n M else bif Nat.beq r2 1 then k (pc + 2) ls (.ref r1 :: st) n M else none) = some o := h
    cases hr : Nat.beq r2 0 with
    | true => rw [hr] at h; exact ⟨_, _, _, _, _, h, hR⟩
    | false => rw [hr] at h; obtain ⟨-, h⟩ := xbif (show (bif Nat.beq r2 1 then k (pc + 2) ls (.ref r1 :: st) n M else none) = some o from h); exact ⟨_, _, _, _, _, h, hR⟩
  | getstatic _ =>
    have h : (bif Nat.beq r2 0 then k (pc + 3) ls (.ref r1 :: st) n M else bif Nat.beq r2 1 then k (pc + 3) ls (.int (Int32.ofNat r1) :: st) n M else none) = some o := h
    cases hr : Nat.beq r2 0 with
    | true => rw [hr] at h; exact ⟨_, _, _, _, _, h, hR⟩
    | false => rw [hr] at h; obtain ⟨-, h⟩ := xbif (show (bif Nat.beq r2 1 then k (pc + 3) ls (.int (Int32.ofNat r1) :: st) n M else none) = some o from h); exact ⟨_, _, _, _, _, h, hR⟩
  | getfield _ =>
    obtain ⟨a, r, -, -, h⟩ := xr_some h
    obtain ⟨-, h⟩ := xbif h
    have h : (bif Nat.blt a 1000 then k (pc + 3) ls (xfa (r2 / 100 % 10) M a (r2 % 100) :: r) n M else (bif Nat.beq r2 0 then k (pc + 3) ls (.int 0 :: r) n M else k (pc + 3) ls (.ref (a + 100) :: r) n M)) = some o := h
    cases h1 : Nat.blt a 1000 with
    | true => rw [h1] at h; exact ⟨_, _, _, _, _, h, hR⟩
    | false =>
      rw [h1] at h
      have h : (bif Nat.beq r2 0 then k (pc + 3) ls (.int 0 :: r) n M else k (pc + 3) ls (.ref (a + 100) :: r) n M) = some o := h
      cases h2 : Nat.beq r2 0 with
      | true => rw [h2] at h; exact ⟨_, _, _, _, _, h, hR⟩
      | false => rw [h2] at h; exact ⟨_, _, _, _, _, h, hR⟩
  | putfield _ =>
    obtain ⟨v, a, r, -, h⟩ := xvr_some h
    obtain ⟨hc, h⟩ := xbif h
    simp only [Bool.and_eq_true, Nat.blt_eq] at hc
    have h : (match r2 / 100 % 10 with
      | 0 => xii v fun x => k (pc + 3) ls r n (xup M.1 a (r2 % 100) x, M.2.1, M.2.2)
      | 1 => xii v fun x => if x = 0 ∨ x = 1 then k (pc + 3) ls r n (xup M.1 a (r2 % 100) x, M.2.1, M.2.2) else none
      | 2 => xll v fun x => k (pc + 3) ls r n (M.1, xup M.2.1 a (r2 % 100) x, M.2.2)
      | _ => xrr v fun x => k (pc + 3) ls r n (M.1, M.2.1, xup M.2.2 a (r2 % 100) (some x))) = some o := h
    generalize r2 / 100 % 10 = tt at h
    match tt, h with
    | 0, h => obtain ⟨_, -, h⟩ := xii_some h; exact ⟨_, _, _, _, _, h, hR⟩
    | 1, h => obtain ⟨_, -, h⟩ := xii_some h; obtain ⟨-, h⟩ := xifT h; exact ⟨_, _, _, _, _, h, hR⟩
    | 2, h => obtain ⟨_, -, h⟩ := xll_some h; exact ⟨_, _, _, _, _, h, hR⟩
    | t + 3, h => obtain ⟨_, -, -, h⟩ := xrr_some h; exact ⟨_, _, _, _, _, h, xRv_up hR hc.1.1.1 (Nat.mod_lt _ (by decide))⟩
  | _ => exact absurd (show (none : Option α) = some o from h) (by simp)
