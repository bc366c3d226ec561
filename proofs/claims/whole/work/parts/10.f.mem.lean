def fH {β γ : Type} (l : List β) (k : List β → γ) : γ := match l with
  | [] => k []
  | e :: r => k (e :: r)
theorem fH_eq {β γ : Type} (l : List β) (k : List β → γ) : fH l k = k l := by cases l <;> rfl
def fM {γ : Type} (m : wM) (k : wL Int32 → wL Int64 → wL (Option Nat) → γ) : γ := fH m.1 fun I => fH m.2.1 fun J => fH m.2.2 fun R => k I J R
theorem fM_eq {γ : Type} (m : wM) (k : wL Int32 → wL Int64 → wL (Option Nat) → γ) : fM m k = k m.1 m.2.1 m.2.2 := by unfold fM; rw [fH_eq, fH_eq, fH_eq]
abbrev wT : Type := Nat × List (Option Value) × List Value × Nat × wM
def wfa (t : Nat) (m : wM) (a i : Nat) : Value := match t with
  | 0 => .int (wrd 0 m.1 a i)
  | 1 => .int (wrd 0 m.1 a i)
  | 2 => .long (wrd 0 m.2.1 a i)
  | _ => va_rf (wrd none m.2.2 a i)
theorem wfa_eq (t : Nat) (m : wM) (a i : Nat) : wfa t m a i = xfa t (wD m) a i := by
  match t with
  | 0 => show Value.int (wrd 0 m.1 a i) = _; rw [wrd_eq]; rfl
  | 1 => show Value.int (wrd 0 m.1 a i) = _; rw [wrd_eq]; rfl
  | 2 => show Value.long (wrd 0 m.2.1 a i) = _; rw [wrd_eq]; rfl
  | t + 3 => show va_rf (wrd none m.2.2 a i) = _; rw [wrd_eq]; rfl
def wnew (pc : Nat) (ls : List (Option Value)) (r : List Value) (n : Nat) (m : wM) : Option wT := fM m fun I J R => some (pc, ls, .ref n :: r, n + 1, ((n, none, 0) :: I, (n, none, 0) :: J, (n, none, none) :: R))
def wmi (ini pc : Nat) (q : xQ) (ls : List (Option Value)) (st : List Value) (n : Nat) (m : wM) : Option wT := match q.1 with
  | .getfield _ => xr st fun a r => bif Nat.beq (xcl n a) q.2.2.1 then (bif Nat.blt a 1000 then fV (wfa (q.2.2.2 / 100 % 10) m a (q.2.2.2 % 100)) fun v => some (pc + 3, ls, v :: r, n, m) else none) else none
  | .iaload => xia st fun i a r => xaw n (fun w => Nat.beq w 14) i a (fN i.toNatClampNeg fun t => fI (wrd 0 m.1 a t) fun w => some (pc + 1, ls, .int w :: r, n, m))
  | .iastore => xva st fun v i a r => xii v fun x => xaw n (fun w => Nat.beq w 14) i a (fN i.toNatClampNeg fun t => fM m fun I J R => some (pc + 1, ls, r, n, ((a, some t, x) :: I, J, R)))
  | .bastore => xva st fun v i a r => xii v fun x => xaw n (fun w => Nat.beq w 13 || Nat.beq w 16) i a (fN i.toNatClampNeg fun t => fI (bif Nat.beq (xk a).1 13 then x.toInt8.toInt32 else vp_nar .boolean x) fun w => fM m fun I J R => some (pc + 1, ls, r, n, ((a, some t, w) :: I, J, R)))
  | .lastore => xva st fun v i a r => xll v fun x => xaw n (fun w => Nat.beq w 15) i a (fN i.toNatClampNeg fun t => fM m fun I J R => some (pc + 1, ls, r, n, (I, (a, some t, x) :: J, R)))
  | .aastore => xva st fun v i a r => xrr v fun x => bif Nat.beq (xcl n x) 5 && Nat.blt x 1000 then xaw n (fun w => Nat.beq w 17) i a (fN i.toNatClampNeg fun t => fM m fun I J R => some (pc + 1, ls, r, n, (I, J, (a, some t, some x) :: R))) else none
  | .new _ => bif Nat.beq (xk n).1 q.2.2.1 && Nat.blt q.2.2.1 13 then wnew (pc + 3) ls st n m else none
  | .newarray _ => x1 st fun x r => bif Nat.beq (xk n).1 q.2.2.1 && Nat.beq (xk n).2 x.toNatClampNeg && Nat.ble 13 q.2.2.1 && Nat.blt q.2.2.1 17 then (if x < 0 then none else wnew (pc + 2) ls r n m) else none
  | .anewarray _ => x1 st fun x r => bif Nat.beq (xk n).1 17 && Nat.beq (xk n).2 x.toNatClampNeg then (if x < 0 then none else wnew (pc + 3) ls r n m) else none
  | .putfield _ => xvr st fun v a r => bif (Nat.blt a n && Nat.blt a 1000 && Nat.beq (xk a).1 q.2.2.1) && (Nat.beq (q.2.2.2 / 1000) 0 || Nat.beq ini (q.2.2.1 + 1)) then (match q.2.2.2 / 100 % 10 with
    | 0 => xii v fun x => fN (q.2.2.2 % 100) fun t => fM m fun I J R => some (pc + 3, ls, r, n, ((a, some t, x) :: I, J, R))
    | 1 => xii v fun x => if x = 0 ∨ x = 1 then (fN (q.2.2.2 % 100) fun t => fM m fun I J R => some (pc + 3, ls, r, n, ((a, some t, x) :: I, J, R))) else none
    | 2 => xll v fun x => fN (q.2.2.2 % 100) fun t => fM m fun I J R => some (pc + 3, ls, r, n, (I, (a, some t, x) :: J, R))
    | _ => xrr v fun x => fN (q.2.2.2 % 100) fun t => fM m fun I J R => some (pc + 3, ls, r, n, (I, J, (a, some t, some x) :: R))) else none
  | _ => none
theorem wmi_y {α : Type} {ini pc : Nat} {q : xQ} {ls : List (Option Value)} {st : List Value} {n : Nat} {m : wM} {k : xK α} {o : α} (h : (wmi ini pc q ls st n m).bind (fun t => k t.1 t.2.1 t.2.2.1 t.2.2.2.1 (wD t.2.2.2.2)) = some o) : yi ini pc q ls st n (wD m) k = some o := by
  obtain ⟨i, len, r1, r2⟩ := q
  cases i with
  | iaload => simp only [wmi, xia_b, xaw_b, fN_eq, fI_eq, wrd_eq, Option.bind_some] at h; exact h
  | iastore => simp only [wmi, xva_b, xii_b, xaw_b, fN_eq, fM_eq, Option.bind_some] at h; exact h
  | bastore => simp only [wmi, xva_b, xii_b, xaw_b, fN_eq, fI_eq, fM_eq, Option.bind_some] at h; exact h
  | lastore => simp only [wmi, xva_b, xll_b, xaw_b, fN_eq, fM_eq, Option.bind_some] at h; exact h
  | aastore => simp only [wmi, xva_b, xrr_b, bif_b, xaw_b, fN_eq, fM_eq, Option.bind_some, Option.bind_none] at h; exact h
  | new _ => simp only [wmi, wnew, bif_b, fM_eq, Option.bind_some, Option.bind_none] at h; exact h
  | newarray _ => simp only [wmi, wnew, x1_b, bif_b, if_b, fM_eq, Option.bind_some, Option.bind_none] at h; exact h
  | anewarray _ => simp only [wmi, wnew, x1_b, bif_b, if_b, fM_eq, Option.bind_some, Option.bind_none] at h; exact h
  | getfield _ =>
    simp only [wmi, xr_b, bif_b, fV_eq, wfa_eq, Option.bind_some, Option.bind_none] at h
    obtain ⟨a, r, rfl, ha, h'⟩ := xr_some h
    obtain ⟨h1, h'⟩ := xbif h'
    obtain ⟨h2, h'⟩ := xbif h'
    show (bif Nat.blt a 2999 then (bif Nat.beq (xcl n a) r1 then (bif Nat.blt a 1000 then _ else _) else none) else none) = some o
    rw [Nat.blt_eq.mpr ha, h1, h2]
    exact h'
  | putfield _ =>
    simp only [wmi, xvr_b, bif_b, Option.bind_none] at h
    show (xvr st fun v a r => _) = some o
    refine Eq.trans ?_ h
    congr 1
    funext v a r
    congr 1
    generalize r2 / 100 % 10 = tt
    match tt with
    | 0 => simp only [xii_b, fN_eq, fM_eq, Option.bind_some]; rfl
    | 1 => simp only [xii_b, if_b, fN_eq, fM_eq, Option.bind_some, Option.bind_none]; rfl
    | 2 => simp only [xll_b, fN_eq, fM_eq, Option.bind_some]; rfl
    | t + 3 => simp only [xrr_b, fN_eq, fM_eq, Option.bind_some]; rfl
  | _ => exact absurd h (by simp [wmi])
