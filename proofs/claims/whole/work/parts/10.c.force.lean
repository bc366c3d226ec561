/-! the same machine, everything forced: for the kernel -/
section FO
variable {α : Type}
def fN (n : Nat) (k : Nat → α) : α := Nat.casesOn (motive := fun _ => α) n (k 0) (fun m => k (m + 1))
theorem fN_eq (n : Nat) (k : Nat → α) : fN n k = k n := by cases n <;> rfl
def fI (x : Int32) (k : Int32 → α) : α := fN x.toBitVec.toNat (fun v => k (Int32.ofNat v))
theorem fI_eq (x : Int32) (k : Int32 → α) : fI x k = k x := by
  unfold fI
  rw [fN_eq]
  congr 1
  apply Int32.toBitVec_inj.mp
  simp
def fJ (x : Int64) (k : Int64 → α) : α := fN x.toBitVec.toNat (fun v => k (Int64.ofNat v))
theorem fJ_eq (x : Int64) (k : Int64 → α) : fJ x k = k x := by
  unfold fJ
  rw [fN_eq]
  congr 1
  apply Int64.toBitVec_inj.mp
  simp
def fV (v : Value) (k : Value → α) : α := match v with
  | .int x => fI x (fun y => k (.int y))
  | .long x => fJ x (fun y => k (.long y))
  | .ref a => fN a (fun b => k (.ref b))
  | v => k v
theorem fV_eq (v : Value) (k : Value → α) : fV v k = k v := by
  unfold fV
  cases v <;> simp only [fI_eq, fJ_eq, fN_eq]
def fL : List (Option Value) → (List (Option Value) → α) → α
  | [], k => k []
  | none :: r, k => fL r (fun s => k (none :: s))
  | some v :: r, k => fV v (fun w => fL r (fun s => k (some w :: s)))
theorem fL_eq (l : List (Option Value)) (k : List (Option Value) → α) : fL l k = k l := by
  induction l generalizing k with
  | nil => rfl
  | cons a r ih =>
    cases a with
    | none => show fL r _ = _; rw [ih]
    | some v => show fV v _ = _; rw [fV_eq, ih]
def fS : List Value → (List Value → α) → α
  | [], k => k []
  | v :: r, k => fV v (fun w => fS r (fun s => k (w :: s)))
theorem fS_eq (l : List Value) (k : List Value → α) : fS l k = k l := by
  induction l generalizing k with
  | nil => rfl
  | cons v r ih => show fV v _ = _; rw [fV_eq, ih]
def gL : List (Option Value) → (List (Option Value) → α) → α
  | [], k => k []
  | a :: r, k => gL r (fun s => k (a :: s))
theorem gL_eq (l : List (Option Value)) (k : List (Option Value) → α) : gL l k = k l := by
  induction l generalizing k with
  | nil => rfl
  | cons a r ih => show gL r _ = _; rw [ih]
end FO
def zd (x y : Int32) : Int32 := bif Nat.blt x.toBitVec.toNat 2147483648 && Nat.blt y.toBitVec.toNat 2147483648 then Int32.ofNat (x.toBitVec.toNat / y.toBitVec.toNat) else x / y
theorem zd_eq (x y : Int32) : zd x y = x / y := by
  unfold zd
  cases h : Nat.blt x.toBitVec.toNat 2147483648 && Nat.blt y.toBitVec.toNat 2147483648 with
  | false => rfl
  | true =>
    rw [Bool.and_eq_true, Nat.blt_eq, Nat.blt_eq] at h
    rw [cond_true]
    apply Int32.toBitVec_inj.mp
    apply BitVec.eq_of_toNat_eq
    rw [Int32.toBitVec_div, BitVec.sdiv_eq]
    have h1 : x.toBitVec.msb = false := by rw [BitVec.msb_eq_decide]; simp; omega
    have h2 : y.toBitVec.msb = false := by rw [BitVec.msb_eq_decide]; simp; omega
    rw [h1, h2]
    simp only [Int32.toBitVec_ofNat', BitVec.udiv_eq, BitVec.toNat_udiv, BitVec.toNat_ofNat]
    exact Nat.mod_eq_of_lt (Nat.lt_of_le_of_lt (Nat.div_le_self _ _) (by omega))
theorem zsm : ∀ k : Fin 32, ((Int32.ofNat k.val &&& 31).toBitVec.smod 32).toNat = k.val := by decide +kernel
def zl (x y : Int32) : Int32 := bif Nat.blt y.toBitVec.toNat 32 then Int32.ofNat (x.toBitVec.toNat * 2 ^ y.toBitVec.toNat) else x <<< (y &&& 31)
theorem zk (y : Int32) (h : y.toBitVec.toNat < 32) : ((y &&& 31).toBitVec.smod 32).toNat = y.toBitVec.toNat := by
  have := zsm ⟨_, h⟩
  have e : Int32.ofNat y.toBitVec.toNat = y := by apply Int32.toBitVec_inj.mp; simp
  simp only [e] at this
  exact this
theorem zl_eq (x y : Int32) : zl x y = x <<< (y &&& 31) := by
  unfold zl
  cases h : Nat.blt y.toBitVec.toNat 32 with
  | false => rfl
  | true =>
    rw [Nat.blt_eq] at h
    rw [cond_true]
    apply Int32.toBitVec_inj.mp
    apply BitVec.eq_of_toNat_eq
    show _ = (x.toBitVec <<< ((y &&& 31).toBitVec.smod 32)).toNat
    rw [BitVec.shiftLeft_eq', zk y h, BitVec.toNat_shiftLeft, Nat.shiftLeft_eq]
    simp
def zr (x y : Int32) : Int32 := bif Nat.blt y.toBitVec.toNat 32 && Nat.blt x.toBitVec.toNat 2147483648 then Int32.ofNat (x.toBitVec.toNat / 2 ^ y.toBitVec.toNat) else x >>> (y &&& 31)
theorem zr_eq (x y : Int32) : zr x y = x >>> (y &&& 31) := by
  unfold zr
  cases h : Nat.blt y.toBitVec.toNat 32 && Nat.blt x.toBitVec.toNat 2147483648 with
  | false => rfl
  | true =>
    rw [Bool.and_eq_true, Nat.blt_eq, Nat.blt_eq] at h
    rw [cond_true]
    apply Int32.toBitVec_inj.mp
    apply BitVec.eq_of_toNat_eq
    show _ = (x.toBitVec.sshiftRight' ((y &&& 31).toBitVec.smod 32)).toNat
    have h1 : x.toBitVec.msb = false := by rw [BitVec.msb_eq_decide]; simp; omega
    rw [BitVec.sshiftRight_eq', zk y h.1, BitVec.sshiftRight_eq_of_msb_false h1, BitVec.toNat_ushiftRight, Nat.shiftRight_eq_div_pow]
    simp only [Int32.toBitVec_ofNat', BitVec.toNat_ofNat]
    exact Nat.mod_eq_of_lt (Nat.lt_of_le_of_lt (Nat.div_le_self _ _) (by omega))
def z_iconst {α : Type} (c : Int) (pc : Nat) (ls : List (Option Value)) (st : List Value) (n : Nat) (M : xM) (k : xK α) : Option α := fI ((Int32.ofInt c)) fun w => k (pc + 1) ls (.int w :: st) n M
def z_bipush {α : Type} (c : Int) (pc : Nat) (ls : List (Option Value)) (st : List Value) (n : Nat) (M : xM) (k : xK α) : Option α := fI ((Int8.ofInt c).toInt32) fun w => k (pc + 2) ls (.int w :: st) n M
def z_iload {α : Type} (i : Nat) (pc : Nat) (ls : List (Option Value)) (st : List Value) (n : Nat) (M : xM) (k : xK α) : Option α := xld ls i fun v => xii v fun x => k (pc + 2) ls (.int x :: st) n M
def z_iload_n {α : Type} (i : Fin 4) (pc : Nat) (ls : List (Option Value)) (st : List Value) (n : Nat) (M : xM) (k : xK α) : Option α := xld ls i fun v => xii v fun x => k (pc + 1) ls (.int x :: st) n M
def z_aload_n {α : Type} (i : Fin 4) (pc : Nat) (ls : List (Option Value)) (st : List Value) (n : Nat) (M : xM) (k : xK α) : Option α := xld ls i fun v => xrr v fun x => k (pc + 1) ls (.ref x :: st) n M
def z_istore {α : Type} (i : Nat) (pc : Nat) (ls : List (Option Value)) (st : List Value) (n : Nat) (M : xM) (k : xK α) : Option α := bif Nat.blt i ls.length then x1 st fun x r => gL (xset ls i (.int x)) fun ls => k (pc + 2) ls r n M else none
def z_istore_n {α : Type} (i : Fin 4) (pc : Nat) (ls : List (Option Value)) (st : List Value) (n : Nat) (M : xM) (k : xK α) : Option α := bif Nat.blt i ls.length then x1 st fun x r => gL (xset ls i (.int x)) fun ls => k (pc + 1) ls r n M else none
def z_iinc {α : Type} (i : Nat) (c : Int) (pc : Nat) (ls : List (Option Value)) (st : List Value) (n : Nat) (M : xM) (k : xK α) : Option α := bif Nat.blt i ls.length then xld ls i fun v => xii v fun x => fI (x + Int32.ofInt c) fun w => gL (xset ls i (.int w)) fun ls => k (pc + 3) ls st n M else none
def z_iadd {α : Type} (pc : Nat) (ls : List (Option Value)) (st : List Value) (n : Nat) (M : xM) (k : xK α) : Option α := x2 st fun x y r => fI (x + y) fun w => k (pc + 1) ls (.int w :: r) n M
def z_isub {α : Type} (pc : Nat) (ls : List (Option Value)) (st : List Value) (n : Nat) (M : xM) (k : xK α) : Option α := x2 st fun x y r => fI (x - y) fun w => k (pc + 1) ls (.int w :: r) n M
def z_iand {α : Type} (pc : Nat) (ls : List (Option Value)) (st : List Value) (n : Nat) (M : xM) (k : xK α) : Option α := x2 st fun x y r => fI (x &&& y) fun w => k (pc + 1) ls (.int w :: r) n M
def z_ior {α : Type} (pc : Nat) (ls : List (Option Value)) (st : List Value) (n : Nat) (M : xM) (k : xK α) : Option α := x2 st fun x y r => fI (x ||| y) fun w => k (pc + 1) ls (.int w :: r) n M
def z_goto {α : Type} (o : Int) (pc : Nat) (ls : List (Option Value)) (st : List Value) (n : Nat) (M : xM) (k : xK α) : Option α := k (xtg pc o) ls st n M
def z_idiv {α : Type} (pc : Nat) (ls : List (Option Value)) (st : List Value) (n : Nat) (M : xM) (k : xK α) : Option α := x2 st fun x y r => if y = 0 then none else fI (zd x y) fun w => k (pc + 1) ls (.int w :: r) n M
def z_irem {α : Type} (pc : Nat) (ls : List (Option Value)) (st : List Value) (n : Nat) (M : xM) (k : xK α) : Option α := x2 st fun x y r => if y = 0 then none else fI (x - zd x y * y) fun w => k (pc + 1) ls (.int w :: r) n M
def z_ishl {α : Type} (pc : Nat) (ls : List (Option Value)) (st : List Value) (n : Nat) (M : xM) (k : xK α) : Option α := x2 st fun x y r => fI (zl x y) fun w => k (pc + 1) ls (.int w :: r) n M
def z_ishr {α : Type} (pc : Nat) (ls : List (Option Value)) (st : List Value) (n : Nat) (M : xM) (k : xK α) : Option α := x2 st fun x y r => fI (zr x y) fun w => k (pc + 1) ls (.int w :: r) n M
def z_icmp {α : Type} (c : ClassFile.Cond) (o : Int) (pc : Nat) (ls : List (Option Value)) (st : List Value) (n : Nat) (M : xM) (k : xK α) : Option α := x2 st fun x y r => bif (match c with
  | .eq => decide (x = y)
  | .ne => !decide (x = y)
  | .lt => decide (x < y)
  | .ge => decide (y ≤ x)
  | .gt => decide (y < x)
  | .le => decide (x ≤ y)) then k (xtg pc o) ls r n M else k (pc + 3) ls r n M
def zi {α : Type} (ini : Nat) (pc : Nat) (q : xQ) (ls : List (Option Value)) (st : List Value) (n : Nat) (M : xM) (k : xK α) : Option α :=
  match q.1 with
  | .iastore => xva st fun v i a r => xii v fun x => xaw n (fun w => Nat.beq w 14) i a (fN i.toNatClampNeg fun t => k (pc + 1) ls r n (xup M.1 a t x, M.2.1, M.2.2))
  | .iconst c => z_iconst c pc ls st n M k
  | .bipush c => z_bipush c pc ls st n M k
  | .iload i => z_iload i pc ls st n M k
  | .iload_n i => z_iload_n i pc ls st n M k
  | .aload_n i => z_aload_n i pc ls st n M k
  | .istore i => z_istore i pc ls st n M k
  | .istore_n i => z_istore_n i pc ls st n M k
  | .iinc i c => z_iinc i c pc ls st n M k
  | .iadd  => z_iadd  pc ls st n M k
  | .isub  => z_isub  pc ls st n M k
  | .iand  => z_iand  pc ls st n M k
  | .ior  => z_ior  pc ls st n M k
  | .goto o => z_goto o pc ls st n M k
  | .idiv => z_idiv pc ls st n M k
  | .irem => z_irem pc ls st n M k
  | .ishl => z_ishl pc ls st n M k
  | .ishr => z_ishr pc ls st n M k
  | .if_icmp c o => z_icmp c o pc ls st n M k
  | _ => yi ini pc q ls st n M (fun pc ls st n M => fL ls fun ls => fS st fun st => k pc ls st n M)
theorem zi_yi {α : Type} {ini pc : Nat} {q : xQ} {ls : List (Option Value)} {st : List Value} {n : Nat} {M : xM} {k : xK α} : zi ini pc q ls st n M k = yi ini pc q ls st n M k := by
  obtain ⟨i, len, r1, r2⟩ := q
  have hk : (fun pc ls st n M => fL ls fun ls => fS st fun st => k pc ls st n M) = k := by funext a b c d e; rw [fL_eq, fS_eq]
  have hd := congrArg (yi ini pc (i, len, r1, r2) ls st n M) hk
  cases i with
  | iastore => show (xva st fun v i a r => xii v fun x => xaw n (fun w => Nat.beq w 14) i a (fN i.toNatClampNeg _)) = _; simp only [fN_eq]; rfl
  | iconst c => show z_iconst c pc ls st n M k = _; unfold z_iconst; simp only [fI_eq, gL_eq]; rfl
  | bipush c => show z_bipush c pc ls st n M k = _; unfold z_bipush; simp only [fI_eq, gL_eq]; rfl
  | istore i => show z_istore i pc ls st n M k = _; unfold z_istore; simp only [fI_eq, gL_eq]; rfl
  | istore_n i => show z_istore_n i pc ls st n M k = _; unfold z_istore_n; simp only [fI_eq, gL_eq]; rfl
  | iinc i c => show z_iinc i c pc ls st n M k = _; unfold z_iinc; simp only [fI_eq, gL_eq]; rfl
  | iadd  => show z_iadd  pc ls st n M k = _; unfold z_iadd; simp only [fI_eq, gL_eq]; rfl
  | isub  => show z_isub  pc ls st n M k = _; unfold z_isub; simp only [fI_eq, gL_eq]; rfl
  | iand  => show z_iand  pc ls st n M k = _; unfold z_iand; simp only [fI_eq, gL_eq]; rfl
  | ior  => show z_ior  pc ls st n M k = _; unfold z_ior; simp only [fI_eq, gL_eq]; rfl
  | idiv => show z_idiv pc ls st n M k = _; unfold z_idiv; simp only [fI_eq, zd_eq]; rfl
  | irem => show z_irem pc ls st n M k = _; unfold z_irem; simp only [fI_eq, zd_eq]; rfl
  | ishl => show z_ishl pc ls st n M k = _; unfold z_ishl; simp only [fI_eq, zl_eq]; rfl
  | ishr => show z_ishr pc ls st n M k = _; unfold z_ishr; simp only [fI_eq, zr_eq]; rfl
  | if_icmp c o =>
    have e : ∀ (p : Prop) [Decidable p] (X Y : Option α), (bif decide p then X else Y) = if p then X else Y := fun p _ X Y => by by_cases h : p <;> simp [h]
    have e2 : ∀ (p : Prop) [Decidable p] (X Y : Option α), (bif !decide p then X else Y) = if p then Y else X := fun p _ X Y => by by_cases h : p <;> simp [h]
    show z_icmp c o pc ls st n M k = _
    unfold z_icmp
    cases c <;> simp only [e, e2] <;> rfl
  | iload i => rfl
  | iload_n i => rfl
  | aload_n i => rfl
  | goto o => rfl
  | _ => exact hd
def zrun : Nat → Nat → Nat → Nat → List (Option Value) → List Value → Nat → xM → Option xO
  | 0, _, _, _, _, _, _, _ => none
  | f + 1, d, j, pc, ls, st, n, M => fN pc fun pc => fN n fun n => match xfind (xme j).1 pc with
    | none => none
    | some q => match xsort q.1 with
      | 0 => zi (bif (xme j).2.2.2.2.2 then (xme j).2.2.2.2.1 + 1 else 0) pc q ls st n M (fun pc ls st n M => zrun f d j pc ls st n M)
      | 1 => match xret (xme j).2.2.2.1 q.1 st with
        | some r => some (r, n, M)
        | none => none
      | s + 2 => bif Nat.beq q.2.2.2 2 then xr st fun _ r => bif Nat.blt 0 d && Nat.ble (r.map fun v => v.category).sum 8 then zrun f d j (pc + 3) ls r n M else none
        else bif Nat.ble 3 q.2.2.2 then none
        else match d with
          | 0 => none
          | d + 1 => bif ((Nat.ble (xme q.2.2.1).2.1 st.length && Nat.ble (xent (st.take (xme q.2.2.1).2.1).reverse).length (xme q.2.2.1).2.2.1) && Nat.ble ((st.drop (xme q.2.2.1).2.1).map fun v => v.category).sum 8) && (Nat.beq s 1 || (match (st.take (xme q.2.2.1).2.1).reverse with
              | .ref b :: _ => Nat.blt b 2999 && (Nat.beq s 2 || Nat.beq (xcl n b) (xme q.2.2.1).2.2.2.2.1)
              | _ => false)) then
            (match zrun f d q.2.2.1 0 (xpad (xent (st.take (xme q.2.2.1).2.1).reverse) (xme q.2.2.1).2.2.1) [] n M with
            | some o => zrun f (d + 1) j (pc + 3) ls (o.1.toList ++ st.drop (xme q.2.2.1).2.1) o.2.1 o.2.2
            | none => none) else none
theorem zrun_x {L : Nat} {xs : Nat → Int32} : ∀ (f d j pc : Nat) (ls : List (Option Value)) (st : List Value) (n : Nat) (M : xM) (o : xO), zrun f d j pc ls st n M = some o → xrun L xs f d j pc ls st n M = some o := by
  intro f
  induction f with
  | zero => intro d j pc ls st n M o h; exact absurd h (by simp [zrun])
  | succ f ih =>
    intro d j pc ls st n M o h
    unfold zrun at h
    rw [fN_eq, fN_eq] at h
    unfold xrun
    cases hq : xfind (xme j).1 pc with
    | none => rw [hq] at h; exact absurd h (by simp)
    | some q =>
      rw [hq] at h
      dsimp only at h ⊢
      generalize xsort q.1 = s at h
      match s, h with
      | 0, h =>
        have h : zi _ pc q ls st n M _ = some o := h
        rw [zi_yi] at h
        exact xi_le (fun a b c d' e' hk => ih _ _ _ _ _ _ _ _ hk) (yi_xi h)
      | 1, h => exact h
      | s + 2, h =>
        dsimp only at h ⊢
        cases h2 : Nat.beq q.2.2.2 2 with
        | true =>
          rw [h2] at h
          obtain ⟨a, r, rfl, ha, h⟩ := xr_some h
          obtain ⟨hc, h⟩ := xbif h
          rw [Bool.and_eq_true] at hc
          show (bif Nat.blt a 2999 then (bif Nat.blt 0 d && Nat.ble (r.map fun v => v.category).sum 8 then xrun L xs f d j (pc + 3) ls r n M else none) else none) = some o
          rw [Nat.blt_eq.mpr ha, hc.1, hc.2]
          exact ih _ _ _ _ _ _ _ _ h
        | false =>
          rw [h2, cond_false] at h
          rw [cond_false]
          cases h3 : Nat.ble 3 q.2.2.2 with
          | true => rw [h3] at h; exact absurd h (by simp)
          | false =>
            rw [h3, cond_false] at h
            have hlt : q.2.2.2 < 3 := by
              rcases Nat.lt_or_ge q.2.2.2 3 with w | w
              · exact w
              · rw [Nat.ble_eq_true_of_le w] at h3; cases h3
            rw [show Nat.beq q.2.2.2 3 = false from Bool.eq_false_iff.mpr (fun w => by have := Nat.eq_of_beq_eq_true w; omega), show Nat.beq q.2.2.2 4 = false from Bool.eq_false_iff.mpr (fun w => by have := Nat.eq_of_beq_eq_true w; omega), show Nat.beq q.2.2.2 5 = false from Bool.eq_false_iff.mpr (fun w => by have := Nat.eq_of_beq_eq_true w; omega), cond_false, cond_false, cond_false]
            match d, h, ih with
            | 0, h, ih => exact absurd h (by simp)
            | d + 1, h, ih =>
              obtain ⟨hc, h⟩ := xbif h
              have key : ∀ (c : Bool) (X : Option xO), c = true → X = some o → (bif c then X else none) = some o := fun c X h1 h2 => by rw [h1]; exact h2
              refine key _ _ hc ?_
              split at h
              · rename_i o1 ho1
                rw [ih _ _ _ _ _ _ _ _ ho1]
                exact ih _ _ _ _ _ _ _ _ h
              · exact absurd h (by simp)
