/-! An abstract machine for this program alone: cells by number (the order in which the constructors make them), memory as functions; 'xrun' runs a method's instructions, with fuel. Later parts: what xrun answers, the real machine answers (sound), and what xrun answers is worked out in pure terms. -/
/-- memory: whole numbers, longs, references, by cell and place -/
abbrev xM : Type := (Nat → Nat → Int32) × (Nat → Nat → Int64) × (Nat → Nat → Option Nat)
/-- an instruction with its length and what its pool entry stands for -/
abbrev xQ : Type := Instr × Nat × Nat × Nat
/-- a method: its code by places, how many arguments (the receiver too), its locals, what it gives back (0 nothing, 1 int, 2 boolean, 3 long, 4 a reference), its class, whether it is a constructor -/
abbrev xMe : Type := List (Nat × xQ) × Nat × Nat × Nat × Nat × Bool
def xup {α : Type} (f : Nat → Nat → α) (a i : Nat) (v : α) : Nat → Nat → α := fun b => if b = a then (fun j => if j = i then v else f a j) else f b
def xz {α : Type} (f : Nat → Nat → α) (a : Nat) (v : α) : Nat → Nat → α := fun b => if b = a then (fun _ => v) else f b
def xcp {α : Type} (f : Nat → Nat → α) (a b sp dp n : Nat) : Nat → Nat → α := fun c => if c = b then va_cpy (f a) (f b) sp dp n else f c
def xfa (t : Nat) (M : xM) (a i : Nat) : Value := match t with
  | 0 => .int (M.1 a i)
  | 1 => .int (M.1 a i)
  | 2 => .long (M.2.1 a i)
  | _ => va_rf (M.2.2 a i)
def xfind : List (Nat × xQ) → Nat → Option xQ
  | [], _ => none
  | (p, q) :: r, pc => if p = pc then some q else xfind r pc
def xget (ls : List (Option Value)) (i : Nat) : Option Value := match ls[i]? with
  | some (some v) => some v
  | _ => none
def xset (ls : List (Option Value)) (i : Nat) (v : Value) : List (Option Value) := (match i with
  | 0 => ls
  | k + 1 => (match ls[k]? with
    | some (some w) => bif Nat.beq w.category 2 then ls.set k none else ls
    | _ => ls)).set i (some v)
def xent : List Value → List (Option Value)
  | [] => []
  | v :: r => bif Nat.beq v.category 2 then some v :: none :: xent r else some v :: xent r
def xpad (l : List (Option Value)) (n : Nat) : List (Option Value) := l ++ List.replicate (n - l.length) none
section XI
variable {α : Type}
abbrev xK (α : Type) : Type := Nat → List (Option Value) → List Value → Nat → xM → Option α
def x1 (st : List Value) (k : Int32 → List Value → Option α) : Option α := match st with
  | .int x :: r => k x r
  | _ => none
def x2 (st : List Value) (k : Int32 → Int32 → List Value → Option α) : Option α := match st with
  | .int y :: .int x :: r => k x y r
  | _ => none
def x2l (st : List Value) (k : Int64 → Int64 → List Value → Option α) : Option α := match st with
  | .long y :: .long x :: r => k x y r
  | _ => none
/-- a reference on top -/
def xr (st : List Value) (k : Nat → List Value → Option α) : Option α := match st with
  | .ref a :: r => bif Nat.blt a 2999 then k a r else none
  | _ => none
/-- a place and an array below it -/
def xia (st : List Value) (k : Int32 → Nat → List Value → Option α) : Option α := match st with
  | .int i :: .ref a :: r => k i a r
  | _ => none
def xva (st : List Value) (k : Value → Int32 → Nat → List Value → Option α) : Option α := match st with
  | v :: .int i :: .ref a :: r => k v i a r
  | _ => none
def xvr (st : List Value) (k : Value → Nat → List Value → Option α) : Option α := match st with
  | v :: .ref a :: r => k v a r
  | _ => none
def xcopy (st : List Value) (k : Nat → Int32 → Nat → Int32 → Int32 → List Value → Option α) : Option α := match st with
  | .int n :: .int dp :: .ref b :: .int sp :: .ref a :: r => k a sp b dp n r
  | _ => none
def xld (ls : List (Option Value)) (i : Nat) (k : Value → Option α) : Option α := match xget ls i with
  | some v => k v
  | none => none
def xii (v : Value) (k : Int32 → Option α) : Option α := match v with
  | .int x => k x
  | _ => none
def xll (v : Value) (k : Int64 → Option α) : Option α := match v with
  | .long x => k x
  | _ => none
def xrr (v : Value) (k : Nat → Option α) : Option α := match v with
  | .ref x => bif Nat.blt x 2999 then k x else none
  | _ => none
def xtop (st : List Value) (k : Value → List Value → Option α) : Option α := match st with
  | v :: r => k v r
  | _ => none
end XI
def xtg (pc : Nat) (off : Int) : Nat := ((pc : Int) + off).toNat
/-- what lies in cell k, once the constructors have run: its kind (a class' number; 13 bytes, 14 ints, 15 longs, 16 booleans, 17 Machines), and how many slots -/
def xk (a : Nat) : Nat × Nat := xlay.getD a (99, 0)
/-- what lies outside: the script (1009), tables (1000 .. 1004), the bytes of the String constants (2100 ..) -/
def xsc (L : Nat) (xs : Nat → Int32) (a : Nat) : Nat × (Nat → Int32) := match a with
  | 1009 => (L, xs)
  | _ => match xstat.lookup a with
    | some l => (l.length, fun j => l.getD j 0)
    | none => (0, fun _ => 0)
/-- the class of what a reference points to -/
def xcl (n a : Nat) : Nat := bif Nat.blt a 1000 then (bif Nat.blt a n then (xk a).1 else 98) else (bif Nat.ble 2000 a && Nat.blt a 2010 then 20 else 98)
/-- an array's kind and length -/
def xar (L : Nat) (xs : Nat → Int32) (n a : Nat) : Nat × Nat := bif Nat.blt a 1000 then (bif Nat.blt a n then xk a else (98, 0)) else (bif Nat.ble 2100 a then (bif Nat.blt a 2110 then 13 else 98, (xsc L xs a).1) else (bif (Nat.ble 1000 a && Nat.blt a 1005) || Nat.beq a 1009 then 14 else 98, (xsc L xs a).1))
def xrd (L : Nat) (xs : Nat → Int32) (M : xM) (a i : Nat) : Int32 := bif Nat.blt a 1000 then M.1 a i else (xsc L xs a).2 i
section XI
variable {α : Type}
/-- array read: kind w wanted -/
def xal (L : Nat) (xs : Nat → Int32) (n : Nat) (w : Nat → Bool) (i : Int32) (a : Nat) (k : Option α) : Option α :=
  bif w (xar L xs n a).1 then (if i < 0 ∨ (xar L xs n a).2 ≤ i.toNatClampNeg then none else k) else none
/-- array write: own cells alone -/
def xaw (n : Nat) (w : Nat → Bool) (i : Int32) (a : Nat) (k : Option α) : Option α :=
  bif (Nat.blt a n && Nat.blt a 1000) && w (xk a).1 then (if i < 0 ∨ (xk a).2 ≤ i.toNatClampNeg then none else k) else none
def xi (L : Nat) (xs : Nat → Int32) (ini : Nat) (pc : Nat) (q : xQ) (ls : List (Option Value)) (st : List Value) (n : Nat) (M : xM) (k : xK α) : Option α :=
  match q.1 with
  | .iconst c => k (pc + 1) ls (.int (Int32.ofInt c) :: st) n M
  | .bipush c => k (pc + 2) ls (.int (Int8.ofInt c).toInt32 :: st) n M
  | .sipush c => k (pc + 3) ls (.int (Int16.ofInt c).toInt32 :: st) n M
  | .lconst c => k (pc + 1) ls (.long (Int64.ofNat (c : Nat)) :: st) n M
  | .ldc _ => bif Nat.beq q.2.2.2 0 then k (pc + 2) ls (.int (Int32.ofNat q.2.2.1) :: st) n M else bif Nat.beq q.2.2.2 1 then k (pc + 2) ls (.ref q.2.2.1 :: st) n M else none
  | .ldc_w _ => k (pc + 3) ls (.int (Int32.ofNat q.2.2.1) :: st) n M
  | .ldc2_w _ => k (pc + 3) ls (.long (Int64.ofNat q.2.2.1) :: st) n M
  | .iload i => xld ls i fun v => xii v fun x => k (pc + 2) ls (.int x :: st) n M
  | .iload_n i => xld ls i fun v => xii v fun x => k (pc + 1) ls (.int x :: st) n M
  | .lload i => xld ls i fun v => xll v fun x => k (pc + 2) ls (.long x :: st) n M
  | .lload_n i => xld ls i fun v => xll v fun x => k (pc + 1) ls (.long x :: st) n M
  | .aload i => xld ls i fun v => xrr v fun x => k (pc + 2) ls (.ref x :: st) n M
  | .aload_n i => xld ls i fun v => xrr v fun x => k (pc + 1) ls (.ref x :: st) n M
  | .istore i => bif Nat.blt i ls.length then x1 st fun x r => k (pc + 2) (xset ls i (.int x)) r n M else none
  | .istore_n i => bif Nat.blt i ls.length then x1 st fun x r => k (pc + 1) (xset ls i (.int x)) r n M else none
  | .astore i => bif Nat.blt i ls.length then xr st fun x r => k (pc + 2) (xset ls i (.ref x)) r n M else none
  | .astore_n i => bif Nat.blt i ls.length then xr st fun x r => k (pc + 1) (xset ls i (.ref x)) r n M else none
  | .lstore i => bif Nat.blt (i + 1) ls.length then xtop st fun v r => xll v fun x => k (pc + 2) ((xset ls i (.long x)).set (i + 1) none) r n M else none
  | .iinc i c => bif Nat.blt i ls.length then xld ls i fun v => xii v fun x => k (pc + 3) (xset ls i (.int (x + Int32.ofInt c))) st n M else none
  | .iadd => x2 st fun x y r => k (pc + 1) ls (.int (x + y) :: r) n M
  | .isub => x2 st fun x y r => k (pc + 1) ls (.int (x - y) :: r) n M
  | .imul => x2 st fun x y r => k (pc + 1) ls (.int (x * y) :: r) n M
  | .idiv => x2 st fun x y r => if y = 0 then none else k (pc + 1) ls (.int (x / y) :: r) n M
  | .irem => x2 st fun x y r => if y = 0 then none else k (pc + 1) ls (.int (x - x / y * y) :: r) n M
  | .ineg => x1 st fun x r => k (pc + 1) ls (.int (-x) :: r) n M
  | .iand => x2 st fun x y r => k (pc + 1) ls (.int (x &&& y) :: r) n M
  | .ior => x2 st fun x y r => k (pc + 1) ls (.int (x ||| y) :: r) n M
  | .ixor => x2 st fun x y r => k (pc + 1) ls (.int (x ^^^ y) :: r) n M
  | .ishl => x2 st fun x y r => k (pc + 1) ls (.int (x <<< (y &&& 31)) :: r) n M
  | .ishr => x2 st fun x y r => k (pc + 1) ls (.int (x >>> (y &&& 31)) :: r) n M
  | .iushr => x2 st fun x y r => k (pc + 1) ls (.int (x.toUInt32 >>> (y.toUInt32 &&& Int32.toUInt32 31)).toInt32 :: r) n M
  | .ladd => x2l st fun x y r => k (pc + 1) ls (.long (x + y) :: r) n M
  | .lmul => x2l st fun x y r => k (pc + 1) ls (.long (x * y) :: r) n M
  | .lcmp => x2l st fun x y r => k (pc + 1) ls (.int (lg_cmp x y) :: r) n M
  | .i2l => x1 st fun x r => k (pc + 1) ls (.long x.toInt64 :: r) n M
  | .i2b => x1 st fun x r => k (pc + 1) ls (.int x.toInt8.toInt32 :: r) n M
  | .i2c => x1 st fun x r => k (pc + 1) ls (.int (x.toUInt32 % 65536).toInt32 :: r) n M
  | .dup => xtop st fun v r => bif Nat.beq v.category 1 then k (pc + 1) ls (v :: v :: r) n M else none
  | .dup2 => xtop st fun v r => xtop r fun w r => bif Nat.beq v.category 1 && Nat.beq w.category 1 then k (pc + 1) ls (v :: w :: v :: w :: r) n M else none
  | .pop => xtop st fun v r => bif Nat.beq v.category 1 then k (pc + 1) ls r n M else none
  | .goto o => k (xtg pc o) ls st n M
  | .ifCond .eq o => x1 st fun x r => if x = 0 then k (xtg pc o) ls r n M else k (pc + 3) ls r n M
  | .ifCond .ne o => x1 st fun x r => if x = 0 then k (pc + 3) ls r n M else k (xtg pc o) ls r n M
  | .ifCond .lt o => x1 st fun x r => if x < 0 then k (xtg pc o) ls r n M else k (pc + 3) ls r n M
  | .ifCond .ge o => x1 st fun x r => if 0 ≤ x then k (xtg pc o) ls r n M else k (pc + 3) ls r n M
  | .ifCond .gt o => x1 st fun x r => if 0 < x then k (xtg pc o) ls r n M else k (pc + 3) ls r n M
  | .ifCond .le o => x1 st fun x r => if x ≤ 0 then k (xtg pc o) ls r n M else k (pc + 3) ls r n M
  | .if_icmp .eq o => x2 st fun x y r => if x = y then k (xtg pc o) ls r n M else k (pc + 3) ls r n M
  | .if_icmp .ne o => x2 st fun x y r => if x = y then k (pc + 3) ls r n M else k (xtg pc o) ls r n M
  | .if_icmp .lt o => x2 st fun x y r => if x < y then k (xtg pc o) ls r n M else k (pc + 3) ls r n M
  | .if_icmp .ge o => x2 st fun x y r => if y ≤ x then k (xtg pc o) ls r n M else k (pc + 3) ls r n M
  | .if_icmp .gt o => x2 st fun x y r => if y < x then k (xtg pc o) ls r n M else k (pc + 3) ls r n M
  | .if_icmp .le o => x2 st fun x y r => if x ≤ y then k (xtg pc o) ls r n M else k (pc + 3) ls r n M
  | .tableswitch d lo hi os => x1 st fun x r => if x.toInt < lo ∨ hi < x.toInt then k (xtg pc d) ls r n M else (match os[(x.toInt - lo).toNat]? with
    | some o => k (xtg pc o) ls r n M
    | none => none)
  | .lookupswitch d ps => x1 st fun x r => k (xtg pc (Op.lookupswitch.offset ps.toList d x.toInt)) ls r n M
  | .getfield _ => xr st fun a r => bif Nat.beq (xcl n a) q.2.2.1 then (bif Nat.blt a 1000 then k (pc + 3) ls (xfa (q.2.2.2 / 100 % 10) M a (q.2.2.2 % 100) :: r) n M else (bif Nat.beq q.2.2.2 0 then k (pc + 3) ls (.int 0 :: r) n M else k (pc + 3) ls (.ref (a + 100) :: r) n M)) else none
  | .putfield _ => xvr st fun v a r => bif (Nat.blt a n && Nat.blt a 1000 && Nat.beq (xk a).1 q.2.2.1) && (Nat.beq (q.2.2.2 / 1000) 0 || Nat.beq ini (q.2.2.1 + 1)) then (match q.2.2.2 / 100 % 10 with
    | 0 => xii v fun x => k (pc + 3) ls r n (xup M.1 a (q.2.2.2 % 100) x, M.2.1, M.2.2)
    | 1 => xii v fun x => if x = 0 ∨ x = 1 then k (pc + 3) ls r n (xup M.1 a (q.2.2.2 % 100) x, M.2.1, M.2.2) else none
    | 2 => xll v fun x => k (pc + 3) ls r n (M.1, xup M.2.1 a (q.2.2.2 % 100) x, M.2.2)
    | _ => xrr v fun x => k (pc + 3) ls r n (M.1, M.2.1, xup M.2.2 a (q.2.2.2 % 100) (some x))) else none
  | .getstatic _ => bif Nat.beq q.2.2.2 0 then k (pc + 3) ls (.ref q.2.2.1 :: st) n M else bif Nat.beq q.2.2.2 1 then k (pc + 3) ls (.int (Int32.ofNat q.2.2.1) :: st) n M else none
  | .arraylength => xr st fun a r => bif Nat.blt (xar L xs n a).1 18 && Nat.ble 13 (xar L xs n a).1 then k (pc + 1) ls (.int (Int32.ofNat (xar L xs n a).2) :: r) n M else none
  | .iaload => xia st fun i a r => xal L xs n (fun w => Nat.beq w 14) i a (k (pc + 1) ls (.int (xrd L xs M a i.toNatClampNeg) :: r) n M)
  | .baload => xia st fun i a r => xal L xs n (fun w => Nat.beq w 13 || Nat.beq w 16) i a (k (pc + 1) ls (.int (xrd L xs M a i.toNatClampNeg) :: r) n M)
  | .laload => xia st fun i a r => xaw n (fun w => Nat.beq w 15) i a (k (pc + 1) ls (.long (M.2.1 a i.toNatClampNeg) :: r) n M)
  | .aaload => xia st fun i a r => xaw n (fun w => Nat.beq w 17) i a (xrr (va_rf (M.2.2 a i.toNatClampNeg)) fun x => k (pc + 1) ls (.ref x :: r) n M)
  | .iastore => xva st fun v i a r => xii v fun x => xaw n (fun w => Nat.beq w 14) i a (k (pc + 1) ls r n (xup M.1 a i.toNatClampNeg x, M.2.1, M.2.2))
  | .bastore => xva st fun v i a r => xii v fun x => xaw n (fun w => Nat.beq w 13 || Nat.beq w 16) i a (k (pc + 1) ls r n (xup M.1 a i.toNatClampNeg (bif Nat.beq (xk a).1 13 then x.toInt8.toInt32 else vp_nar .boolean x), M.2.1, M.2.2))
  | .lastore => xva st fun v i a r => xll v fun x => xaw n (fun w => Nat.beq w 15) i a (k (pc + 1) ls r n (M.1, xup M.2.1 a i.toNatClampNeg x, M.2.2))
  | .aastore => xva st fun v i a r => xrr v fun x => bif Nat.beq (xcl n x) 5 && Nat.blt x 1000 then xaw n (fun w => Nat.beq w 17) i a (k (pc + 1) ls r n (M.1, M.2.1, xup M.2.2 a i.toNatClampNeg (some x))) else none
  | .new _ => bif Nat.beq (xk n).1 q.2.2.1 && Nat.blt q.2.2.1 13 then k (pc + 3) ls (.ref n :: st) (n + 1) (xz M.1 n 0, xz M.2.1 n 0, xz M.2.2 n none) else none
  | .newarray _ => x1 st fun x r => bif Nat.beq (xk n).1 q.2.2.1 && Nat.beq (xk n).2 x.toNatClampNeg && Nat.ble 13 q.2.2.1 && Nat.blt q.2.2.1 17 then (if x < 0 then none else k (pc + 2) ls (.ref n :: r) (n + 1) (xz M.1 n 0, xz M.2.1 n 0, xz M.2.2 n none)) else none
  | .anewarray _ => x1 st fun x r => bif Nat.beq (xk n).1 17 && Nat.beq (xk n).2 x.toNatClampNeg then (if x < 0 then none else k (pc + 3) ls (.ref n :: r) (n + 1) (xz M.1 n 0, xz M.2.1 n 0, xz M.2.2 n none)) else none
  | _ => none
end XI
/-- what a method gives back at a return -/
def xret (ty : Nat) (i : Instr) (st : List Value) : Option (Option Value) := match i, ty, st with
  | .return_, 0, [] => some none
  | .ireturn, 1, [.int x] => some (some (.int x))
  | .ireturn, 2, [.int x] => if x = 0 ∨ x = 1 then some (some (.int x)) else none
  | .ireturn, 5, [.int x] => if narrow .char (.int x) = .int x then some (some (.int x)) else none
  | .ireturn, 6, [.int x] => if narrow .byte (.int x) = .int x then some (some (.int x)) else none
  | .lreturn, 3, [.long x] => some (some (.long x))
  | .areturn, 4, [.ref x] => bif Nat.blt x 2999 then some (some (.ref x)) else none
  | _, _, _ => none
/-- which instructions return, which call -/
def xsort : Instr → Nat
  | .return_ => 1
  | .ireturn => 1
  | .lreturn => 1
  | .areturn => 1
  | .invokevirtual _ => 2
  | .invokestatic _ => 3
  | .invokespecial _ => 4
  | _ => 0
abbrev xO : Type := Option Value × Nat × xM
def xrun (L : Nat) (xs : Nat → Int32) : Nat → Nat → Nat → Nat → List (Option Value) → List Value → Nat → xM → Option xO
  | 0, _, _, _, _, _, _, _ => none
  | f + 1, d, j, pc, ls, st, n, M => match xfind (xme j).1 pc with
    | none => none
    | some q => match xsort q.1 with
      | 0 => xi L xs (bif (xme j).2.2.2.2.2 then (xme j).2.2.2.2.1 + 1 else 0) pc q ls st n M (fun pc ls st n M => xrun L xs f d j pc ls st n M)
      | 1 => match xret (xme j).2.2.2.1 q.1 st with
        | some r => some (r, n, M)
        | none => none
      | s + 2 => bif Nat.beq q.2.2.2 2 then xr st fun _ r => bif Nat.blt 0 d && Nat.ble (r.map fun v => v.category).sum 8 then xrun L xs f d j (pc + 3) ls r n M else none
        else bif Nat.beq q.2.2.2 3 then xcopy st fun a sp b dp m r => bif (Nat.blt a n && Nat.blt b n) && ((Nat.blt a 1000 && Nat.blt b 1000) && (Nat.beq (xk a).1 14 && Nat.beq (xk b).1 14)) && (Nat.beq n xNN && Nat.blt 0 d && Nat.ble (r.map fun v => v.category).sum 8) then (if (sp < 0 ∨ dp < 0 ∨ m < 0) ∨ (xk a).2 < sp.toNatClampNeg + m.toNatClampNeg ∨ (xk b).2 < dp.toNatClampNeg + m.toNatClampNeg then none else xrun L xs f d j (pc + 3) ls r n (xcp M.1 a b sp.toNatClampNeg dp.toNatClampNeg m.toNatClampNeg, M.2.1, M.2.2)) else none
        else bif Nat.beq q.2.2.2 4 then x2 st fun x y r => bif Nat.blt 0 d && Nat.ble (r.map fun v => v.category).sum 8 then xrun L xs f d j (pc + 3) ls (.int (if x < y then y else x) :: r) n M else none
        else bif Nat.beq q.2.2.2 5 then x2 st fun x y r => bif Nat.blt 0 d && Nat.ble (r.map fun v => v.category).sum 8 then xrun L xs f d j (pc + 3) ls (.int (if y < x then y else x) :: r) n M else none
        else match d with
          | 0 => none
          | d + 1 => bif ((Nat.ble (xme q.2.2.1).2.1 st.length && Nat.ble (xent (st.take (xme q.2.2.1).2.1).reverse).length (xme q.2.2.1).2.2.1) && Nat.ble ((st.drop (xme q.2.2.1).2.1).map fun v => v.category).sum 8) && (Nat.beq s 1 || (match (st.take (xme q.2.2.1).2.1).reverse with
              | .ref b :: _ => Nat.blt b 2999 && (Nat.beq s 2 || Nat.beq (xcl n b) (xme q.2.2.1).2.2.2.2.1)
              | _ => false)) then
            (match xrun L xs f d q.2.2.1 0 (xpad (xent (st.take (xme q.2.2.1).2.1).reverse) (xme q.2.2.1).2.2.1) [] n M with
            | some o => xrun L xs f (d + 1) j (pc + 3) ls (o.1.toList ++ st.drop (xme q.2.2.1).2.1) o.2.1 o.2.2
            | none => none) else none
