theorem xrun_iinc {L : Nat} {xs : Nat → Int32} {f d j pc : Nat} {ls : List (Option Value)} {st : List Value} {n : Nat} {M : xM} (i : Nat) (c : Int) (x : Int32) (hf : xfind (xme j).1 pc = some (.iinc i c, 3, 0, 0)) (hi : Nat.blt i ls.length = true) (hg : xget ls i = some (.int x)) : xrun L xs (f + 1) d j pc ls st n M = xrun L xs f d j (pc + 3) (xset ls i (.int (x + Int32.ofInt c))) st n M := by
  show (match xfind (xme j).1 pc with
    | none => none
    | some q => _) = _
  rw [hf]
  show (bif Nat.blt i ls.length then xld ls i (fun v => xii v fun x => xrun L xs f d j (pc + 3) (xset ls i (.int (x + Int32.ofInt c))) st n M) else none) = _
  rw [hi]
  show xld ls i _ = _
  unfold xld
  rw [hg]
  rfl
