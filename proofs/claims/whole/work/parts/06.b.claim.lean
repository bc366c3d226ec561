def xM0 : xM := (fun _ _ => 0, fun _ _ => 0, fun _ _ => none)
/-- WHAT IS LEFT: the abstract machine, on every script, runs the law to its end, with 1 -/
def xPure : Prop := ∀ (L : Nat) (xs : Nat → Int32), L ≤ 3072 → ∃ (f : Nat) (M : xM), xrun L xs f 100 309 0 [some (.ref 1009), none, none, none] [] 0 xM0 = some (some (.int 1), 94, M)
/-! THE CLAIM OUT OF ONE WALK OF THE LAW'S BODY. Your part is whole_start (and what it stands on); all else here is the same for every law, but numbers. -/
def R_law : String := "StateMillLaw"
def lw_P (b : Addr) (xs : List Int32) (args : Array Value) (s : State) : Prop := args = #[.ref b] ∧ s.IntsAt b xs ∧ xs.length ≤ 3072 ∧ (Jvm.Cond.and given_1 narrow_1).before args s = true
def lw_Q (_ : Array Value) (s : State) (o : Outcome) (t : State) : Prop := o = .returned (some (.int 1)) ∧ Framed s o t [] 600000 7302249
def lw_Z (below : List Frame) (a : Array Value) (s : State) : State → Prop := fun t => ∃ o, t.status = .running ∧ Ended t below o ∧ lw_Q a s o t
/-- the law's own end, with 1 on the stack, nothing written that was there before, its room as the claim has it -/
theorem lw_ret {p : Program} {l : Launch} {e : Env} {s : State} {m : MethodId} {below : List Frame} {meth : Method} {c : Code} {b : Nat} (hx : p.tables.exec = Jvm.exec) (hb : c.code = code) (hr : meth.sig.returnType = ret) (hlocks : meth.locks = false) {pc : Nat} {H : Heap} {ls : Array Slot} (hdg : decode code pc = .ok (.ireturn, 1)) : W p l e room_1 s m #[Value.ref b] below meth c H [] 600000 7302249 (lw_Z below #[Value.ref b] s) (F0 m pc ls [.int 1]) := by
  intro T hT X
  obtain ⟨fs, hret, hrun, hended, hW, hframe⟩ := X.leave (v := some (.int 1)) (hlocks := hlocks) (fun h => by rw [hr] at h; cases h)
  have hmeth' : T.vm.method? m = some meth := X.method'
  refine ⟨T.setFrames fs, ?_, .returned (some (.int 1)), hrun, hended, rfl, ⟨_, rfl⟩, hW, hframe⟩
  jvm_step X.here [X.here.top, hx, hb, hdg, hmeth', hr, ret, narrow_b1]
  (try refine ⟨rfl, ?_⟩); (try refine ⟨rfl, ?_⟩)
  first | (intro acts; rw [hret _ acts rfl rfl rfl]) | rw [hret _ _ rfl rfl rfl]
  exact Steps.refl _
/-- what holds at the law's entry: the machine, the code, the tables' words (any of lw_tbl by 'hts w (by decide +kernel)'), the script of L ints xs at the cell b, what the Statement gives of the start (any of its parts by flat_of_before) -/
def lw_At (p : Program) (s : State) (m : MethodId) (meth : Method) (c : Code) (b L : Nat) (xs : Nat → Int32) : Prop :=
  p.tables.exec = Jvm.exec ∧ c.code = code ∧ meth.sig.returnType = ret ∧ c.maxLocals = 4 ∧ s.vm.findClass R_law = some m.cls ∧ (∀ w ∈ lw_tbl, w.before #[Value.ref b] s = true) ∧ va_X b L xs s s.heap ∧ b < s.heap.size ∧ meth.locks = false ∧ (Jvm.Cond.and given_1 narrow_1).before #[Value.ref b] s = true
theorem xret_2 {i : Instr} {st : List Value} {x : Int32} (h : xret 2 i st = some (some (.int x))) : i = .ireturn ∧ st = [.int x] := by
  unfold xret at h
  cases i with
  | ireturn =>
    match st, h with
    | [.int y], h =>
      obtain ⟨-, h⟩ := xifT (show (if y = 0 ∨ y = 1 then some (some (Value.int y)) else none) = some (some (.int x)) from h)
      cases h
      exact ⟨rfl, rfl⟩
    | [], h => exact absurd (show (none : Option (Option Value)) = _ from h) (by simp)
    | .long y :: r, h => exact absurd (show (none : Option (Option Value)) = _ from h) (by simp)
    | .float y :: r, h => exact absurd (show (none : Option (Option Value)) = _ from h) (by simp)
    | .double y :: r, h => exact absurd (show (none : Option (Option Value)) = _ from h) (by simp)
    | .null :: r, h => exact absurd (show (none : Option (Option Value)) = _ from h) (by simp)
    | .ref y :: r, h => exact absurd (show (none : Option (Option Value)) = _ from h) (by simp)
    | .retAddr y :: r, h => exact absurd (show (none : Option (Option Value)) = _ from h) (by simp)
    | .int y :: z :: r, h => exact absurd (show (none : Option (Option Value)) = _ from h) (by simp)
  | _ => exact absurd (show (none : Option (Option Value)) = _ from h) (by simp)
set_option maxHeartbeats 4000000 in
/-- the law's walk, out of a run of the abstract machine -/
theorem whole_start_of (hpure : xPure) {p : Program} {e : Env} {s : State} {m : MethodId} {below : List Frame} {meth : Method} {c : Code} (l : Launch) {b L : Nat} {xs : Nat → Int32} (hL : L ≤ 3072) (C0 : lw_At p s m meth c b L xs) : W p l e room_1 s m #[Value.ref b] below meth c s.heap [] 0 0 (lw_Z below #[Value.ref b] s) (entryFrame m ([Value.ref b] : List Value).toArray 4) := by
  obtain ⟨hx, hb, hr, hml, hown, hts, hX, hbl, hlocks, hgv⟩ := C0
  obtain ⟨G, hG, hb9, hE⟩ := xE_start hts hX hbl hgv
  obtain ⟨f, M, hrun⟩ := hpure L xs hL
  have hob := hE.2.2.2.2.2.2.2.2.2.2
  have hsnd := xsound (l := l) (G := G) (fun j hj => xokm_all hj) _ _ _ _ _ _ _ _ _ (by decide) hrun
  have hcv : xcv G (.ref 1009) = .ref b := by rw [xcv_ref (by decide), hb9]
  have hen := xLs_entry (G := G) hob (vs := [.ref 1009]) (n := 4) (by decide)
  have key := hsnd p e room_1 s m #[Value.ref b] below meth c (lw_Z below #[Value.ref b] s) 0 ⟨hx, hb, hml, hown, fun w hw => hts w (List.mem_filter.mp hw).1, hE, by decide, by decide, fun q => by cases q⟩ (Nat.le_refl 0) (show 94 - 0 ≤ 600000 by decide) (show xsl 94 - xsl 0 ≤ 7302249 by decide +kernel) ?_ s.heap [] _ va_S.rf ⟨fun k q h => by simp [xws] at h, fun _ => by rw [hG]; rfl⟩ hen
  · rw [show ([Value.ref 1009] : List Value).map (xcv G) = [.ref b] by show [xcv G (.ref 1009)] = _; rw [hcv]] at key
    rw [lg_entry_eq]
    exact key
  · intro H locs arr pc i st hS hP hd hrt
    have hrt : xret 2 i st = some (some (.int 1)) := hrt
    obtain ⟨rfl, rfl⟩ := xret_2 hrt
    refine va_forget (fun q hq => by have := hS.2.2 q hq; rw [← hG]; exact this) ?_
    exact W.widen (k := 600000) (n := 7302249) (show 94 - 0 ≤ 600000 by decide) (show xsl 94 - xsl 0 ≤ 7302249 by decide +kernel) (lw_ret hx hb hr hlocks hd)
