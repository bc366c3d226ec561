/-! X11_undo -/
def c_X11_undo (Q : xO → Prop) (t : Int32 × xI × xJ) : Prop := Q ((some (.int t.1)), 94, (t.2.1, t.2.2, xrf))
def f_X11_undo_1 (s0 : Int32) (I : xI) (J : xJ) : Option (Int32 × xI × xJ) := if s0 = 0 ∨ s0 = 1 then some (s0, I, J) else none
def f_X11_undo_0 (I : xI) (J : xJ) : Option (Int32 × xI × xJ) := (f_X4_takeBack I J).bind fun o => f_X11_undo_1 o.1 o.2.1 o.2.2
def f_X11_undo (I : xI) (J : xJ) : Option (Int32 × xI × xJ) := f_X11_undo_0 I J
theorem p_X11_undo_1 {L : Nat} {xs : Nat → Int32} {d : Nat} {Q : xO → Prop} (s0 : Int32) (I : xI) (J : xJ) {t : Int32 × xI × xJ} (h : f_X11_undo_1 s0 I J = some t) (hC : (c_X11_undo Q) t) : Rn L xs (d + 4) 144 7 [some (.ref 0)] [.int s0] 94 (I, J, xrf) Q := by
  unfold f_X11_undo_1 at h
  obtain ⟨hc, h⟩ := xifT h
  cases h
  exact Rn.retT 1 (c := s0 = 0 ∨ s0 = 1) (o := ((some (.int s0)), 94, (I, J, xrf))) (fun f => rfl) hc hC
theorem p_X11_undo_0 {L : Nat} {xs : Nat → Int32} {d : Nat} {Q : xO → Prop} (I : xI) (J : xJ) {t : Int32 × xI × xJ} (h : f_X11_undo_0 I J = some t) (hC : (c_X11_undo Q) t) : Rn L xs (d + 4) 144 0 [some (.ref 0)] [] 94 (I, J, xrf) Q := by
  unfold f_X11_undo_0 at h
  refine Rn.go 2 (j' := 144) (pc' := 4) (ls' := [some (.ref 0)]) (st' := [.ref 5]) (n' := 94) (M' := (I, J, xrf)) (fun f => rfl) ?_
  obtain ⟨o, ho, h⟩ := Option.bind_eq_some_iff.mp h
  refine Rn.call (d1 := d + 3) (j1 := 42) (ls1 := [some (.ref 5)]) (rest := []) (fun f => rfl) ?_
  refine p_X4_takeBack (d := d + 0) I J (t := o) ho ?_
  exact p_X11_undo_1 o.1 o.2.1 o.2.2 h hC
theorem p_X11_undo {L : Nat} {xs : Nat → Int32} {d : Nat} {Q : xO → Prop} (I : xI) (J : xJ) {t : Int32 × xI × xJ} (h : f_X11_undo I J = some t) (hC : Q ((some (.int t.1)), 94, (t.2.1, t.2.2, xrf))) : Rn L xs (d + 4) 144 0 [some (.ref 0)] [] 94 (I, J, xrf) Q := p_X11_undo_0 I J h hC
/-! X11_move -/
def c_X11_move (Q : xO → Prop) (t : Int32 × xI × xJ) : Prop := Q ((some (.int t.1)), 94, (t.2.1, t.2.2, xrf))
def f_X11_move_6 (x1 : Int32) (x2 : Int32) (x3 : Int32) (I : xI) (J : xJ) : Option (Int32 × xI × xJ) := some ((-1), I, J)
def f_X11_move_11 (x1 : Int32) (x2 : Int32) (x3 : Int32) (s0 : Int32) (I : xI) (J : xJ) : Option (Int32 × xI × xJ) := some (s0, I, J)
def f_X11_move_10 (x1 : Int32) (x2 : Int32) (x3 : Int32) (I : xI) (J : xJ) : Option (Int32 × xI × xJ) := (f_X5_answerOf x1 x2 I J).bind fun o => f_X11_move_11 x1 x2 x3 o.1 o.2.1 o.2.2
def f_X11_move_9 (x1 : Int32) (x2 : Int32) (x3 : Int32) (s0 : Int32) (I : xI) (J : xJ) : Option (Int32 × xI × xJ) := f_X11_move_11 x1 x2 x3 s0 I J
def f_X11_move_8 (x1 : Int32) (x2 : Int32) (x3 : Int32) (I : xI) (J : xJ) : Option (Int32 × xI × xJ) := (f_X5_targetOf x1 x2 I J).bind fun o => f_X11_move_9 x1 x2 x3 o.1 o.2.1 o.2.2
def f_X11_move_7 (x1 : Int32) (x2 : Int32) (x3 : Int32) (I : xI) (J : xJ) : Option (Int32 × xI × xJ) := if x3 = 0 then f_X11_move_8 x1 x2 x3 I J else f_X11_move_10 x1 x2 x3 I J
def f_X11_move_5 (x1 : Int32) (x2 : Int32) (x3 : Int32) (I : xI) (J : xJ) : Option (Int32 × xI × xJ) := if x3 ≤ 1 then f_X11_move_7 x1 x2 x3 I J else f_X11_move_6 x1 x2 x3 I J
def f_X11_move_4 (x1 : Int32) (x2 : Int32) (x3 : Int32) (I : xI) (J : xJ) : Option (Int32 × xI × xJ) := if x3 < 0 then f_X11_move_6 x1 x2 x3 I J else f_X11_move_5 x1 x2 x3 I J
def f_X11_move_3 (x1 : Int32) (x2 : Int32) (x3 : Int32) (s0 : Int32) (I : xI) (J : xJ) : Option (Int32 × xI × xJ) := if s0 = 0 then f_X11_move_6 x1 x2 x3 I J else f_X11_move_4 x1 x2 x3 I J
def f_X11_move_2 (x1 : Int32) (x2 : Int32) (x3 : Int32) (I : xI) (J : xJ) : Option (Int32 × xI × xJ) := (f_X5_hasInput x2 I J).bind fun o => f_X11_move_3 x1 x2 x3 o.1 o.2.1 o.2.2
def f_X11_move_1 (x1 : Int32) (x2 : Int32) (x3 : Int32) (s0 : Int32) (I : xI) (J : xJ) : Option (Int32 × xI × xJ) := if s0 = 0 then f_X11_move_6 x1 x2 x3 I J else f_X11_move_2 x1 x2 x3 I J
def f_X11_move_0 (x1 : Int32) (x2 : Int32) (x3 : Int32) (I : xI) (J : xJ) : Option (Int32 × xI × xJ) := (f_X5_hasState x1 I J).bind fun o => f_X11_move_1 x1 x2 x3 o.1 o.2.1 o.2.2
def f_X11_move (x1 : Int32) (x2 : Int32) (x3 : Int32) (I : xI) (J : xJ) : Option (Int32 × xI × xJ) := f_X11_move_0 x1 x2 x3 I J
theorem p_X11_move_6 {L : Nat} {xs : Nat → Int32} {d : Nat} {Q : xO → Prop} (x1 : Int32) (x2 : Int32) (x3 : Int32) (I : xI) (J : xJ) {t : Int32 × xI × xJ} (h : f_X11_move_6 x1 x2 x3 I J = some t) (hC : (c_X11_move Q) t) : Rn L xs (d + 2) 145 31 [some (.ref 0), some (.int x1), some (.int x2), some (.int x3)] [] 94 (I, J, xrf) Q := by
  unfold f_X11_move_6 at h
  cases h
  exact Rn.ret 2 (o := ((some (.int ((-1)))), 94, (I, J, xrf))) (fun f => rfl) hC
theorem p_X11_move_11 {L : Nat} {xs : Nat → Int32} {d : Nat} {Q : xO → Prop} (x1 : Int32) (x2 : Int32) (x3 : Int32) (s0 : Int32) (I : xI) (J : xJ) {t : Int32 × xI × xJ} (h : f_X11_move_11 x1 x2 x3 s0 I J = some t) (hC : (c_X11_move Q) t) : Rn L xs (d + 2) 145 58 [some (.ref 0), some (.int x1), some (.int x2), some (.int x3)] [.int s0] 94 (I, J, xrf) Q := by
  unfold f_X11_move_11 at h
  cases h
  exact Rn.ret 1 (o := ((some (.int s0)), 94, (I, J, xrf))) (fun f => rfl) hC
theorem p_X11_move_10 {L : Nat} {xs : Nat → Int32} {d : Nat} {Q : xO → Prop} (x1 : Int32) (x2 : Int32) (x3 : Int32) (I : xI) (J : xJ) {t : Int32 × xI × xJ} (h : f_X11_move_10 x1 x2 x3 I J = some t) (hC : (c_X11_move Q) t) : Rn L xs (d + 2) 145 49 [some (.ref 0), some (.int x1), some (.int x2), some (.int x3)] [] 94 (I, J, xrf) Q := by
  unfold f_X11_move_10 at h
  refine Rn.go 4 (j' := 145) (pc' := 55) (ls' := [some (.ref 0), some (.int x1), some (.int x2), some (.int x3)]) (st' := [.int x2, .int x1, .ref 1]) (n' := 94) (M' := (I, J, xrf)) (fun f => rfl) ?_
  obtain ⟨o, ho, h⟩ := Option.bind_eq_some_iff.mp h
  refine Rn.call (d1 := d + 1) (j1 := 58) (ls1 := [some (.ref 1), some (.int x1), some (.int x2)]) (rest := []) (fun f => rfl) ?_
  refine p_X5_answerOf (d := d + 0) x1 x2 I J (t := o) ho ?_
  exact p_X11_move_11 x1 x2 x3 o.1 o.2.1 o.2.2 h hC
theorem p_X11_move_9 {L : Nat} {xs : Nat → Int32} {d : Nat} {Q : xO → Prop} (x1 : Int32) (x2 : Int32) (x3 : Int32) (s0 : Int32) (I : xI) (J : xJ) {t : Int32 × xI × xJ} (h : f_X11_move_9 x1 x2 x3 s0 I J = some t) (hC : (c_X11_move Q) t) : Rn L xs (d + 2) 145 46 [some (.ref 0), some (.int x1), some (.int x2), some (.int x3)] [.int s0] 94 (I, J, xrf) Q := by
  unfold f_X11_move_9 at h
  refine Rn.go 1 (j' := 145) (pc' := 58) (ls' := [some (.ref 0), some (.int x1), some (.int x2), some (.int x3)]) (st' := [.int s0]) (n' := 94) (M' := (I, J, xrf)) (fun f => rfl) ?_
  exact p_X11_move_11 x1 x2 x3 s0 I J h hC
theorem p_X11_move_8 {L : Nat} {xs : Nat → Int32} {d : Nat} {Q : xO → Prop} (x1 : Int32) (x2 : Int32) (x3 : Int32) (I : xI) (J : xJ) {t : Int32 × xI × xJ} (h : f_X11_move_8 x1 x2 x3 I J = some t) (hC : (c_X11_move Q) t) : Rn L xs (d + 2) 145 37 [some (.ref 0), some (.int x1), some (.int x2), some (.int x3)] [] 94 (I, J, xrf) Q := by
  unfold f_X11_move_8 at h
  refine Rn.go 4 (j' := 145) (pc' := 43) (ls' := [some (.ref 0), some (.int x1), some (.int x2), some (.int x3)]) (st' := [.int x2, .int x1, .ref 1]) (n' := 94) (M' := (I, J, xrf)) (fun f => rfl) ?_
  obtain ⟨o, ho, h⟩ := Option.bind_eq_some_iff.mp h
  refine Rn.call (d1 := d + 1) (j1 := 57) (ls1 := [some (.ref 1), some (.int x1), some (.int x2)]) (rest := []) (fun f => rfl) ?_
  refine p_X5_targetOf (d := d + 0) x1 x2 I J (t := o) ho ?_
  exact p_X11_move_9 x1 x2 x3 o.1 o.2.1 o.2.2 h hC
theorem p_X11_move_7 {L : Nat} {xs : Nat → Int32} {d : Nat} {Q : xO → Prop} (x1 : Int32) (x2 : Int32) (x3 : Int32) (I : xI) (J : xJ) {t : Int32 × xI × xJ} (h : f_X11_move_7 x1 x2 x3 I J = some t) (hC : (c_X11_move Q) t) : Rn L xs (d + 2) 145 33 [some (.ref 0), some (.int x1), some (.int x2), some (.int x3)] [] 94 (I, J, xrf) Q := by
  unfold f_X11_move_7 at h
  refine Rn.fi 2 (c := x3 = 0) (p1 := 37) (l1 := [some (.ref 0), some (.int x1), some (.int x2), some (.int x3)]) (s1 := []) (n1 := 94) (M1 := (I, J, xrf)) (p2 := 49) (l2 := [some (.ref 0), some (.int x1), some (.int x2), some (.int x3)]) (s2 := []) (n2 := 94) (M2 := (I, J, xrf)) (fun f => rfl) (fun hc => ?_) (fun hc => ?_)
  · rw [if_pos hc] at h
    exact p_X11_move_8 x1 x2 x3 I J h hC
  · rw [if_neg hc] at h
    exact p_X11_move_10 x1 x2 x3 I J h hC
theorem p_X11_move_5 {L : Nat} {xs : Nat → Int32} {d : Nat} {Q : xO → Prop} (x1 : Int32) (x2 : Int32) (x3 : Int32) (I : xI) (J : xJ) {t : Int32 × xI × xJ} (h : f_X11_move_5 x1 x2 x3 I J = some t) (hC : (c_X11_move Q) t) : Rn L xs (d + 2) 145 26 [some (.ref 0), some (.int x1), some (.int x2), some (.int x3)] [] 94 (I, J, xrf) Q := by
  unfold f_X11_move_5 at h
  refine Rn.fi 3 (c := x3 ≤ 1) (p1 := 33) (l1 := [some (.ref 0), some (.int x1), some (.int x2), some (.int x3)]) (s1 := []) (n1 := 94) (M1 := (I, J, xrf)) (p2 := 31) (l2 := [some (.ref 0), some (.int x1), some (.int x2), some (.int x3)]) (s2 := []) (n2 := 94) (M2 := (I, J, xrf)) (fun f => rfl) (fun hc => ?_) (fun hc => ?_)
  · rw [if_pos hc] at h
    exact p_X11_move_7 x1 x2 x3 I J h hC
  · rw [if_neg hc] at h
    exact p_X11_move_6 x1 x2 x3 I J h hC
theorem p_X11_move_4 {L : Nat} {xs : Nat → Int32} {d : Nat} {Q : xO → Prop} (x1 : Int32) (x2 : Int32) (x3 : Int32) (I : xI) (J : xJ) {t : Int32 × xI × xJ} (h : f_X11_move_4 x1 x2 x3 I J = some t) (hC : (c_X11_move Q) t) : Rn L xs (d + 2) 145 22 [some (.ref 0), some (.int x1), some (.int x2), some (.int x3)] [] 94 (I, J, xrf) Q := by
  unfold f_X11_move_4 at h
  refine Rn.fi 2 (c := x3 < 0) (p1 := 31) (l1 := [some (.ref 0), some (.int x1), some (.int x2), some (.int x3)]) (s1 := []) (n1 := 94) (M1 := (I, J, xrf)) (p2 := 26) (l2 := [some (.ref 0), some (.int x1), some (.int x2), some (.int x3)]) (s2 := []) (n2 := 94) (M2 := (I, J, xrf)) (fun f => rfl) (fun hc => ?_) (fun hc => ?_)
  · rw [if_pos hc] at h
    exact p_X11_move_6 x1 x2 x3 I J h hC
  · rw [if_neg hc] at h
    exact p_X11_move_5 x1 x2 x3 I J h hC
theorem p_X11_move_3 {L : Nat} {xs : Nat → Int32} {d : Nat} {Q : xO → Prop} (x1 : Int32) (x2 : Int32) (x3 : Int32) (s0 : Int32) (I : xI) (J : xJ) {t : Int32 × xI × xJ} (h : f_X11_move_3 x1 x2 x3 s0 I J = some t) (hC : (c_X11_move Q) t) : Rn L xs (d + 2) 145 19 [some (.ref 0), some (.int x1), some (.int x2), some (.int x3)] [.int s0] 94 (I, J, xrf) Q := by
  unfold f_X11_move_3 at h
  refine Rn.fi 1 (c := s0 = 0) (p1 := 31) (l1 := [some (.ref 0), some (.int x1), some (.int x2), some (.int x3)]) (s1 := []) (n1 := 94) (M1 := (I, J, xrf)) (p2 := 22) (l2 := [some (.ref 0), some (.int x1), some (.int x2), some (.int x3)]) (s2 := []) (n2 := 94) (M2 := (I, J, xrf)) (fun f => rfl) (fun hc => ?_) (fun hc => ?_)
  · rw [if_pos hc] at h
    exact p_X11_move_6 x1 x2 x3 I J h hC
  · rw [if_neg hc] at h
    exact p_X11_move_4 x1 x2 x3 I J h hC
theorem p_X11_move_2 {L : Nat} {xs : Nat → Int32} {d : Nat} {Q : xO → Prop} (x1 : Int32) (x2 : Int32) (x3 : Int32) (I : xI) (J : xJ) {t : Int32 × xI × xJ} (h : f_X11_move_2 x1 x2 x3 I J = some t) (hC : (c_X11_move Q) t) : Rn L xs (d + 2) 145 11 [some (.ref 0), some (.int x1), some (.int x2), some (.int x3)] [] 94 (I, J, xrf) Q := by
  unfold f_X11_move_2 at h
  refine Rn.go 3 (j' := 145) (pc' := 16) (ls' := [some (.ref 0), some (.int x1), some (.int x2), some (.int x3)]) (st' := [.int x2, .ref 1]) (n' := 94) (M' := (I, J, xrf)) (fun f => rfl) ?_
  obtain ⟨o, ho, h⟩ := Option.bind_eq_some_iff.mp h
  refine Rn.call (d1 := d + 1) (j1 := 52) (ls1 := [some (.ref 1), some (.int x2)]) (rest := []) (fun f => rfl) ?_
  refine p_X5_hasInput (d := d + 0) x2 I J (t := o) ho ?_
  exact p_X11_move_3 x1 x2 x3 o.1 o.2.1 o.2.2 h hC
theorem p_X11_move_1 {L : Nat} {xs : Nat → Int32} {d : Nat} {Q : xO → Prop} (x1 : Int32) (x2 : Int32) (x3 : Int32) (s0 : Int32) (I : xI) (J : xJ) {t : Int32 × xI × xJ} (h : f_X11_move_1 x1 x2 x3 s0 I J = some t) (hC : (c_X11_move Q) t) : Rn L xs (d + 2) 145 8 [some (.ref 0), some (.int x1), some (.int x2), some (.int x3)] [.int s0] 94 (I, J, xrf) Q := by
  unfold f_X11_move_1 at h
  refine Rn.fi 1 (c := s0 = 0) (p1 := 31) (l1 := [some (.ref 0), some (.int x1), some (.int x2), some (.int x3)]) (s1 := []) (n1 := 94) (M1 := (I, J, xrf)) (p2 := 11) (l2 := [some (.ref 0), some (.int x1), some (.int x2), some (.int x3)]) (s2 := []) (n2 := 94) (M2 := (I, J, xrf)) (fun f => rfl) (fun hc => ?_) (fun hc => ?_)
  · rw [if_pos hc] at h
    exact p_X11_move_6 x1 x2 x3 I J h hC
  · rw [if_neg hc] at h
    exact p_X11_move_2 x1 x2 x3 I J h hC
theorem p_X11_move_0 {L : Nat} {xs : Nat → Int32} {d : Nat} {Q : xO → Prop} (x1 : Int32) (x2 : Int32) (x3 : Int32) (I : xI) (J : xJ) {t : Int32 × xI × xJ} (h : f_X11_move_0 x1 x2 x3 I J = some t) (hC : (c_X11_move Q) t) : Rn L xs (d + 2) 145 0 [some (.ref 0), some (.int x1), some (.int x2), some (.int x3)] [] 94 (I, J, xrf) Q := by
  unfold f_X11_move_0 at h
  refine Rn.go 3 (j' := 145) (pc' := 5) (ls' := [some (.ref 0), some (.int x1), some (.int x2), some (.int x3)]) (st' := [.int x1, .ref 1]) (n' := 94) (M' := (I, J, xrf)) (fun f => rfl) ?_
  obtain ⟨o, ho, h⟩ := Option.bind_eq_some_iff.mp h
  refine Rn.call (d1 := d + 1) (j1 := 51) (ls1 := [some (.ref 1), some (.int x1)]) (rest := []) (fun f => rfl) ?_
  refine p_X5_hasState (d := d + 0) x1 I J (t := o) ho ?_
  exact p_X11_move_1 x1 x2 x3 o.1 o.2.1 o.2.2 h hC
theorem p_X11_move {L : Nat} {xs : Nat → Int32} {d : Nat} {Q : xO → Prop} (x1 : Int32) (x2 : Int32) (x3 : Int32) (I : xI) (J : xJ) {t : Int32 × xI × xJ} (h : f_X11_move x1 x2 x3 I J = some t) (hC : Q ((some (.int t.1)), 94, (t.2.1, t.2.2, xrf))) : Rn L xs (d + 2) 145 0 [some (.ref 0), some (.int x1), some (.int x2), some (.int x3)] [] 94 (I, J, xrf) Q := p_X11_move_0 x1 x2 x3 I J h hC
/-! J7_fill_53178_33 -/
def c_J7_fill_53178_33 (Q : xO → Prop) (t : Unit × xI × xJ) : Prop := Q (none, 94, (t.2.1, t.2.2, xrf))
def c_J7_fill_53178_33_1 (L : Nat) (xs : Nat → Int32) (d : Nat) (Q : xO → Prop) (t : (Int32 × Int32 × Int32 × xI × xJ) ⊕ (Unit × xI × xJ)) : Prop := match t with
  | .inl s => Rn L xs (d + 1) 307 5 [some (.ref 33), some (.int s.1), some (.int s.2.1), some (.int s.2.2.1)] [] 94 (s.2.2.2.1, s.2.2.2.2, xrf) Q
  | .inr t => (c_J7_fill_53178_33 Q) t
def f_J7_fill_53178_33_3 (x1 : Int32) (x2 : Int32) (x3 : Int32) (I : xI) (J : xJ) : Option (Unit × xI × xJ) := some ((), I, J)
def f_J7_fill_53178_33_2 (x1 : Int32) (x2 : Int32) (x3 : Int32) (I : xI) (J : xJ) : Option ((Int32 × Int32 × Int32 × xI × xJ) ⊕ (Unit × xI × xJ)) := if x2 < 0 ∨ 15 ≤ x2.toNatClampNeg then none else some (.inl (x1, ((x2 + 1)), x3, ((xup I 33 x2.toNatClampNeg x1)), J))
def b_J7_fill_53178_33_1 (x1 : Int32) (x2 : Int32) (x3 : Int32) (I : xI) (J : xJ) : Option ((Int32 × Int32 × Int32 × xI × xJ) ⊕ (Unit × xI × xJ)) := if x3 ≤ x2 then ((f_J7_fill_53178_33_3 x1 x2 x3 I J)).map .inr else f_J7_fill_53178_33_2 x1 x2 x3 I J
def f_J7_fill_53178_33_1 (x1 : Int32) (x2 : Int32) (x3 : Int32) (I : xI) (J : xJ) : Option (Unit × xI × xJ) := xloop (fun s : Int32 × Int32 × Int32 × xI × xJ => b_J7_fill_53178_33_1 s.1 s.2.1 s.2.2.1 s.2.2.2.1 s.2.2.2.2) 5000 (x1, x2, x3, I, J)
def f_J7_fill_53178_33_0 (x1 : Int32) (I : xI) (J : xJ) : Option (Unit × xI × xJ) := f_J7_fill_53178_33_1 x1 0 15 I J
def f_J7_fill_53178_33 (x1 : Int32) (I : xI) (J : xJ) : Option (Unit × xI × xJ) := f_J7_fill_53178_33_0 x1 I J
theorem p_J7_fill_53178_33_3 {L : Nat} {xs : Nat → Int32} {d : Nat} {Q : xO → Prop} (x1 : Int32) (x2 : Int32) (x3 : Int32) (I : xI) (J : xJ) {t : Unit × xI × xJ} (h : f_J7_fill_53178_33_3 x1 x2 x3 I J = some t) (hC : (c_J7_fill_53178_33 Q) t) : Rn L xs (d + 1) 307 20 [some (.ref 33), some (.int x1), some (.int x2), some (.int x3)] [] 94 (I, J, xrf) Q := by
  unfold f_J7_fill_53178_33_3 at h
  cases h
  exact Rn.ret 1 (o := (none, 94, (I, J, xrf))) (fun f => rfl) hC
theorem p_J7_fill_53178_33_2 {L : Nat} {xs : Nat → Int32} {d : Nat} {Q : xO → Prop} (x1 : Int32) (x2 : Int32) (x3 : Int32) (I : xI) (J : xJ) {t : (Int32 × Int32 × Int32 × xI × xJ) ⊕ (Unit × xI × xJ)} (h : f_J7_fill_53178_33_2 x1 x2 x3 I J = some t) (hC : (c_J7_fill_53178_33_1 L xs d Q) t) : Rn L xs (d + 1) 307 10 [some (.ref 33), some (.int x1), some (.int x2), some (.int x3)] [] 94 (I, J, xrf) Q := by
  unfold f_J7_fill_53178_33_2 at h
  obtain ⟨hc, h⟩ := xif h
  refine Rn.ok 4 (c := x2 < 0 ∨ 15 ≤ x2.toNatClampNeg) (p1 := 14) (l1 := [some (.ref 33), some (.int x1), some (.int x2), some (.int x3)]) (s1 := []) (n1 := 94) (M1 := ((xup I 33 x2.toNatClampNeg x1), J, xrf)) (fun f => rfl) hc ?_
  refine Rn.go 2 (j' := 307) (pc' := 5) (ls' := [some (.ref 33), some (.int x1), some (.int ((x2 + 1))), some (.int x3)]) (st' := []) (n' := 94) (M' := ((xup I 33 x2.toNatClampNeg x1), J, xrf)) (fun f => rfl) ?_
  cases h; exact hC
theorem q_J7_fill_53178_33_1 {L : Nat} {xs : Nat → Int32} {d : Nat} {Q : xO → Prop} (x1 : Int32) (x2 : Int32) (x3 : Int32) (I : xI) (J : xJ) {t : (Int32 × Int32 × Int32 × xI × xJ) ⊕ (Unit × xI × xJ)} (h : b_J7_fill_53178_33_1 x1 x2 x3 I J = some t) (hC : (c_J7_fill_53178_33_1 L xs d Q) t) : Rn L xs (d + 1) 307 5 [some (.ref 33), some (.int x1), some (.int x2), some (.int x3)] [] 94 (I, J, xrf) Q := by
  unfold b_J7_fill_53178_33_1 at h
  refine Rn.fi 3 (c := x3 ≤ x2) (p1 := 20) (l1 := [some (.ref 33), some (.int x1), some (.int x2), some (.int x3)]) (s1 := []) (n1 := 94) (M1 := (I, J, xrf)) (p2 := 10) (l2 := [some (.ref 33), some (.int x1), some (.int x2), some (.int x3)]) (s2 := []) (n2 := 94) (M2 := (I, J, xrf)) (fun f => rfl) (fun hc => ?_) (fun hc => ?_)
  · rw [if_pos hc] at h
    obtain ⟨t0, h0, rfl⟩ := Option.map_eq_some_iff.mp h
    exact p_J7_fill_53178_33_3 x1 x2 x3 I J h0 hC
  · rw [if_neg hc] at h
    exact p_J7_fill_53178_33_2 x1 x2 x3 I J h hC
theorem p_J7_fill_53178_33_1 {L : Nat} {xs : Nat → Int32} {d : Nat} {Q : xO → Prop} (x1 : Int32) (x2 : Int32) (x3 : Int32) (I : xI) (J : xJ) {t : Unit × xI × xJ} (h : f_J7_fill_53178_33_1 x1 x2 x3 I J = some t) (hC : (c_J7_fill_53178_33 Q) t) : Rn L xs (d + 1) 307 5 [some (.ref 33), some (.int x1), some (.int x2), some (.int x3)] [] 94 (I, J, xrf) Q := by
  unfold f_J7_fill_53178_33_1 at h
  exact xloop_some (P := fun s : Int32 × Int32 × Int32 × xI × xJ => Rn L xs (d + 1) 307 5 [some (.ref 33), some (.int s.1), some (.int s.2.1), some (.int s.2.2.1)] [] 94 (s.2.2.2.1, s.2.2.2.2, xrf) Q) t (fun s ⟨s', hb, hp⟩ => q_J7_fill_53178_33_1 s.1 s.2.1 s.2.2.1 s.2.2.2.1 s.2.2.2.2 hb hp) (fun s hb => q_J7_fill_53178_33_1 s.1 s.2.1 s.2.2.1 s.2.2.2.1 s.2.2.2.2 hb hC) _ _ h
theorem p_J7_fill_53178_33_0 {L : Nat} {xs : Nat → Int32} {d : Nat} {Q : xO → Prop} (x1 : Int32) (I : xI) (J : xJ) {t : Unit × xI × xJ} (h : f_J7_fill_53178_33_0 x1 I J = some t) (hC : (c_J7_fill_53178_33 Q) t) : Rn L xs (d + 1) 307 0 [some (.ref 33), some (.int x1), none, none] [] 94 (I, J, xrf) Q := by
  unfold f_J7_fill_53178_33_0 at h
  refine Rn.go 5 (j' := 307) (pc' := 5) (ls' := [some (.ref 33), some (.int x1), some (.int 0), some (.int 15)]) (st' := []) (n' := 94) (M' := (I, J, xrf)) (fun f => rfl) ?_
  exact p_J7_fill_53178_33_1 x1 0 15 I J h hC
theorem p_J7_fill_53178_33 {L : Nat} {xs : Nat → Int32} {d : Nat} {Q : xO → Prop} (x1 : Int32) (I : xI) (J : xJ) {t : Unit × xI × xJ} (h : f_J7_fill_53178_33 x1 I J = some t) (hC : Q (none, 94, (t.2.1, t.2.2, xrf))) : Rn L xs (d + 1) 307 0 [some (.ref 33), some (.int x1), none, none] [] 94 (I, J, xrf) Q := p_J7_fill_53178_33_0 x1 I J h hC
/-! J7_fill_53178_34 -/
def c_J7_fill_53178_34 (Q : xO → Prop) (t : Unit × xI × xJ) : Prop := Q (none, 94, (t.2.1, t.2.2, xrf))
def c_J7_fill_53178_34_1 (L : Nat) (xs : Nat → Int32) (d : Nat) (Q : xO → Prop) (t : (Int32 × Int32 × Int32 × xI × xJ) ⊕ (Unit × xI × xJ)) : Prop := match t with
  | .inl s => Rn L xs (d + 1) 307 5 [some (.ref 34), some (.int s.1), some (.int s.2.1), some (.int s.2.2.1)] [] 94 (s.2.2.2.1, s.2.2.2.2, xrf) Q
  | .inr t => (c_J7_fill_53178_34 Q) t
def f_J7_fill_53178_34_3 (x1 : Int32) (x2 : Int32) (x3 : Int32) (I : xI) (J : xJ) : Option (Unit × xI × xJ) := some ((), I, J)
def f_J7_fill_53178_34_2 (x1 : Int32) (x2 : Int32) (x3 : Int32) (I : xI) (J : xJ) : Option ((Int32 × Int32 × Int32 × xI × xJ) ⊕ (Unit × xI × xJ)) := if x2 < 0 ∨ 15 ≤ x2.toNatClampNeg then none else some (.inl (x1, ((x2 + 1)), x3, ((xup I 34 x2.toNatClampNeg x1)), J))
def b_J7_fill_53178_34_1 (x1 : Int32) (x2 : Int32) (x3 : Int32) (I : xI) (J : xJ) : Option ((Int32 × Int32 × Int32 × xI × xJ) ⊕ (Unit × xI × xJ)) := if x3 ≤ x2 then ((f_J7_fill_53178_34_3 x1 x2 x3 I J)).map .inr else f_J7_fill_53178_34_2 x1 x2 x3 I J
def f_J7_fill_53178_34_1 (x1 : Int32) (x2 : Int32) (x3 : Int32) (I : xI) (J : xJ) : Option (Unit × xI × xJ) := xloop (fun s : Int32 × Int32 × Int32 × xI × xJ => b_J7_fill_53178_34_1 s.1 s.2.1 s.2.2.1 s.2.2.2.1 s.2.2.2.2) 5000 (x1, x2, x3, I, J)
def f_J7_fill_53178_34_0 (x1 : Int32) (I : xI) (J : xJ) : Option (Unit × xI × xJ) := f_J7_fill_53178_34_1 x1 0 15 I J
def f_J7_fill_53178_34 (x1 : Int32) (I : xI) (J : xJ) : Option (Unit × xI × xJ) := f_J7_fill_53178_34_0 x1 I J
theorem p_J7_fill_53178_34_3 {L : Nat} {xs : Nat → Int32} {d : Nat} {Q : xO → Prop} (x1 : Int32) (x2 : Int32) (x3 : Int32) (I : xI) (J : xJ) {t : Unit × xI × xJ} (h : f_J7_fill_53178_34_3 x1 x2 x3 I J = some t) (hC : (c_J7_fill_53178_34 Q) t) : Rn L xs (d + 1) 307 20 [some (.ref 34), some (.int x1), some (.int x2), some (.int x3)] [] 94 (I, J, xrf) Q := by
  unfold f_J7_fill_53178_34_3 at h
  cases h
  exact Rn.ret 1 (o := (none, 94, (I, J, xrf))) (fun f => rfl) hC
theorem p_J7_fill_53178_34_2 {L : Nat} {xs : Nat → Int32} {d : Nat} {Q : xO → Prop} (x1 : Int32) (x2 : Int32) (x3 : Int32) (I : xI) (J : xJ) {t : (Int32 × Int32 × Int32 × xI × xJ) ⊕ (Unit × xI × xJ)} (h : f_J7_fill_53178_34_2 x1 x2 x3 I J = some t) (hC : (c_J7_fill_53178_34_1 L xs d Q) t) : Rn L xs (d + 1) 307 10 [some (.ref 34), some (.int x1), some (.int x2), some (.int x3)] [] 94 (I, J, xrf) Q := by
  unfold f_J7_fill_53178_34_2 at h
  obtain ⟨hc, h⟩ := xif h
  refine Rn.ok 4 (c := x2 < 0 ∨ 15 ≤ x2.toNatClampNeg) (p1 := 14) (l1 := [some (.ref 34), some (.int x1), some (.int x2), some (.int x3)]) (s1 := []) (n1 := 94) (M1 := ((xup I 34 x2.toNatClampNeg x1), J, xrf)) (fun f => rfl) hc ?_
  refine Rn.go 2 (j' := 307) (pc' := 5) (ls' := [some (.ref 34), some (.int x1), some (.int ((x2 + 1))), some (.int x3)]) (st' := []) (n' := 94) (M' := ((xup I 34 x2.toNatClampNeg x1), J, xrf)) (fun f => rfl) ?_
  cases h; exact hC
theorem q_J7_fill_53178_34_1 {L : Nat} {xs : Nat → Int32} {d : Nat} {Q : xO → Prop} (x1 : Int32) (x2 : Int32) (x3 : Int32) (I : xI) (J : xJ) {t : (Int32 × Int32 × Int32 × xI × xJ) ⊕ (Unit × xI × xJ)} (h : b_J7_fill_53178_34_1 x1 x2 x3 I J = some t) (hC : (c_J7_fill_53178_34_1 L xs d Q) t) : Rn L xs (d + 1) 307 5 [some (.ref 34), some (.int x1), some (.int x2), some (.int x3)] [] 94 (I, J, xrf) Q := by
  unfold b_J7_fill_53178_34_1 at h
  refine Rn.fi 3 (c := x3 ≤ x2) (p1 := 20) (l1 := [some (.ref 34), some (.int x1), some (.int x2), some (.int x3)]) (s1 := []) (n1 := 94) (M1 := (I, J, xrf)) (p2 := 10) (l2 := [some (.ref 34), some (.int x1), some (.int x2), some (.int x3)]) (s2 := []) (n2 := 94) (M2 := (I, J, xrf)) (fun f => rfl) (fun hc => ?_) (fun hc => ?_)
  · rw [if_pos hc] at h
    obtain ⟨t0, h0, rfl⟩ := Option.map_eq_some_iff.mp h
    exact p_J7_fill_53178_34_3 x1 x2 x3 I J h0 hC
  · rw [if_neg hc] at h
    exact p_J7_fill_53178_34_2 x1 x2 x3 I J h hC
theorem p_J7_fill_53178_34_1 {L : Nat} {xs : Nat → Int32} {d : Nat} {Q : xO → Prop} (x1 : Int32) (x2 : Int32) (x3 : Int32) (I : xI) (J : xJ) {t : Unit × xI × xJ} (h : f_J7_fill_53178_34_1 x1 x2 x3 I J = some t) (hC : (c_J7_fill_53178_34 Q) t) : Rn L xs (d + 1) 307 5 [some (.ref 34), some (.int x1), some (.int x2), some (.int x3)] [] 94 (I, J, xrf) Q := by
  unfold f_J7_fill_53178_34_1 at h
  exact xloop_some (P := fun s : Int32 × Int32 × Int32 × xI × xJ => Rn L xs (d + 1) 307 5 [some (.ref 34), some (.int s.1), some (.int s.2.1), some (.int s.2.2.1)] [] 94 (s.2.2.2.1, s.2.2.2.2, xrf) Q) t (fun s ⟨s', hb, hp⟩ => q_J7_fill_53178_34_1 s.1 s.2.1 s.2.2.1 s.2.2.2.1 s.2.2.2.2 hb hp) (fun s hb => q_J7_fill_53178_34_1 s.1 s.2.1 s.2.2.1 s.2.2.2.1 s.2.2.2.2 hb hC) _ _ h
theorem p_J7_fill_53178_34_0 {L : Nat} {xs : Nat → Int32} {d : Nat} {Q : xO → Prop} (x1 : Int32) (I : xI) (J : xJ) {t : Unit × xI × xJ} (h : f_J7_fill_53178_34_0 x1 I J = some t) (hC : (c_J7_fill_53178_34 Q) t) : Rn L xs (d + 1) 307 0 [some (.ref 34), some (.int x1), none, none] [] 94 (I, J, xrf) Q := by
  unfold f_J7_fill_53178_34_0 at h
  refine Rn.go 5 (j' := 307) (pc' := 5) (ls' := [some (.ref 34), some (.int x1), some (.int 0), some (.int 15)]) (st' := []) (n' := 94) (M' := (I, J, xrf)) (fun f => rfl) ?_
  exact p_J7_fill_53178_34_1 x1 0 15 I J h hC
theorem p_J7_fill_53178_34 {L : Nat} {xs : Nat → Int32} {d : Nat} {Q : xO → Prop} (x1 : Int32) (I : xI) (J : xJ) {t : Unit × xI × xJ} (h : f_J7_fill_53178_34 x1 I J = some t) (hC : Q (none, 94, (t.2.1, t.2.2, xrf))) : Rn L xs (d + 1) 307 0 [some (.ref 34), some (.int x1), none, none] [] 94 (I, J, xrf) Q := p_J7_fill_53178_34_0 x1 I J h hC
/-! X11_pairOf -/
def c_X11_pairOf (Q : xO → Prop) (t : Int32 × xI × xJ) : Prop := Q ((some (.int t.1)), 94, (t.2.1, t.2.2, xrf))
def f_X11_pairOf_4 (x0 : Int32) (x1 : Int32) (x2 : Int32) (s0 : Int32) (I : xI) (J : xJ) : Option (Int32 × xI × xJ) := some (s0, I, J)
def f_X11_pairOf_3 (x0 : Int32) (x1 : Int32) (x2 : Int32) (I : xI) (J : xJ) : Option (Int32 × xI × xJ) := f_X11_pairOf_4 x0 x1 x2 0 I J
def f_X11_pairOf_2 (x0 : Int32) (x1 : Int32) (x2 : Int32) (I : xI) (J : xJ) : Option (Int32 × xI × xJ) := if x2 < 0 ∨ 36 ≤ x2.toNatClampNeg then none else f_X11_pairOf_4 x0 x1 x2 ((zst1000 x2.toNatClampNeg)) I J
def f_X11_pairOf_1 (x0 : Int32) (x1 : Int32) (x2 : Int32) (I : xI) (J : xJ) : Option (Int32 × xI × xJ) := if 36 ≤ x2 then f_X11_pairOf_3 x0 x1 x2 I J else f_X11_pairOf_2 x0 x1 x2 I J
def f_X11_pairOf_0 (x0 : Int32) (x1 : Int32) (I : xI) (J : xJ) : Option (Int32 × xI × xJ) := if ((x0 * 6) + x1) < 0 then f_X11_pairOf_3 x0 x1 (((x0 * 6) + x1)) I J else f_X11_pairOf_1 x0 x1 (((x0 * 6) + x1)) I J
def f_X11_pairOf (x0 : Int32) (x1 : Int32) (I : xI) (J : xJ) : Option (Int32 × xI × xJ) := f_X11_pairOf_0 x0 x1 I J
theorem p_X11_pairOf_4 {L : Nat} {xs : Nat → Int32} {d : Nat} {Q : xO → Prop} (x0 : Int32) (x1 : Int32) (x2 : Int32) (s0 : Int32) (I : xI) (J : xJ) {t : Int32 × xI × xJ} (h : f_X11_pairOf_4 x0 x1 x2 s0 I J = some t) (hC : (c_X11_pairOf Q) t) : Rn L xs (d + 1) 181 28 [some (.int x0), some (.int x1), some (.int x2)] [.int s0] 94 (I, J, xrf) Q := by
  unfold f_X11_pairOf_4 at h
  cases h
  exact Rn.ret 1 (o := ((some (.int s0)), 94, (I, J, xrf))) (fun f => rfl) hC
theorem p_X11_pairOf_3 {L : Nat} {xs : Nat → Int32} {d : Nat} {Q : xO → Prop} (x0 : Int32) (x1 : Int32) (x2 : Int32) (I : xI) (J : xJ) {t : Int32 × xI × xJ} (h : f_X11_pairOf_3 x0 x1 x2 I J = some t) (hC : (c_X11_pairOf Q) t) : Rn L xs (d + 1) 181 27 [some (.int x0), some (.int x1), some (.int x2)] [] 94 (I, J, xrf) Q := by
  unfold f_X11_pairOf_3 at h
  refine Rn.go 1 (j' := 181) (pc' := 28) (ls' := [some (.int x0), some (.int x1), some (.int x2)]) (st' := [.int 0]) (n' := 94) (M' := (I, J, xrf)) (fun f => rfl) ?_
  exact p_X11_pairOf_4 x0 x1 x2 0 I J h hC
theorem p_X11_pairOf_2 {L : Nat} {xs : Nat → Int32} {d : Nat} {Q : xO → Prop} (x0 : Int32) (x1 : Int32) (x2 : Int32) (I : xI) (J : xJ) {t : Int32 × xI × xJ} (h : f_X11_pairOf_2 x0 x1 x2 I J = some t) (hC : (c_X11_pairOf Q) t) : Rn L xs (d + 1) 181 19 [some (.int x0), some (.int x1), some (.int x2)] [] 94 (I, J, xrf) Q := by
  unfold f_X11_pairOf_2 at h
  obtain ⟨hc, h⟩ := xif h
  refine Rn.ok 3 (c := x2 < 0 ∨ 36 ≤ x2.toNatClampNeg) (p1 := 24) (l1 := [some (.int x0), some (.int x1), some (.int x2)]) (s1 := [.int ((zst1000 x2.toNatClampNeg))]) (n1 := 94) (M1 := (I, J, xrf)) (fun f => rfl) hc ?_
  refine Rn.go 1 (j' := 181) (pc' := 28) (ls' := [some (.int x0), some (.int x1), some (.int x2)]) (st' := [.int ((zst1000 x2.toNatClampNeg))]) (n' := 94) (M' := (I, J, xrf)) (fun f => rfl) ?_
  exact p_X11_pairOf_4 x0 x1 x2 ((zst1000 x2.toNatClampNeg)) I J h hC
theorem p_X11_pairOf_1 {L : Nat} {xs : Nat → Int32} {d : Nat} {Q : xO → Prop} (x0 : Int32) (x1 : Int32) (x2 : Int32) (I : xI) (J : xJ) {t : Int32 × xI × xJ} (h : f_X11_pairOf_1 x0 x1 x2 I J = some t) (hC : (c_X11_pairOf Q) t) : Rn L xs (d + 1) 181 11 [some (.int x0), some (.int x1), some (.int x2)] [] 94 (I, J, xrf) Q := by
  unfold f_X11_pairOf_1 at h
  refine Rn.fi 4 (c := 36 ≤ x2) (p1 := 27) (l1 := [some (.int x0), some (.int x1), some (.int x2)]) (s1 := []) (n1 := 94) (M1 := (I, J, xrf)) (p2 := 19) (l2 := [some (.int x0), some (.int x1), some (.int x2)]) (s2 := []) (n2 := 94) (M2 := (I, J, xrf)) (fun f => rfl) (fun hc => ?_) (fun hc => ?_)
  · rw [if_pos hc] at h
    exact p_X11_pairOf_3 x0 x1 x2 I J h hC
  · rw [if_neg hc] at h
    exact p_X11_pairOf_2 x0 x1 x2 I J h hC
theorem p_X11_pairOf_0 {L : Nat} {xs : Nat → Int32} {d : Nat} {Q : xO → Prop} (x0 : Int32) (x1 : Int32) (I : xI) (J : xJ) {t : Int32 × xI × xJ} (h : f_X11_pairOf_0 x0 x1 I J = some t) (hC : (c_X11_pairOf Q) t) : Rn L xs (d + 1) 181 0 [some (.int x0), some (.int x1), none] [] 94 (I, J, xrf) Q := by
  unfold f_X11_pairOf_0 at h
  refine Rn.fi 8 (c := ((x0 * 6) + x1) < 0) (p1 := 27) (l1 := [some (.int x0), some (.int x1), some (.int (((x0 * 6) + x1)))]) (s1 := []) (n1 := 94) (M1 := (I, J, xrf)) (p2 := 11) (l2 := [some (.int x0), some (.int x1), some (.int (((x0 * 6) + x1)))]) (s2 := []) (n2 := 94) (M2 := (I, J, xrf)) (fun f => rfl) (fun hc => ?_) (fun hc => ?_)
  · rw [if_pos hc] at h
    exact p_X11_pairOf_3 x0 x1 (((x0 * 6) + x1)) I J h hC
  · rw [if_neg hc] at h
    exact p_X11_pairOf_1 x0 x1 (((x0 * 6) + x1)) I J h hC
theorem p_X11_pairOf {L : Nat} {xs : Nat → Int32} {d : Nat} {Q : xO → Prop} (x0 : Int32) (x1 : Int32) (I : xI) (J : xJ) {t : Int32 × xI × xJ} (h : f_X11_pairOf x0 x1 I J = some t) (hC : Q ((some (.int t.1)), 94, (t.2.1, t.2.2, xrf))) : Rn L xs (d + 1) 181 0 [some (.int x0), some (.int x1), none] [] 94 (I, J, xrf) Q := p_X11_pairOf_0 x0 x1 I J h hC
/-! J6_numberOfTrailingZeros_0f7a4 -/
def c_J6_numberOfTrailingZeros_0f7a4 (Q : xO → Prop) (t : Int32 × xI × xJ) : Prop := Q ((some (.int t.1)), 94, (t.2.1, t.2.2, xrf))
def f_J6_numberOfTrailingZeros_0f7a4_10 (x0 : Int32) (x1 : Int32) (I : xI) (J : xJ) : Option (Int32 × xI × xJ) := some ((x1 + (Int32.toUInt32 x0 >>> (Int32.toUInt32 1 &&& Int32.toUInt32 31)).toInt32), I, J)
def f_J6_numberOfTrailingZeros_0f7a4_9 (x0 : Int32) (x1 : Int32) (I : xI) (J : xJ) : Option (Int32 × xI × xJ) := f_J6_numberOfTrailingZeros_0f7a4_10 ((Int32.toUInt32 x0 >>> (Int32.toUInt32 2 &&& Int32.toUInt32 31)).toInt32) ((x1 + 2)) I J
def f_J6_numberOfTrailingZeros_0f7a4_8 (x0 : Int32) (x1 : Int32) (I : xI) (J : xJ) : Option (Int32 × xI × xJ) := if x0 ≤ 4 then f_J6_numberOfTrailingZeros_0f7a4_10 x0 x1 I J else f_J6_numberOfTrailingZeros_0f7a4_9 x0 x1 I J
def f_J6_numberOfTrailingZeros_0f7a4_7 (x0 : Int32) (x1 : Int32) (I : xI) (J : xJ) : Option (Int32 × xI × xJ) := f_J6_numberOfTrailingZeros_0f7a4_8 ((Int32.toUInt32 x0 >>> (Int32.toUInt32 4 &&& Int32.toUInt32 31)).toInt32) ((x1 + 4)) I J
def f_J6_numberOfTrailingZeros_0f7a4_6 (x0 : Int32) (x1 : Int32) (I : xI) (J : xJ) : Option (Int32 × xI × xJ) := if x0 ≤ 16 then f_J6_numberOfTrailingZeros_0f7a4_8 x0 x1 I J else f_J6_numberOfTrailingZeros_0f7a4_7 x0 x1 I J
def f_J6_numberOfTrailingZeros_0f7a4_5 (x0 : Int32) (x1 : Int32) (I : xI) (J : xJ) : Option (Int32 × xI × xJ) := f_J6_numberOfTrailingZeros_0f7a4_6 ((Int32.toUInt32 x0 >>> (Int32.toUInt32 8 &&& Int32.toUInt32 31)).toInt32) ((x1 + 8)) I J
def f_J6_numberOfTrailingZeros_0f7a4_4 (x0 : Int32) (x1 : Int32) (I : xI) (J : xJ) : Option (Int32 × xI × xJ) := if x0 ≤ 256 then f_J6_numberOfTrailingZeros_0f7a4_6 x0 x1 I J else f_J6_numberOfTrailingZeros_0f7a4_5 x0 x1 I J
def f_J6_numberOfTrailingZeros_0f7a4_3 (x0 : Int32) (x1 : Int32) (I : xI) (J : xJ) : Option (Int32 × xI × xJ) := f_J6_numberOfTrailingZeros_0f7a4_4 ((Int32.toUInt32 x0 >>> (Int32.toUInt32 16 &&& Int32.toUInt32 31)).toInt32) ((x1 + 16)) I J
def f_J6_numberOfTrailingZeros_0f7a4_2 (x0 : Int32) (I : xI) (J : xJ) : Option (Int32 × xI × xJ) := if x0 ≤ 65536 then f_J6_numberOfTrailingZeros_0f7a4_4 x0 1 I J else f_J6_numberOfTrailingZeros_0f7a4_3 x0 1 I J
def f_J6_numberOfTrailingZeros_0f7a4_1 (x0 : Int32) (I : xI) (J : xJ) : Option (Int32 × xI × xJ) := some ((x0 &&& 32), I, J)
def f_J6_numberOfTrailingZeros_0f7a4_0 (x0 : Int32) (I : xI) (J : xJ) : Option (Int32 × xI × xJ) := if 0 < ((x0 ^^^ (-1)) &&& (x0 - 1)) then f_J6_numberOfTrailingZeros_0f7a4_2 (((x0 ^^^ (-1)) &&& (x0 - 1))) I J else f_J6_numberOfTrailingZeros_0f7a4_1 (((x0 ^^^ (-1)) &&& (x0 - 1))) I J
def f_J6_numberOfTrailingZeros_0f7a4 (x0 : Int32) (I : xI) (J : xJ) : Option (Int32 × xI × xJ) := f_J6_numberOfTrailingZeros_0f7a4_0 x0 I J
theorem p_J6_numberOfTrailingZeros_0f7a4_10 {L : Nat} {xs : Nat → Int32} {d : Nat} {Q : xO → Prop} (x0 : Int32) (x1 : Int32) (I : xI) (J : xJ) {t : Int32 × xI × xJ} (h : f_J6_numberOfTrailingZeros_0f7a4_10 x0 x1 I J = some t) (hC : (c_J6_numberOfTrailingZeros_0f7a4 Q) t) : Rn L xs (d + 1) 298 74 [some (.int x0), some (.int x1)] [] 94 (I, J, xrf) Q := by
  unfold f_J6_numberOfTrailingZeros_0f7a4_10 at h
  cases h
  exact Rn.ret 6 (o := ((some (.int ((x1 + (Int32.toUInt32 x0 >>> (Int32.toUInt32 1 &&& Int32.toUInt32 31)).toInt32)))), 94, (I, J, xrf))) (fun f => rfl) hC
theorem p_J6_numberOfTrailingZeros_0f7a4_9 {L : Nat} {xs : Nat → Int32} {d : Nat} {Q : xO → Prop} (x0 : Int32) (x1 : Int32) (I : xI) (J : xJ) {t : Int32 × xI × xJ} (h : f_J6_numberOfTrailingZeros_0f7a4_9 x0 x1 I J = some t) (hC : (c_J6_numberOfTrailingZeros_0f7a4 Q) t) : Rn L xs (d + 1) 298 67 [some (.int x0), some (.int x1)] [] 94 (I, J, xrf) Q := by
  unfold f_J6_numberOfTrailingZeros_0f7a4_9 at h
  refine Rn.go 5 (j' := 298) (pc' := 74) (ls' := [some (.int ((Int32.toUInt32 x0 >>> (Int32.toUInt32 2 &&& Int32.toUInt32 31)).toInt32)), some (.int ((x1 + 2)))]) (st' := []) (n' := 94) (M' := (I, J, xrf)) (fun f => rfl) ?_
  exact p_J6_numberOfTrailingZeros_0f7a4_10 ((Int32.toUInt32 x0 >>> (Int32.toUInt32 2 &&& Int32.toUInt32 31)).toInt32) ((x1 + 2)) I J h hC
theorem p_J6_numberOfTrailingZeros_0f7a4_8 {L : Nat} {xs : Nat → Int32} {d : Nat} {Q : xO → Prop} (x0 : Int32) (x1 : Int32) (I : xI) (J : xJ) {t : Int32 × xI × xJ} (h : f_J6_numberOfTrailingZeros_0f7a4_8 x0 x1 I J = some t) (hC : (c_J6_numberOfTrailingZeros_0f7a4 Q) t) : Rn L xs (d + 1) 298 62 [some (.int x0), some (.int x1)] [] 94 (I, J, xrf) Q := by
  unfold f_J6_numberOfTrailingZeros_0f7a4_8 at h
  refine Rn.fi 3 (c := x0 ≤ 4) (p1 := 74) (l1 := [some (.int x0), some (.int x1)]) (s1 := []) (n1 := 94) (M1 := (I, J, xrf)) (p2 := 67) (l2 := [some (.int x0), some (.int x1)]) (s2 := []) (n2 := 94) (M2 := (I, J, xrf)) (fun f => rfl) (fun hc => ?_) (fun hc => ?_)
  · rw [if_pos hc] at h
    exact p_J6_numberOfTrailingZeros_0f7a4_10 x0 x1 I J h hC
  · rw [if_neg hc] at h
    exact p_J6_numberOfTrailingZeros_0f7a4_9 x0 x1 I J h hC
theorem p_J6_numberOfTrailingZeros_0f7a4_7 {L : Nat} {xs : Nat → Int32} {d : Nat} {Q : xO → Prop} (x0 : Int32) (x1 : Int32) (I : xI) (J : xJ) {t : Int32 × xI × xJ} (h : f_J6_numberOfTrailingZeros_0f7a4_7 x0 x1 I J = some t) (hC : (c_J6_numberOfTrailingZeros_0f7a4 Q) t) : Rn L xs (d + 1) 298 55 [some (.int x0), some (.int x1)] [] 94 (I, J, xrf) Q := by
  unfold f_J6_numberOfTrailingZeros_0f7a4_7 at h
  refine Rn.go 5 (j' := 298) (pc' := 62) (ls' := [some (.int ((Int32.toUInt32 x0 >>> (Int32.toUInt32 4 &&& Int32.toUInt32 31)).toInt32)), some (.int ((x1 + 4)))]) (st' := []) (n' := 94) (M' := (I, J, xrf)) (fun f => rfl) ?_
  exact p_J6_numberOfTrailingZeros_0f7a4_8 ((Int32.toUInt32 x0 >>> (Int32.toUInt32 4 &&& Int32.toUInt32 31)).toInt32) ((x1 + 4)) I J h hC
theorem p_J6_numberOfTrailingZeros_0f7a4_6 {L : Nat} {xs : Nat → Int32} {d : Nat} {Q : xO → Prop} (x0 : Int32) (x1 : Int32) (I : xI) (J : xJ) {t : Int32 × xI × xJ} (h : f_J6_numberOfTrailingZeros_0f7a4_6 x0 x1 I J = some t) (hC : (c_J6_numberOfTrailingZeros_0f7a4 Q) t) : Rn L xs (d + 1) 298 49 [some (.int x0), some (.int x1)] [] 94 (I, J, xrf) Q := by
  unfold f_J6_numberOfTrailingZeros_0f7a4_6 at h
  refine Rn.fi 3 (c := x0 ≤ 16) (p1 := 62) (l1 := [some (.int x0), some (.int x1)]) (s1 := []) (n1 := 94) (M1 := (I, J, xrf)) (p2 := 55) (l2 := [some (.int x0), some (.int x1)]) (s2 := []) (n2 := 94) (M2 := (I, J, xrf)) (fun f => rfl) (fun hc => ?_) (fun hc => ?_)
  · rw [if_pos hc] at h
    exact p_J6_numberOfTrailingZeros_0f7a4_8 x0 x1 I J h hC
  · rw [if_neg hc] at h
    exact p_J6_numberOfTrailingZeros_0f7a4_7 x0 x1 I J h hC
theorem p_J6_numberOfTrailingZeros_0f7a4_5 {L : Nat} {xs : Nat → Int32} {d : Nat} {Q : xO → Prop} (x0 : Int32) (x1 : Int32) (I : xI) (J : xJ) {t : Int32 × xI × xJ} (h : f_J6_numberOfTrailingZeros_0f7a4_5 x0 x1 I J = some t) (hC : (c_J6_numberOfTrailingZeros_0f7a4 Q) t) : Rn L xs (d + 1) 298 41 [some (.int x0), some (.int x1)] [] 94 (I, J, xrf) Q := by
  unfold f_J6_numberOfTrailingZeros_0f7a4_5 at h
  refine Rn.go 5 (j' := 298) (pc' := 49) (ls' := [some (.int ((Int32.toUInt32 x0 >>> (Int32.toUInt32 8 &&& Int32.toUInt32 31)).toInt32)), some (.int ((x1 + 8)))]) (st' := []) (n' := 94) (M' := (I, J, xrf)) (fun f => rfl) ?_
  exact p_J6_numberOfTrailingZeros_0f7a4_6 ((Int32.toUInt32 x0 >>> (Int32.toUInt32 8 &&& Int32.toUInt32 31)).toInt32) ((x1 + 8)) I J h hC
theorem p_J6_numberOfTrailingZeros_0f7a4_4 {L : Nat} {xs : Nat → Int32} {d : Nat} {Q : xO → Prop} (x0 : Int32) (x1 : Int32) (I : xI) (J : xJ) {t : Int32 × xI × xJ} (h : f_J6_numberOfTrailingZeros_0f7a4_4 x0 x1 I J = some t) (hC : (c_J6_numberOfTrailingZeros_0f7a4 Q) t) : Rn L xs (d + 1) 298 34 [some (.int x0), some (.int x1)] [] 94 (I, J, xrf) Q := by
  unfold f_J6_numberOfTrailingZeros_0f7a4_4 at h
  refine Rn.fi 3 (c := x0 ≤ 256) (p1 := 49) (l1 := [some (.int x0), some (.int x1)]) (s1 := []) (n1 := 94) (M1 := (I, J, xrf)) (p2 := 41) (l2 := [some (.int x0), some (.int x1)]) (s2 := []) (n2 := 94) (M2 := (I, J, xrf)) (fun f => rfl) (fun hc => ?_) (fun hc => ?_)
  · rw [if_pos hc] at h
    exact p_J6_numberOfTrailingZeros_0f7a4_6 x0 x1 I J h hC
  · rw [if_neg hc] at h
    exact p_J6_numberOfTrailingZeros_0f7a4_5 x0 x1 I J h hC
theorem p_J6_numberOfTrailingZeros_0f7a4_3 {L : Nat} {xs : Nat → Int32} {d : Nat} {Q : xO → Prop} (x0 : Int32) (x1 : Int32) (I : xI) (J : xJ) {t : Int32 × xI × xJ} (h : f_J6_numberOfTrailingZeros_0f7a4_3 x0 x1 I J = some t) (hC : (c_J6_numberOfTrailingZeros_0f7a4 Q) t) : Rn L xs (d + 1) 298 26 [some (.int x0), some (.int x1)] [] 94 (I, J, xrf) Q := by
  unfold f_J6_numberOfTrailingZeros_0f7a4_3 at h
  refine Rn.go 5 (j' := 298) (pc' := 34) (ls' := [some (.int ((Int32.toUInt32 x0 >>> (Int32.toUInt32 16 &&& Int32.toUInt32 31)).toInt32)), some (.int ((x1 + 16)))]) (st' := []) (n' := 94) (M' := (I, J, xrf)) (fun f => rfl) ?_
  exact p_J6_numberOfTrailingZeros_0f7a4_4 ((Int32.toUInt32 x0 >>> (Int32.toUInt32 16 &&& Int32.toUInt32 31)).toInt32) ((x1 + 16)) I J h hC
theorem p_J6_numberOfTrailingZeros_0f7a4_2 {L : Nat} {xs : Nat → Int32} {d : Nat} {Q : xO → Prop} (x0 : Int32) (I : xI) (J : xJ) {t : Int32 × xI × xJ} (h : f_J6_numberOfTrailingZeros_0f7a4_2 x0 I J = some t) (hC : (c_J6_numberOfTrailingZeros_0f7a4 Q) t) : Rn L xs (d + 1) 298 17 [some (.int x0), none] [] 94 (I, J, xrf) Q := by
  unfold f_J6_numberOfTrailingZeros_0f7a4_2 at h
  refine Rn.fi 5 (c := x0 ≤ 65536) (p1 := 34) (l1 := [some (.int x0), some (.int 1)]) (s1 := []) (n1 := 94) (M1 := (I, J, xrf)) (p2 := 26) (l2 := [some (.int x0), some (.int 1)]) (s2 := []) (n2 := 94) (M2 := (I, J, xrf)) (fun f => rfl) (fun hc => ?_) (fun hc => ?_)
  · rw [if_pos hc] at h
    exact p_J6_numberOfTrailingZeros_0f7a4_4 x0 1 I J h hC
  · rw [if_neg hc] at h
    exact p_J6_numberOfTrailingZeros_0f7a4_3 x0 1 I J h hC
theorem p_J6_numberOfTrailingZeros_0f7a4_1 {L : Nat} {xs : Nat → Int32} {d : Nat} {Q : xO → Prop} (x0 : Int32) (I : xI) (J : xJ) {t : Int32 × xI × xJ} (h : f_J6_numberOfTrailingZeros_0f7a4_1 x0 I J = some t) (hC : (c_J6_numberOfTrailingZeros_0f7a4 Q) t) : Rn L xs (d + 1) 298 12 [some (.int x0), none] [] 94 (I, J, xrf) Q := by
  unfold f_J6_numberOfTrailingZeros_0f7a4_1 at h
  cases h
  exact Rn.ret 4 (o := ((some (.int ((x0 &&& 32)))), 94, (I, J, xrf))) (fun f => rfl) hC
theorem p_J6_numberOfTrailingZeros_0f7a4_0 {L : Nat} {xs : Nat → Int32} {d : Nat} {Q : xO → Prop} (x0 : Int32) (I : xI) (J : xJ) {t : Int32 × xI × xJ} (h : f_J6_numberOfTrailingZeros_0f7a4_0 x0 I J = some t) (hC : (c_J6_numberOfTrailingZeros_0f7a4 Q) t) : Rn L xs (d + 1) 298 0 [some (.int x0), none] [] 94 (I, J, xrf) Q := by
  unfold f_J6_numberOfTrailingZeros_0f7a4_0 at h
  refine Rn.fi 10 (c := 0 < ((x0 ^^^ (-1)) &&& (x0 - 1))) (p1 := 17) (l1 := [some (.int (((x0 ^^^ (-1)) &&& (x0 - 1)))), none]) (s1 := []) (n1 := 94) (M1 := (I, J, xrf)) (p2 := 12) (l2 := [some (.int (((x0 ^^^ (-1)) &&& (x0 - 1)))), none]) (s2 := []) (n2 := 94) (M2 := (I, J, xrf)) (fun f => rfl) (fun hc => ?_) (fun hc => ?_)
  · rw [if_pos hc] at h
    exact p_J6_numberOfTrailingZeros_0f7a4_2 (((x0 ^^^ (-1)) &&& (x0 - 1))) I J h hC
  · rw [if_neg hc] at h
    exact p_J6_numberOfTrailingZeros_0f7a4_1 (((x0 ^^^ (-1)) &&& (x0 - 1))) I J h hC
theorem p_J6_numberOfTrailingZeros_0f7a4 {L : Nat} {xs : Nat → Int32} {d : Nat} {Q : xO → Prop} (x0 : Int32) (I : xI) (J : xJ) {t : Int32 × xI × xJ} (h : f_J6_numberOfTrailingZeros_0f7a4 x0 I J = some t) (hC : Q ((some (.int t.1)), 94, (t.2.1, t.2.2, xrf))) : Rn L xs (d + 1) 298 0 [some (.int x0), none] [] 94 (I, J, xrf) Q := p_J6_numberOfTrailingZeros_0f7a4_0 x0 I J h hC
/-! X6_stepOf -/
def c_X6_stepOf (Q : xO → Prop) (t : Int32 × xI × xJ) : Prop := Q ((some (.int t.1)), 94, (t.2.1, t.2.2, xrf))
def f_X6_stepOf_6 (x1 : Int32) (x2 : Int32) (x3 : Int32) (x4 : Int32) (x5 : Int32) (s0 : Int32) (I : xI) (J : xJ) : Option (Int32 × xI × xJ) := some (s0, I, J)
def f_X6_stepOf_4 (x1 : Int32) (x2 : Int32) (x3 : Int32) (x4 : Int32) (x5 : Int32) (I : xI) (J : xJ) : Option (Int32 × xI × xJ) := f_X6_stepOf_6 x1 x2 x3 x4 x5 0 I J
def f_X6_stepOf_5 (x1 : Int32) (x2 : Int32) (x3 : Int32) (x4 : Int32) (x5 : Int32) (I : xI) (J : xJ) : Option (Int32 × xI × xJ) := (f_X11_pairOf x4 x5 I J).bind fun o => f_X6_stepOf_6 x1 x2 x3 x4 x5 o.1 o.2.1 o.2.2
def f_X6_stepOf_3 (x1 : Int32) (x2 : Int32) (x3 : Int32) (x4 : Int32) (x5 : Int32) (I : xI) (J : xJ) : Option (Int32 × xI × xJ) := if 0 ≤ x5 then f_X6_stepOf_5 x1 x2 x3 x4 x5 I J else f_X6_stepOf_4 x1 x2 x3 x4 x5 I J
def f_X6_stepOf_2 (x1 : Int32) (x2 : Int32) (x3 : Int32) (x4 : Int32) (s0 : Int32) (I : xI) (J : xJ) : Option (Int32 × xI × xJ) := if x4 < 0 then f_X6_stepOf_4 x1 x2 x3 x4 s0 I J else f_X6_stepOf_3 x1 x2 x3 x4 s0 I J
def f_X6_stepOf_1 (x1 : Int32) (x2 : Int32) (x3 : Int32) (s0 : Int32) (I : xI) (J : xJ) : Option (Int32 × xI × xJ) := (f_X5_targetOf x2 x3 I J).bind fun o => f_X6_stepOf_2 x1 x2 x3 s0 o.1 o.2.1 o.2.2
def f_X6_stepOf_0 (x1 : Int32) (x2 : Int32) (x3 : Int32) (I : xI) (J : xJ) : Option (Int32 × xI × xJ) := (f_X5_targetOf x1 x3 I J).bind fun o => f_X6_stepOf_1 x1 x2 x3 o.1 o.2.1 o.2.2
def f_X6_stepOf (x1 : Int32) (x2 : Int32) (x3 : Int32) (I : xI) (J : xJ) : Option (Int32 × xI × xJ) := f_X6_stepOf_0 x1 x2 x3 I J
theorem p_X6_stepOf_6 {L : Nat} {xs : Nat → Int32} {d : Nat} {Q : xO → Prop} (x1 : Int32) (x2 : Int32) (x3 : Int32) (x4 : Int32) (x5 : Int32) (s0 : Int32) (I : xI) (J : xJ) {t : Int32 × xI × xJ} (h : f_X6_stepOf_6 x1 x2 x3 x4 x5 s0 I J = some t) (hC : (c_X6_stepOf Q) t) : Rn L xs (d + 2) 72 43 [some (.ref 32), some (.int x1), some (.int x2), some (.int x3), some (.int x4), some (.int x5)] [.int s0] 94 (I, J, xrf) Q := by
  unfold f_X6_stepOf_6 at h
  cases h
  exact Rn.ret 1 (o := ((some (.int s0)), 94, (I, J, xrf))) (fun f => rfl) hC
theorem p_X6_stepOf_4 {L : Nat} {xs : Nat → Int32} {d : Nat} {Q : xO → Prop} (x1 : Int32) (x2 : Int32) (x3 : Int32) (x4 : Int32) (x5 : Int32) (I : xI) (J : xJ) {t : Int32 × xI × xJ} (h : f_X6_stepOf_4 x1 x2 x3 x4 x5 I J = some t) (hC : (c_X6_stepOf Q) t) : Rn L xs (d + 2) 72 32 [some (.ref 32), some (.int x1), some (.int x2), some (.int x3), some (.int x4), some (.int x5)] [] 94 (I, J, xrf) Q := by
  unfold f_X6_stepOf_4 at h
  refine Rn.go 2 (j' := 72) (pc' := 43) (ls' := [some (.ref 32), some (.int x1), some (.int x2), some (.int x3), some (.int x4), some (.int x5)]) (st' := [.int 0]) (n' := 94) (M' := (I, J, xrf)) (fun f => rfl) ?_
  exact p_X6_stepOf_6 x1 x2 x3 x4 x5 0 I J h hC
theorem p_X6_stepOf_5 {L : Nat} {xs : Nat → Int32} {d : Nat} {Q : xO → Prop} (x1 : Int32) (x2 : Int32) (x3 : Int32) (x4 : Int32) (x5 : Int32) (I : xI) (J : xJ) {t : Int32 × xI × xJ} (h : f_X6_stepOf_5 x1 x2 x3 x4 x5 I J = some t) (hC : (c_X6_stepOf Q) t) : Rn L xs (d + 2) 72 36 [some (.ref 32), some (.int x1), some (.int x2), some (.int x3), some (.int x4), some (.int x5)] [] 94 (I, J, xrf) Q := by
  unfold f_X6_stepOf_5 at h
  refine Rn.go 2 (j' := 72) (pc' := 40) (ls' := [some (.ref 32), some (.int x1), some (.int x2), some (.int x3), some (.int x4), some (.int x5)]) (st' := [.int x5, .int x4]) (n' := 94) (M' := (I, J, xrf)) (fun f => rfl) ?_
  obtain ⟨o, ho, h⟩ := Option.bind_eq_some_iff.mp h
  refine Rn.call (d1 := d + 1) (j1 := 181) (ls1 := [some (.int x4), some (.int x5), none]) (rest := []) (fun f => rfl) ?_
  refine p_X11_pairOf (d := d + 0) x4 x5 I J (t := o) ho ?_
  exact p_X6_stepOf_6 x1 x2 x3 x4 x5 o.1 o.2.1 o.2.2 h hC
theorem p_X6_stepOf_3 {L : Nat} {xs : Nat → Int32} {d : Nat} {Q : xO → Prop} (x1 : Int32) (x2 : Int32) (x3 : Int32) (x4 : Int32) (x5 : Int32) (I : xI) (J : xJ) {t : Int32 × xI × xJ} (h : f_X6_stepOf_3 x1 x2 x3 x4 x5 I J = some t) (hC : (c_X6_stepOf Q) t) : Rn L xs (d + 2) 72 27 [some (.ref 32), some (.int x1), some (.int x2), some (.int x3), some (.int x4), some (.int x5)] [] 94 (I, J, xrf) Q := by
  unfold f_X6_stepOf_3 at h
  refine Rn.fi 2 (c := 0 ≤ x5) (p1 := 36) (l1 := [some (.ref 32), some (.int x1), some (.int x2), some (.int x3), some (.int x4), some (.int x5)]) (s1 := []) (n1 := 94) (M1 := (I, J, xrf)) (p2 := 32) (l2 := [some (.ref 32), some (.int x1), some (.int x2), some (.int x3), some (.int x4), some (.int x5)]) (s2 := []) (n2 := 94) (M2 := (I, J, xrf)) (fun f => rfl) (fun hc => ?_) (fun hc => ?_)
  · rw [if_pos hc] at h
    exact p_X6_stepOf_5 x1 x2 x3 x4 x5 I J h hC
  · rw [if_neg hc] at h
    exact p_X6_stepOf_4 x1 x2 x3 x4 x5 I J h hC
theorem p_X6_stepOf_2 {L : Nat} {xs : Nat → Int32} {d : Nat} {Q : xO → Prop} (x1 : Int32) (x2 : Int32) (x3 : Int32) (x4 : Int32) (s0 : Int32) (I : xI) (J : xJ) {t : Int32 × xI × xJ} (h : f_X6_stepOf_2 x1 x2 x3 x4 s0 I J = some t) (hC : (c_X6_stepOf Q) t) : Rn L xs (d + 2) 72 20 [some (.ref 32), some (.int x1), some (.int x2), some (.int x3), some (.int x4), none] [.int s0] 94 (I, J, xrf) Q := by
  unfold f_X6_stepOf_2 at h
  refine Rn.fi 3 (c := x4 < 0) (p1 := 32) (l1 := [some (.ref 32), some (.int x1), some (.int x2), some (.int x3), some (.int x4), some (.int s0)]) (s1 := []) (n1 := 94) (M1 := (I, J, xrf)) (p2 := 27) (l2 := [some (.ref 32), some (.int x1), some (.int x2), some (.int x3), some (.int x4), some (.int s0)]) (s2 := []) (n2 := 94) (M2 := (I, J, xrf)) (fun f => rfl) (fun hc => ?_) (fun hc => ?_)
  · rw [if_pos hc] at h
    exact p_X6_stepOf_4 x1 x2 x3 x4 s0 I J h hC
  · rw [if_neg hc] at h
    exact p_X6_stepOf_3 x1 x2 x3 x4 s0 I J h hC
theorem p_X6_stepOf_1 {L : Nat} {xs : Nat → Int32} {d : Nat} {Q : xO → Prop} (x1 : Int32) (x2 : Int32) (x3 : Int32) (s0 : Int32) (I : xI) (J : xJ) {t : Int32 × xI × xJ} (h : f_X6_stepOf_1 x1 x2 x3 s0 I J = some t) (hC : (c_X6_stepOf Q) t) : Rn L xs (d + 2) 72 9 [some (.ref 32), some (.int x1), some (.int x2), some (.int x3), none, none] [.int s0] 94 (I, J, xrf) Q := by
  unfold f_X6_stepOf_1 at h
  refine Rn.go 5 (j' := 72) (pc' := 17) (ls' := [some (.ref 32), some (.int x1), some (.int x2), some (.int x3), some (.int s0), none]) (st' := [.int x3, .int x2, .ref 1]) (n' := 94) (M' := (I, J, xrf)) (fun f => rfl) ?_
  obtain ⟨o, ho, h⟩ := Option.bind_eq_some_iff.mp h
  refine Rn.call (d1 := d + 1) (j1 := 57) (ls1 := [some (.ref 1), some (.int x2), some (.int x3)]) (rest := []) (fun f => rfl) ?_
  refine p_X5_targetOf (d := d + 0) x2 x3 I J (t := o) ho ?_
  exact p_X6_stepOf_2 x1 x2 x3 s0 o.1 o.2.1 o.2.2 h hC
theorem p_X6_stepOf_0 {L : Nat} {xs : Nat → Int32} {d : Nat} {Q : xO → Prop} (x1 : Int32) (x2 : Int32) (x3 : Int32) (I : xI) (J : xJ) {t : Int32 × xI × xJ} (h : f_X6_stepOf_0 x1 x2 x3 I J = some t) (hC : (c_X6_stepOf Q) t) : Rn L xs (d + 2) 72 0 [some (.ref 32), some (.int x1), some (.int x2), some (.int x3), none, none] [] 94 (I, J, xrf) Q := by
  unfold f_X6_stepOf_0 at h
  refine Rn.go 4 (j' := 72) (pc' := 6) (ls' := [some (.ref 32), some (.int x1), some (.int x2), some (.int x3), none, none]) (st' := [.int x3, .int x1, .ref 1]) (n' := 94) (M' := (I, J, xrf)) (fun f => rfl) ?_
  obtain ⟨o, ho, h⟩ := Option.bind_eq_some_iff.mp h
  refine Rn.call (d1 := d + 1) (j1 := 57) (ls1 := [some (.ref 1), some (.int x1), some (.int x3)]) (rest := []) (fun f => rfl) ?_
  refine p_X5_targetOf (d := d + 0) x1 x3 I J (t := o) ho ?_
  exact p_X6_stepOf_1 x1 x2 x3 o.1 o.2.1 o.2.2 h hC
theorem p_X6_stepOf {L : Nat} {xs : Nat → Int32} {d : Nat} {Q : xO → Prop} (x1 : Int32) (x2 : Int32) (x3 : Int32) (I : xI) (J : xJ) {t : Int32 × xI × xJ} (h : f_X6_stepOf x1 x2 x3 I J = some t) (hC : Q ((some (.int t.1)), 94, (t.2.1, t.2.2, xrf))) : Rn L xs (d + 2) 72 0 [some (.ref 32), some (.int x1), some (.int x2), some (.int x3), none, none] [] 94 (I, J, xrf) Q := p_X6_stepOf_0 x1 x2 x3 I J h hC
/-! X6_isUnlike -/
def c_X6_isUnlike (Q : xO → Prop) (t : Int32 × xI × xJ) : Prop := Q ((some (.int t.1)), 94, (t.2.1, t.2.2, xrf))
def f_X6_isUnlike_7 (x1 : Int32) (x2 : Int32) (x3 : Int32) (x4 : Int32) (x5 : Int32) (s0 : Int32) (I : xI) (J : xJ) : Option (Int32 × xI × xJ) := if s0 = 0 ∨ s0 = 1 then some (s0, I, J) else none
def f_X6_isUnlike_6 (x1 : Int32) (x2 : Int32) (x3 : Int32) (x4 : Int32) (x5 : Int32) (I : xI) (J : xJ) : Option (Int32 × xI × xJ) := f_X6_isUnlike_7 x1 x2 x3 x4 x5 0 I J
def f_X6_isUnlike_5 (x1 : Int32) (x2 : Int32) (x3 : Int32) (x4 : Int32) (x5 : Int32) (I : xI) (J : xJ) : Option (Int32 × xI × xJ) := f_X6_isUnlike_7 x1 x2 x3 x4 x5 1 I J
def f_X6_isUnlike_4 (x1 : Int32) (x2 : Int32) (x3 : Int32) (x4 : Int32) (x5 : Int32) (I : xI) (J : xJ) : Option (Int32 × xI × xJ) := if x4 = x5 then f_X6_isUnlike_6 x1 x2 x3 x4 x5 I J else f_X6_isUnlike_5 x1 x2 x3 x4 x5 I J
def f_X6_isUnlike_3 (x1 : Int32) (x2 : Int32) (x3 : Int32) (x4 : Int32) (x5 : Int32) (I : xI) (J : xJ) : Option (Int32 × xI × xJ) := if x5 < 0 then f_X6_isUnlike_6 x1 x2 x3 x4 x5 I J else f_X6_isUnlike_4 x1 x2 x3 x4 x5 I J
def f_X6_isUnlike_2 (x1 : Int32) (x2 : Int32) (x3 : Int32) (x4 : Int32) (s0 : Int32) (I : xI) (J : xJ) : Option (Int32 × xI × xJ) := if x4 < 0 then f_X6_isUnlike_6 x1 x2 x3 x4 s0 I J else f_X6_isUnlike_3 x1 x2 x3 x4 s0 I J
def f_X6_isUnlike_1 (x1 : Int32) (x2 : Int32) (x3 : Int32) (s0 : Int32) (I : xI) (J : xJ) : Option (Int32 × xI × xJ) := (f_X5_answerOf x2 x3 I J).bind fun o => f_X6_isUnlike_2 x1 x2 x3 s0 o.1 o.2.1 o.2.2
def f_X6_isUnlike_0 (x1 : Int32) (x2 : Int32) (x3 : Int32) (I : xI) (J : xJ) : Option (Int32 × xI × xJ) := (f_X5_answerOf x1 x3 I J).bind fun o => f_X6_isUnlike_1 x1 x2 x3 o.1 o.2.1 o.2.2
def f_X6_isUnlike (x1 : Int32) (x2 : Int32) (x3 : Int32) (I : xI) (J : xJ) : Option (Int32 × xI × xJ) := f_X6_isUnlike_0 x1 x2 x3 I J
theorem p_X6_isUnlike_7 {L : Nat} {xs : Nat → Int32} {d : Nat} {Q : xO → Prop} (x1 : Int32) (x2 : Int32) (x3 : Int32) (x4 : Int32) (x5 : Int32) (s0 : Int32) (I : xI) (J : xJ) {t : Int32 × xI × xJ} (h : f_X6_isUnlike_7 x1 x2 x3 x4 x5 s0 I J = some t) (hC : (c_X6_isUnlike Q) t) : Rn L xs (d + 2) 73 44 [some (.ref 32), some (.int x1), some (.int x2), some (.int x3), some (.int x4), some (.int x5)] [.int s0] 94 (I, J, xrf) Q := by
  unfold f_X6_isUnlike_7 at h
  obtain ⟨hc, h⟩ := xifT h
  cases h
  exact Rn.retT 1 (c := s0 = 0 ∨ s0 = 1) (o := ((some (.int s0)), 94, (I, J, xrf))) (fun f => rfl) hc hC
theorem p_X6_isUnlike_6 {L : Nat} {xs : Nat → Int32} {d : Nat} {Q : xO → Prop} (x1 : Int32) (x2 : Int32) (x3 : Int32) (x4 : Int32) (x5 : Int32) (I : xI) (J : xJ) {t : Int32 × xI × xJ} (h : f_X6_isUnlike_6 x1 x2 x3 x4 x5 I J = some t) (hC : (c_X6_isUnlike Q) t) : Rn L xs (d + 2) 73 43 [some (.ref 32), some (.int x1), some (.int x2), some (.int x3), some (.int x4), some (.int x5)] [] 94 (I, J, xrf) Q := by
  unfold f_X6_isUnlike_6 at h
  refine Rn.go 1 (j' := 73) (pc' := 44) (ls' := [some (.ref 32), some (.int x1), some (.int x2), some (.int x3), some (.int x4), some (.int x5)]) (st' := [.int 0]) (n' := 94) (M' := (I, J, xrf)) (fun f => rfl) ?_
  exact p_X6_isUnlike_7 x1 x2 x3 x4 x5 0 I J h hC
theorem p_X6_isUnlike_5 {L : Nat} {xs : Nat → Int32} {d : Nat} {Q : xO → Prop} (x1 : Int32) (x2 : Int32) (x3 : Int32) (x4 : Int32) (x5 : Int32) (I : xI) (J : xJ) {t : Int32 × xI × xJ} (h : f_X6_isUnlike_5 x1 x2 x3 x4 x5 I J = some t) (hC : (c_X6_isUnlike Q) t) : Rn L xs (d + 2) 73 39 [some (.ref 32), some (.int x1), some (.int x2), some (.int x3), some (.int x4), some (.int x5)] [] 94 (I, J, xrf) Q := by
  unfold f_X6_isUnlike_5 at h
  refine Rn.go 2 (j' := 73) (pc' := 44) (ls' := [some (.ref 32), some (.int x1), some (.int x2), some (.int x3), some (.int x4), some (.int x5)]) (st' := [.int 1]) (n' := 94) (M' := (I, J, xrf)) (fun f => rfl) ?_
  exact p_X6_isUnlike_7 x1 x2 x3 x4 x5 1 I J h hC
theorem p_X6_isUnlike_4 {L : Nat} {xs : Nat → Int32} {d : Nat} {Q : xO → Prop} (x1 : Int32) (x2 : Int32) (x3 : Int32) (x4 : Int32) (x5 : Int32) (I : xI) (J : xJ) {t : Int32 × xI × xJ} (h : f_X6_isUnlike_4 x1 x2 x3 x4 x5 I J = some t) (hC : (c_X6_isUnlike Q) t) : Rn L xs (d + 2) 73 32 [some (.ref 32), some (.int x1), some (.int x2), some (.int x3), some (.int x4), some (.int x5)] [] 94 (I, J, xrf) Q := by
  unfold f_X6_isUnlike_4 at h
  refine Rn.fi 3 (c := x4 = x5) (p1 := 43) (l1 := [some (.ref 32), some (.int x1), some (.int x2), some (.int x3), some (.int x4), some (.int x5)]) (s1 := []) (n1 := 94) (M1 := (I, J, xrf)) (p2 := 39) (l2 := [some (.ref 32), some (.int x1), some (.int x2), some (.int x3), some (.int x4), some (.int x5)]) (s2 := []) (n2 := 94) (M2 := (I, J, xrf)) (fun f => rfl) (fun hc => ?_) (fun hc => ?_)
  · rw [if_pos hc] at h
    exact p_X6_isUnlike_6 x1 x2 x3 x4 x5 I J h hC
  · rw [if_neg hc] at h
    exact p_X6_isUnlike_5 x1 x2 x3 x4 x5 I J h hC
theorem p_X6_isUnlike_3 {L : Nat} {xs : Nat → Int32} {d : Nat} {Q : xO → Prop} (x1 : Int32) (x2 : Int32) (x3 : Int32) (x4 : Int32) (x5 : Int32) (I : xI) (J : xJ) {t : Int32 × xI × xJ} (h : f_X6_isUnlike_3 x1 x2 x3 x4 x5 I J = some t) (hC : (c_X6_isUnlike Q) t) : Rn L xs (d + 2) 73 27 [some (.ref 32), some (.int x1), some (.int x2), some (.int x3), some (.int x4), some (.int x5)] [] 94 (I, J, xrf) Q := by
  unfold f_X6_isUnlike_3 at h
  refine Rn.fi 2 (c := x5 < 0) (p1 := 43) (l1 := [some (.ref 32), some (.int x1), some (.int x2), some (.int x3), some (.int x4), some (.int x5)]) (s1 := []) (n1 := 94) (M1 := (I, J, xrf)) (p2 := 32) (l2 := [some (.ref 32), some (.int x1), some (.int x2), some (.int x3), some (.int x4), some (.int x5)]) (s2 := []) (n2 := 94) (M2 := (I, J, xrf)) (fun f => rfl) (fun hc => ?_) (fun hc => ?_)
  · rw [if_pos hc] at h
    exact p_X6_isUnlike_6 x1 x2 x3 x4 x5 I J h hC
  · rw [if_neg hc] at h
    exact p_X6_isUnlike_4 x1 x2 x3 x4 x5 I J h hC
theorem p_X6_isUnlike_2 {L : Nat} {xs : Nat → Int32} {d : Nat} {Q : xO → Prop} (x1 : Int32) (x2 : Int32) (x3 : Int32) (x4 : Int32) (s0 : Int32) (I : xI) (J : xJ) {t : Int32 × xI × xJ} (h : f_X6_isUnlike_2 x1 x2 x3 x4 s0 I J = some t) (hC : (c_X6_isUnlike Q) t) : Rn L xs (d + 2) 73 20 [some (.ref 32), some (.int x1), some (.int x2), some (.int x3), some (.int x4), none] [.int s0] 94 (I, J, xrf) Q := by
  unfold f_X6_isUnlike_2 at h
  refine Rn.fi 3 (c := x4 < 0) (p1 := 43) (l1 := [some (.ref 32), some (.int x1), some (.int x2), some (.int x3), some (.int x4), some (.int s0)]) (s1 := []) (n1 := 94) (M1 := (I, J, xrf)) (p2 := 27) (l2 := [some (.ref 32), some (.int x1), some (.int x2), some (.int x3), some (.int x4), some (.int s0)]) (s2 := []) (n2 := 94) (M2 := (I, J, xrf)) (fun f => rfl) (fun hc => ?_) (fun hc => ?_)
  · rw [if_pos hc] at h
    exact p_X6_isUnlike_6 x1 x2 x3 x4 s0 I J h hC
  · rw [if_neg hc] at h
    exact p_X6_isUnlike_3 x1 x2 x3 x4 s0 I J h hC
theorem p_X6_isUnlike_1 {L : Nat} {xs : Nat → Int32} {d : Nat} {Q : xO → Prop} (x1 : Int32) (x2 : Int32) (x3 : Int32) (s0 : Int32) (I : xI) (J : xJ) {t : Int32 × xI × xJ} (h : f_X6_isUnlike_1 x1 x2 x3 s0 I J = some t) (hC : (c_X6_isUnlike Q) t) : Rn L xs (d + 2) 73 9 [some (.ref 32), some (.int x1), some (.int x2), some (.int x3), none, none] [.int s0] 94 (I, J, xrf) Q := by
  unfold f_X6_isUnlike_1 at h
  refine Rn.go 5 (j' := 73) (pc' := 17) (ls' := [some (.ref 32), some (.int x1), some (.int x2), some (.int x3), some (.int s0), none]) (st' := [.int x3, .int x2, .ref 1]) (n' := 94) (M' := (I, J, xrf)) (fun f => rfl) ?_
  obtain ⟨o, ho, h⟩ := Option.bind_eq_some_iff.mp h
  refine Rn.call (d1 := d + 1) (j1 := 58) (ls1 := [some (.ref 1), some (.int x2), some (.int x3)]) (rest := []) (fun f => rfl) ?_
  refine p_X5_answerOf (d := d + 0) x2 x3 I J (t := o) ho ?_
  exact p_X6_isUnlike_2 x1 x2 x3 s0 o.1 o.2.1 o.2.2 h hC
theorem p_X6_isUnlike_0 {L : Nat} {xs : Nat → Int32} {d : Nat} {Q : xO → Prop} (x1 : Int32) (x2 : Int32) (x3 : Int32) (I : xI) (J : xJ) {t : Int32 × xI × xJ} (h : f_X6_isUnlike_0 x1 x2 x3 I J = some t) (hC : (c_X6_isUnlike Q) t) : Rn L xs (d + 2) 73 0 [some (.ref 32), some (.int x1), some (.int x2), some (.int x3), none, none] [] 94 (I, J, xrf) Q := by
  unfold f_X6_isUnlike_0 at h
  refine Rn.go 4 (j' := 73) (pc' := 6) (ls' := [some (.ref 32), some (.int x1), some (.int x2), some (.int x3), none, none]) (st' := [.int x3, .int x1, .ref 1]) (n' := 94) (M' := (I, J, xrf)) (fun f => rfl) ?_
  obtain ⟨o, ho, h⟩ := Option.bind_eq_some_iff.mp h
  refine Rn.call (d1 := d + 1) (j1 := 58) (ls1 := [some (.ref 1), some (.int x1), some (.int x3)]) (rest := []) (fun f => rfl) ?_
  refine p_X5_answerOf (d := d + 0) x1 x3 I J (t := o) ho ?_
  exact p_X6_isUnlike_1 x1 x2 x3 o.1 o.2.1 o.2.2 h hC
theorem p_X6_isUnlike {L : Nat} {xs : Nat → Int32} {d : Nat} {Q : xO → Prop} (x1 : Int32) (x2 : Int32) (x3 : Int32) (I : xI) (J : xJ) {t : Int32 × xI × xJ} (h : f_X6_isUnlike x1 x2 x3 I J = some t) (hC : Q ((some (.int t.1)), 94, (t.2.1, t.2.2, xrf))) : Rn L xs (d + 2) 73 0 [some (.ref 32), some (.int x1), some (.int x2), some (.int x3), none, none] [] 94 (I, J, xrf) Q := p_X6_isUnlike_0 x1 x2 x3 I J h hC
/-! X6_look -/
def c_X6_look (Q : xO → Prop) (t : Unit × xI × xJ) : Prop := Q (none, 94, (t.2.1, t.2.2, xrf))
def c_X6_look_5 (L : Nat) (xs : Nat → Int32) (d : Nat) (Q : xO → Prop) (t : (Int32 × Int32 × Int32 × Int32 × xI × xJ) ⊕ (Unit × xI × xJ)) : Prop := match t with
  | .inl s => Rn L xs (d + 3) 70 19 [some (.ref 32), some (.int s.1), some (.int s.2.1), some (.int s.2.2.1), some (.int s.2.2.2.1)] [] 94 (s.2.2.2.2.1, s.2.2.2.2.2, xrf) Q
  | .inr t => (c_X6_look Q) t
def f_X6_look_11 (x1 : Int32) (x2 : Int32) (x3 : Int32) (x4 : Int32) (I : xI) (J : xJ) : Option (Unit × xI × xJ) := some ((), I, J)
def f_X6_look_10 (x1 : Int32) (x2 : Int32) (x3 : Int32) (x4 : Int32) (I : xI) (J : xJ) : Option ((Int32 × Int32 × Int32 × Int32 × xI × xJ) ⊕ (Unit × xI × xJ)) := some (.inl (x1, x2, x3, ((x4 + 1)), I, J))
def f_X6_look_9 (x1 : Int32) (x2 : Int32) (x3 : Int32) (x4 : Int32) (I : xI) (J : xJ) : Option ((Int32 × Int32 × Int32 × Int32 × xI × xJ) ⊕ (Unit × xI × xJ)) := if x3 < 0 ∨ 15 ≤ x3.toNatClampNeg then none else f_X6_look_10 x1 x2 x3 x4 ((xup ((xup I 34 x3.toNatClampNeg 0)) 32 3 (((((xup I 34 x3.toNatClampNeg 0)) 32 3) ||| (1 <<< (x3 &&& 31)))))) J
def f_X6_look_8 (x1 : Int32) (x2 : Int32) (x3 : Int32) (x4 : Int32) (s0 : Int32) (I : xI) (J : xJ) : Option ((Int32 × Int32 × Int32 × Int32 × xI × xJ) ⊕ (Unit × xI × xJ)) := if s0 = 0 then f_X6_look_10 x1 x2 x3 x4 I J else f_X6_look_9 x1 x2 x3 x4 I J
def f_X6_look_7 (x1 : Int32) (x2 : Int32) (x3 : Int32) (x4 : Int32) (s1 : Int32) (s2 : Int32) (s3 : Int32) (I : xI) (J : xJ) : Option ((Int32 × Int32 × Int32 × Int32 × xI × xJ) ⊕ (Unit × xI × xJ)) := if s1 < 0 ∨ 15 ≤ s1.toNatClampNeg then none else (f_X6_isUnlike x1 x2 x4 ((xup I 33 s1.toNatClampNeg ((s2 ||| s3)))) J).bind fun o => f_X6_look_8 x1 x2 x3 x4 o.1 o.2.1 o.2.2
def f_X6_look_6 (x1 : Int32) (x2 : Int32) (x3 : Int32) (x4 : Int32) (I : xI) (J : xJ) : Option ((Int32 × Int32 × Int32 × Int32 × xI × xJ) ⊕ (Unit × xI × xJ)) := if x3 < 0 ∨ 15 ≤ x3.toNatClampNeg then none else (f_X6_stepOf x1 x2 x4 I J).bind fun o => f_X6_look_7 x1 x2 x3 x4 x3 ((I 33 x3.toNatClampNeg)) o.1 o.2.1 o.2.2
def b_X6_look_5 (x1 : Int32) (x2 : Int32) (x3 : Int32) (x4 : Int32) (I : xI) (J : xJ) : Option ((Int32 × Int32 × Int32 × Int32 × xI × xJ) ⊕ (Unit × xI × xJ)) := if (I 1 1) ≤ x4 then ((f_X6_look_11 x1 x2 x3 x4 I J)).map .inr else f_X6_look_6 x1 x2 x3 x4 I J
def f_X6_look_5 (x1 : Int32) (x2 : Int32) (x3 : Int32) (x4 : Int32) (I : xI) (J : xJ) : Option (Unit × xI × xJ) := xloop (fun s : Int32 × Int32 × Int32 × Int32 × xI × xJ => b_X6_look_5 s.1 s.2.1 s.2.2.1 s.2.2.2.1 s.2.2.2.2.1 s.2.2.2.2.2) 5000 (x1, x2, x3, x4, I, J)
def f_X6_look_4 (x1 : Int32) (x2 : Int32) (x3 : Int32) (I : xI) (J : xJ) : Option (Unit × xI × xJ) := f_X6_look_5 x1 x2 x3 0 I J
def f_X6_look_3 (x1 : Int32) (x2 : Int32) (x3 : Int32) (I : xI) (J : xJ) : Option (Unit × xI × xJ) := some ((), I, J)
def f_X6_look_2 (x1 : Int32) (x2 : Int32) (s0 : Int32) (I : xI) (J : xJ) : Option (Unit × xI × xJ) := if s0 < 15 then f_X6_look_4 x1 x2 s0 I J else f_X6_look_3 x1 x2 s0 I J
def f_X6_look_1 (x1 : Int32) (x2 : Int32) (s0 : Int32) (I : xI) (J : xJ) : Option (Unit × xI × xJ) := (f_J6_numberOfTrailingZeros_0f7a4 s0 I J).bind fun o => f_X6_look_2 x1 x2 o.1 o.2.1 o.2.2
def f_X6_look_0 (x1 : Int32) (x2 : Int32) (I : xI) (J : xJ) : Option (Unit × xI × xJ) := (f_X11_pairOf x1 x2 I J).bind fun o => f_X6_look_1 x1 x2 o.1 o.2.1 o.2.2
def f_X6_look (x1 : Int32) (x2 : Int32) (I : xI) (J : xJ) : Option (Unit × xI × xJ) := f_X6_look_0 x1 x2 I J
theorem p_X6_look_11 {L : Nat} {xs : Nat → Int32} {d : Nat} {Q : xO → Prop} (x1 : Int32) (x2 : Int32) (x3 : Int32) (x4 : Int32) (I : xI) (J : xJ) {t : Unit × xI × xJ} (h : f_X6_look_11 x1 x2 x3 x4 I J = some t) (hC : (c_X6_look Q) t) : Rn L xs (d + 3) 70 84 [some (.ref 32), some (.int x1), some (.int x2), some (.int x3), some (.int x4)] [] 94 (I, J, xrf) Q := by
  unfold f_X6_look_11 at h
  cases h
  exact Rn.ret 1 (o := (none, 94, (I, J, xrf))) (fun f => rfl) hC
theorem p_X6_look_10 {L : Nat} {xs : Nat → Int32} {d : Nat} {Q : xO → Prop} (x1 : Int32) (x2 : Int32) (x3 : Int32) (x4 : Int32) (I : xI) (J : xJ) {t : (Int32 × Int32 × Int32 × Int32 × xI × xJ) ⊕ (Unit × xI × xJ)} (h : f_X6_look_10 x1 x2 x3 x4 I J = some t) (hC : (c_X6_look_5 L xs d Q) t) : Rn L xs (d + 3) 70 78 [some (.ref 32), some (.int x1), some (.int x2), some (.int x3), some (.int x4)] [] 94 (I, J, xrf) Q := by
  unfold f_X6_look_10 at h
  refine Rn.go 2 (j' := 70) (pc' := 19) (ls' := [some (.ref 32), some (.int x1), some (.int x2), some (.int x3), some (.int ((x4 + 1)))]) (st' := []) (n' := 94) (M' := (I, J, xrf)) (fun f => rfl) ?_
  cases h; exact hC
theorem p_X6_look_9 {L : Nat} {xs : Nat → Int32} {d : Nat} {Q : xO → Prop} (x1 : Int32) (x2 : Int32) (x3 : Int32) (x4 : Int32) (I : xI) (J : xJ) {t : (Int32 × Int32 × Int32 × Int32 × xI × xJ) ⊕ (Unit × xI × xJ)} (h : f_X6_look_9 x1 x2 x3 x4 I J = some t) (hC : (c_X6_look_5 L xs d Q) t) : Rn L xs (d + 3) 70 59 [some (.ref 32), some (.int x1), some (.int x2), some (.int x3), some (.int x4)] [] 94 (I, J, xrf) Q := by
  unfold f_X6_look_9 at h
  obtain ⟨hc, h⟩ := xif h
  refine Rn.ok 5 (c := x3 < 0 ∨ 15 ≤ x3.toNatClampNeg) (p1 := 66) (l1 := [some (.ref 32), some (.int x1), some (.int x2), some (.int x3), some (.int x4)]) (s1 := []) (n1 := 94) (M1 := ((xup I 34 x3.toNatClampNeg 0), J, xrf)) (fun f => rfl) hc ?_
  refine Rn.go 8 (j' := 70) (pc' := 78) (ls' := [some (.ref 32), some (.int x1), some (.int x2), some (.int x3), some (.int x4)]) (st' := []) (n' := 94) (M' := ((xup ((xup I 34 x3.toNatClampNeg 0)) 32 3 (((((xup I 34 x3.toNatClampNeg 0)) 32 3) ||| (1 <<< (x3 &&& 31))))), J, xrf)) (fun f => rfl) ?_
  exact p_X6_look_10 x1 x2 x3 x4 ((xup ((xup I 34 x3.toNatClampNeg 0)) 32 3 (((((xup I 34 x3.toNatClampNeg 0)) 32 3) ||| (1 <<< (x3 &&& 31)))))) J h hC
theorem p_X6_look_8 {L : Nat} {xs : Nat → Int32} {d : Nat} {Q : xO → Prop} (x1 : Int32) (x2 : Int32) (x3 : Int32) (x4 : Int32) (s0 : Int32) (I : xI) (J : xJ) {t : (Int32 × Int32 × Int32 × Int32 × xI × xJ) ⊕ (Unit × xI × xJ)} (h : f_X6_look_8 x1 x2 x3 x4 s0 I J = some t) (hC : (c_X6_look_5 L xs d Q) t) : Rn L xs (d + 3) 70 56 [some (.ref 32), some (.int x1), some (.int x2), some (.int x3), some (.int x4)] [.int s0] 94 (I, J, xrf) Q := by
  unfold f_X6_look_8 at h
  refine Rn.fi 1 (c := s0 = 0) (p1 := 78) (l1 := [some (.ref 32), some (.int x1), some (.int x2), some (.int x3), some (.int x4)]) (s1 := []) (n1 := 94) (M1 := (I, J, xrf)) (p2 := 59) (l2 := [some (.ref 32), some (.int x1), some (.int x2), some (.int x3), some (.int x4)]) (s2 := []) (n2 := 94) (M2 := (I, J, xrf)) (fun f => rfl) (fun hc => ?_) (fun hc => ?_)
  · rw [if_pos hc] at h
    exact p_X6_look_10 x1 x2 x3 x4 I J h hC
  · rw [if_neg hc] at h
    exact p_X6_look_9 x1 x2 x3 x4 I J h hC
theorem p_X6_look_7 {L : Nat} {xs : Nat → Int32} {d : Nat} {Q : xO → Prop} (x1 : Int32) (x2 : Int32) (x3 : Int32) (x4 : Int32) (s1 : Int32) (s2 : Int32) (s3 : Int32) (I : xI) (J : xJ) {t : (Int32 × Int32 × Int32 × Int32 × xI × xJ) ⊕ (Unit × xI × xJ)} (h : f_X6_look_7 x1 x2 x3 x4 s1 s2 s3 I J = some t) (hC : (c_X6_look_5 L xs d Q) t) : Rn L xs (d + 3) 70 46 [some (.ref 32), some (.int x1), some (.int x2), some (.int x3), some (.int x4)] [.int s3, .int s2, .int s1, .ref 33] 94 (I, J, xrf) Q := by
  unfold f_X6_look_7 at h
  obtain ⟨hc, h⟩ := xif h
  refine Rn.ok 2 (c := s1 < 0 ∨ 15 ≤ s1.toNatClampNeg) (p1 := 48) (l1 := [some (.ref 32), some (.int x1), some (.int x2), some (.int x3), some (.int x4)]) (s1 := []) (n1 := 94) (M1 := ((xup I 33 s1.toNatClampNeg ((s2 ||| s3))), J, xrf)) (fun f => rfl) hc ?_
  refine Rn.go 4 (j' := 70) (pc' := 53) (ls' := [some (.ref 32), some (.int x1), some (.int x2), some (.int x3), some (.int x4)]) (st' := [.int x4, .int x2, .int x1, .ref 32]) (n' := 94) (M' := ((xup I 33 s1.toNatClampNeg ((s2 ||| s3))), J, xrf)) (fun f => rfl) ?_
  obtain ⟨o, ho, h⟩ := Option.bind_eq_some_iff.mp h
  refine Rn.call (d1 := d + 2) (j1 := 73) (ls1 := [some (.ref 32), some (.int x1), some (.int x2), some (.int x4), none, none]) (rest := []) (fun f => rfl) ?_
  refine p_X6_isUnlike (d := d + 0) x1 x2 x4 ((xup I 33 s1.toNatClampNeg ((s2 ||| s3)))) J (t := o) ho ?_
  exact p_X6_look_8 x1 x2 x3 x4 o.1 o.2.1 o.2.2 h hC
theorem p_X6_look_6 {L : Nat} {xs : Nat → Int32} {d : Nat} {Q : xO → Prop} (x1 : Int32) (x2 : Int32) (x3 : Int32) (x4 : Int32) (I : xI) (J : xJ) {t : (Int32 × Int32 × Int32 × Int32 × xI × xJ) ⊕ (Unit × xI × xJ)} (h : f_X6_look_6 x1 x2 x3 x4 I J = some t) (hC : (c_X6_look_5 L xs d Q) t) : Rn L xs (d + 3) 70 31 [some (.ref 32), some (.int x1), some (.int x2), some (.int x3), some (.int x4)] [] 94 (I, J, xrf) Q := by
  unfold f_X6_look_6 at h
  obtain ⟨hc, h⟩ := xif h
  refine Rn.ok 5 (c := x3 < 0 ∨ 15 ≤ x3.toNatClampNeg) (p1 := 38) (l1 := [some (.ref 32), some (.int x1), some (.int x2), some (.int x3), some (.int x4)]) (s1 := [.int ((I 33 x3.toNatClampNeg)), .int x3, .ref 33]) (n1 := 94) (M1 := (I, J, xrf)) (fun f => rfl) hc ?_
  refine Rn.go 4 (j' := 70) (pc' := 43) (ls' := [some (.ref 32), some (.int x1), some (.int x2), some (.int x3), some (.int x4)]) (st' := [.int x4, .int x2, .int x1, .ref 32, .int ((I 33 x3.toNatClampNeg)), .int x3, .ref 33]) (n' := 94) (M' := (I, J, xrf)) (fun f => rfl) ?_
  obtain ⟨o, ho, h⟩ := Option.bind_eq_some_iff.mp h
  refine Rn.call (d1 := d + 2) (j1 := 72) (ls1 := [some (.ref 32), some (.int x1), some (.int x2), some (.int x4), none, none]) (rest := [.int ((I 33 x3.toNatClampNeg)), .int x3, .ref 33]) (fun f => rfl) ?_
  refine p_X6_stepOf (d := d + 0) x1 x2 x4 I J (t := o) ho ?_
  exact p_X6_look_7 x1 x2 x3 x4 x3 ((I 33 x3.toNatClampNeg)) o.1 o.2.1 o.2.2 h hC
theorem q_X6_look_5 {L : Nat} {xs : Nat → Int32} {d : Nat} {Q : xO → Prop} (x1 : Int32) (x2 : Int32) (x3 : Int32) (x4 : Int32) (I : xI) (J : xJ) {t : (Int32 × Int32 × Int32 × Int32 × xI × xJ) ⊕ (Unit × xI × xJ)} (h : b_X6_look_5 x1 x2 x3 x4 I J = some t) (hC : (c_X6_look_5 L xs d Q) t) : Rn L xs (d + 3) 70 19 [some (.ref 32), some (.int x1), some (.int x2), some (.int x3), some (.int x4)] [] 94 (I, J, xrf) Q := by
  unfold b_X6_look_5 at h
  refine Rn.fi 5 (c := (I 1 1) ≤ x4) (p1 := 84) (l1 := [some (.ref 32), some (.int x1), some (.int x2), some (.int x3), some (.int x4)]) (s1 := []) (n1 := 94) (M1 := (I, J, xrf)) (p2 := 31) (l2 := [some (.ref 32), some (.int x1), some (.int x2), some (.int x3), some (.int x4)]) (s2 := []) (n2 := 94) (M2 := (I, J, xrf)) (fun f => rfl) (fun hc => ?_) (fun hc => ?_)
  · rw [if_pos hc] at h
    obtain ⟨t0, h0, rfl⟩ := Option.map_eq_some_iff.mp h
    exact p_X6_look_11 x1 x2 x3 x4 I J h0 hC
  · rw [if_neg hc] at h
    exact p_X6_look_6 x1 x2 x3 x4 I J h hC
theorem p_X6_look_5 {L : Nat} {xs : Nat → Int32} {d : Nat} {Q : xO → Prop} (x1 : Int32) (x2 : Int32) (x3 : Int32) (x4 : Int32) (I : xI) (J : xJ) {t : Unit × xI × xJ} (h : f_X6_look_5 x1 x2 x3 x4 I J = some t) (hC : (c_X6_look Q) t) : Rn L xs (d + 3) 70 19 [some (.ref 32), some (.int x1), some (.int x2), some (.int x3), some (.int x4)] [] 94 (I, J, xrf) Q := by
  unfold f_X6_look_5 at h
  exact xloop_some (P := fun s : Int32 × Int32 × Int32 × Int32 × xI × xJ => Rn L xs (d + 3) 70 19 [some (.ref 32), some (.int s.1), some (.int s.2.1), some (.int s.2.2.1), some (.int s.2.2.2.1)] [] 94 (s.2.2.2.2.1, s.2.2.2.2.2, xrf) Q) t (fun s ⟨s', hb, hp⟩ => q_X6_look_5 s.1 s.2.1 s.2.2.1 s.2.2.2.1 s.2.2.2.2.1 s.2.2.2.2.2 hb hp) (fun s hb => q_X6_look_5 s.1 s.2.1 s.2.2.1 s.2.2.2.1 s.2.2.2.2.1 s.2.2.2.2.2 hb hC) _ _ h
theorem p_X6_look_4 {L : Nat} {xs : Nat → Int32} {d : Nat} {Q : xO → Prop} (x1 : Int32) (x2 : Int32) (x3 : Int32) (I : xI) (J : xJ) {t : Unit × xI × xJ} (h : f_X6_look_4 x1 x2 x3 I J = some t) (hC : (c_X6_look Q) t) : Rn L xs (d + 3) 70 16 [some (.ref 32), some (.int x1), some (.int x2), some (.int x3), none] [] 94 (I, J, xrf) Q := by
  unfold f_X6_look_4 at h
  refine Rn.go 2 (j' := 70) (pc' := 19) (ls' := [some (.ref 32), some (.int x1), some (.int x2), some (.int x3), some (.int 0)]) (st' := []) (n' := 94) (M' := (I, J, xrf)) (fun f => rfl) ?_
  exact p_X6_look_5 x1 x2 x3 0 I J h hC
theorem p_X6_look_3 {L : Nat} {xs : Nat → Int32} {d : Nat} {Q : xO → Prop} (x1 : Int32) (x2 : Int32) (x3 : Int32) (I : xI) (J : xJ) {t : Unit × xI × xJ} (h : f_X6_look_3 x1 x2 x3 I J = some t) (hC : (c_X6_look Q) t) : Rn L xs (d + 3) 70 15 [some (.ref 32), some (.int x1), some (.int x2), some (.int x3), none] [] 94 (I, J, xrf) Q := by
  unfold f_X6_look_3 at h
  cases h
  exact Rn.ret 1 (o := (none, 94, (I, J, xrf))) (fun f => rfl) hC
theorem p_X6_look_2 {L : Nat} {xs : Nat → Int32} {d : Nat} {Q : xO → Prop} (x1 : Int32) (x2 : Int32) (s0 : Int32) (I : xI) (J : xJ) {t : Unit × xI × xJ} (h : f_X6_look_2 x1 x2 s0 I J = some t) (hC : (c_X6_look Q) t) : Rn L xs (d + 3) 70 8 [some (.ref 32), some (.int x1), some (.int x2), none, none] [.int s0] 94 (I, J, xrf) Q := by
  unfold f_X6_look_2 at h
  refine Rn.fi 4 (c := s0 < 15) (p1 := 16) (l1 := [some (.ref 32), some (.int x1), some (.int x2), some (.int s0), none]) (s1 := []) (n1 := 94) (M1 := (I, J, xrf)) (p2 := 15) (l2 := [some (.ref 32), some (.int x1), some (.int x2), some (.int s0), none]) (s2 := []) (n2 := 94) (M2 := (I, J, xrf)) (fun f => rfl) (fun hc => ?_) (fun hc => ?_)
  · rw [if_pos hc] at h
    exact p_X6_look_4 x1 x2 s0 I J h hC
  · rw [if_neg hc] at h
    exact p_X6_look_3 x1 x2 s0 I J h hC
theorem p_X6_look_1 {L : Nat} {xs : Nat → Int32} {d : Nat} {Q : xO → Prop} (x1 : Int32) (x2 : Int32) (s0 : Int32) (I : xI) (J : xJ) {t : Unit × xI × xJ} (h : f_X6_look_1 x1 x2 s0 I J = some t) (hC : (c_X6_look Q) t) : Rn L xs (d + 3) 70 5 [some (.ref 32), some (.int x1), some (.int x2), none, none] [.int s0] 94 (I, J, xrf) Q := by
  unfold f_X6_look_1 at h
  obtain ⟨o, ho, h⟩ := Option.bind_eq_some_iff.mp h
  refine Rn.call (d1 := d + 2) (j1 := 298) (ls1 := [some (.int s0), none]) (rest := []) (fun f => rfl) ?_
  refine p_J6_numberOfTrailingZeros_0f7a4 (d := d + 1) s0 I J (t := o) ho ?_
  exact p_X6_look_2 x1 x2 o.1 o.2.1 o.2.2 h hC
theorem p_X6_look_0 {L : Nat} {xs : Nat → Int32} {d : Nat} {Q : xO → Prop} (x1 : Int32) (x2 : Int32) (I : xI) (J : xJ) {t : Unit × xI × xJ} (h : f_X6_look_0 x1 x2 I J = some t) (hC : (c_X6_look Q) t) : Rn L xs (d + 3) 70 0 [some (.ref 32), some (.int x1), some (.int x2), none, none] [] 94 (I, J, xrf) Q := by
  unfold f_X6_look_0 at h
  refine Rn.go 2 (j' := 70) (pc' := 2) (ls' := [some (.ref 32), some (.int x1), some (.int x2), none, none]) (st' := [.int x2, .int x1]) (n' := 94) (M' := (I, J, xrf)) (fun f => rfl) ?_
  obtain ⟨o, ho, h⟩ := Option.bind_eq_some_iff.mp h
  refine Rn.call (d1 := d + 2) (j1 := 181) (ls1 := [some (.int x1), some (.int x2), none]) (rest := []) (fun f => rfl) ?_
  refine p_X11_pairOf (d := d + 1) x1 x2 I J (t := o) ho ?_
  exact p_X6_look_1 x1 x2 o.1 o.2.1 o.2.2 h hC
theorem p_X6_look {L : Nat} {xs : Nat → Int32} {d : Nat} {Q : xO → Prop} (x1 : Int32) (x2 : Int32) (I : xI) (J : xJ) {t : Unit × xI × xJ} (h : f_X6_look x1 x2 I J = some t) (hC : Q (none, 94, (t.2.1, t.2.2, xrf))) : Rn L xs (d + 3) 70 0 [some (.ref 32), some (.int x1), some (.int x2), none, none] [] 94 (I, J, xrf) Q := p_X6_look_0 x1 x2 I J h hC
/-! X6_goRound -/
def c_X6_goRound (Q : xO → Prop) (t : Unit × xI × xJ) : Prop := Q (none, 94, (t.2.1, t.2.2, xrf))
def c_X6_goRound_1 (L : Nat) (xs : Nat → Int32) (d : Nat) (Q : xO → Prop) (t : (Int32 × Int32 × Int32 × xI × xJ) ⊕ (Unit × xI × xJ)) : Prop := match t with
  | .inl s => Rn L xs (d + 1) 71 7 [some (.ref 32), some (.int s.1), some (.int s.2.1), some (.int s.2.2.1)] [] 94 (s.2.2.2.1, s.2.2.2.2, xrf) Q
  | .inr t => (c_X6_goRound Q) t
def f_X6_goRound_6 (x1 : Int32) (x2 : Int32) (x3 : Int32) (I : xI) (J : xJ) : Option (Unit × xI × xJ) := some ((), I, J)
def f_X6_goRound_5 (x1 : Int32) (x2 : Int32) (x3 : Int32) (I : xI) (J : xJ) : Option ((Int32 × Int32 × Int32 × xI × xJ) ⊕ (Unit × xI × xJ)) := some (.inl (x1, x2, ((x3 + 1)), I, J))
def f_X6_goRound_4 (x1 : Int32) (x2 : Int32) (x3 : Int32) (I : xI) (J : xJ) : Option ((Int32 × Int32 × Int32 × xI × xJ) ⊕ (Unit × xI × xJ)) := if x3 < 0 ∨ 15 ≤ x3.toNatClampNeg then none else f_X6_goRound_5 x1 x2 x3 ((xup ((xup I 34 x3.toNatClampNeg x1)) 32 3 (((((xup I 34 x3.toNatClampNeg x1)) 32 3) ||| (1 <<< (x3 &&& 31)))))) J
def f_X6_goRound_3 (x1 : Int32) (x2 : Int32) (x3 : Int32) (I : xI) (J : xJ) : Option ((Int32 × Int32 × Int32 × xI × xJ) ⊕ (Unit × xI × xJ)) := if x3 < 0 ∨ 15 ≤ x3.toNatClampNeg then none else if ((I 33 x3.toNatClampNeg) &&& x2) = 0 then f_X6_goRound_5 x1 x2 x3 I J else f_X6_goRound_4 x1 x2 x3 I J
def f_X6_goRound_2 (x1 : Int32) (x2 : Int32) (x3 : Int32) (I : xI) (J : xJ) : Option ((Int32 × Int32 × Int32 × xI × xJ) ⊕ (Unit × xI × xJ)) := if ((x2 >>> (x3 &&& 31)) &&& 1) = 0 then f_X6_goRound_3 x1 x2 x3 I J else f_X6_goRound_5 x1 x2 x3 I J
def b_X6_goRound_1 (x1 : Int32) (x2 : Int32) (x3 : Int32) (I : xI) (J : xJ) : Option ((Int32 × Int32 × Int32 × xI × xJ) ⊕ (Unit × xI × xJ)) := if 15 ≤ x3 then ((f_X6_goRound_6 x1 x2 x3 I J)).map .inr else f_X6_goRound_2 x1 x2 x3 I J
def f_X6_goRound_1 (x1 : Int32) (x2 : Int32) (x3 : Int32) (I : xI) (J : xJ) : Option (Unit × xI × xJ) := xloop (fun s : Int32 × Int32 × Int32 × xI × xJ => b_X6_goRound_1 s.1 s.2.1 s.2.2.1 s.2.2.2.1 s.2.2.2.2) 5000 (x1, x2, x3, I, J)
def f_X6_goRound_0 (x1 : Int32) (I : xI) (J : xJ) : Option (Unit × xI × xJ) := f_X6_goRound_1 x1 ((I 32 3)) 0 I J
def f_X6_goRound (x1 : Int32) (I : xI) (J : xJ) : Option (Unit × xI × xJ) := f_X6_goRound_0 x1 I J
theorem p_X6_goRound_6 {L : Nat} {xs : Nat → Int32} {d : Nat} {Q : xO → Prop} (x1 : Int32) (x2 : Int32) (x3 : Int32) (I : xI) (J : xJ) {t : Unit × xI × xJ} (h : f_X6_goRound_6 x1 x2 x3 I J = some t) (hC : (c_X6_goRound Q) t) : Rn L xs (d + 1) 71 57 [some (.ref 32), some (.int x1), some (.int x2), some (.int x3)] [] 94 (I, J, xrf) Q := by
  unfold f_X6_goRound_6 at h
  cases h
  exact Rn.ret 1 (o := (none, 94, (I, J, xrf))) (fun f => rfl) hC
theorem p_X6_goRound_5 {L : Nat} {xs : Nat → Int32} {d : Nat} {Q : xO → Prop} (x1 : Int32) (x2 : Int32) (x3 : Int32) (I : xI) (J : xJ) {t : (Int32 × Int32 × Int32 × xI × xJ) ⊕ (Unit × xI × xJ)} (h : f_X6_goRound_5 x1 x2 x3 I J = some t) (hC : (c_X6_goRound_1 L xs d Q) t) : Rn L xs (d + 1) 71 51 [some (.ref 32), some (.int x1), some (.int x2), some (.int x3)] [] 94 (I, J, xrf) Q := by
  unfold f_X6_goRound_5 at h
  refine Rn.go 2 (j' := 71) (pc' := 7) (ls' := [some (.ref 32), some (.int x1), some (.int x2), some (.int ((x3 + 1)))]) (st' := []) (n' := 94) (M' := (I, J, xrf)) (fun f => rfl) ?_
  cases h; exact hC
theorem p_X6_goRound_4 {L : Nat} {xs : Nat → Int32} {d : Nat} {Q : xO → Prop} (x1 : Int32) (x2 : Int32) (x3 : Int32) (I : xI) (J : xJ) {t : (Int32 × Int32 × Int32 × xI × xJ) ⊕ (Unit × xI × xJ)} (h : f_X6_goRound_4 x1 x2 x3 I J = some t) (hC : (c_X6_goRound_1 L xs d Q) t) : Rn L xs (d + 1) 71 32 [some (.ref 32), some (.int x1), some (.int x2), some (.int x3)] [] 94 (I, J, xrf) Q := by
  unfold f_X6_goRound_4 at h
  obtain ⟨hc, h⟩ := xif h
  refine Rn.ok 5 (c := x3 < 0 ∨ 15 ≤ x3.toNatClampNeg) (p1 := 39) (l1 := [some (.ref 32), some (.int x1), some (.int x2), some (.int x3)]) (s1 := []) (n1 := 94) (M1 := ((xup I 34 x3.toNatClampNeg x1), J, xrf)) (fun f => rfl) hc ?_
  refine Rn.go 8 (j' := 71) (pc' := 51) (ls' := [some (.ref 32), some (.int x1), some (.int x2), some (.int x3)]) (st' := []) (n' := 94) (M' := ((xup ((xup I 34 x3.toNatClampNeg x1)) 32 3 (((((xup I 34 x3.toNatClampNeg x1)) 32 3) ||| (1 <<< (x3 &&& 31))))), J, xrf)) (fun f => rfl) ?_
  exact p_X6_goRound_5 x1 x2 x3 ((xup ((xup I 34 x3.toNatClampNeg x1)) 32 3 (((((xup I 34 x3.toNatClampNeg x1)) 32 3) ||| (1 <<< (x3 &&& 31)))))) J h hC
theorem p_X6_goRound_3 {L : Nat} {xs : Nat → Int32} {d : Nat} {Q : xO → Prop} (x1 : Int32) (x2 : Int32) (x3 : Int32) (I : xI) (J : xJ) {t : (Int32 × Int32 × Int32 × xI × xJ) ⊕ (Unit × xI × xJ)} (h : f_X6_goRound_3 x1 x2 x3 I J = some t) (hC : (c_X6_goRound_1 L xs d Q) t) : Rn L xs (d + 1) 71 21 [some (.ref 32), some (.int x1), some (.int x2), some (.int x3)] [] 94 (I, J, xrf) Q := by
  unfold f_X6_goRound_3 at h
  obtain ⟨hc, h⟩ := xif h
  refine Rn.ok 4 (c := x3 < 0 ∨ 15 ≤ x3.toNatClampNeg) (p1 := 27) (l1 := [some (.ref 32), some (.int x1), some (.int x2), some (.int x3)]) (s1 := [.int ((I 33 x3.toNatClampNeg))]) (n1 := 94) (M1 := (I, J, xrf)) (fun f => rfl) hc ?_
  refine Rn.fi 3 (c := ((I 33 x3.toNatClampNeg) &&& x2) = 0) (p1 := 51) (l1 := [some (.ref 32), some (.int x1), some (.int x2), some (.int x3)]) (s1 := []) (n1 := 94) (M1 := (I, J, xrf)) (p2 := 32) (l2 := [some (.ref 32), some (.int x1), some (.int x2), some (.int x3)]) (s2 := []) (n2 := 94) (M2 := (I, J, xrf)) (fun f => rfl) (fun hc => ?_) (fun hc => ?_)
  · rw [if_pos hc] at h
    exact p_X6_goRound_5 x1 x2 x3 I J h hC
  · rw [if_neg hc] at h
    exact p_X6_goRound_4 x1 x2 x3 I J h hC
theorem p_X6_goRound_2 {L : Nat} {xs : Nat → Int32} {d : Nat} {Q : xO → Prop} (x1 : Int32) (x2 : Int32) (x3 : Int32) (I : xI) (J : xJ) {t : (Int32 × Int32 × Int32 × xI × xJ) ⊕ (Unit × xI × xJ)} (h : f_X6_goRound_2 x1 x2 x3 I J = some t) (hC : (c_X6_goRound_1 L xs d Q) t) : Rn L xs (d + 1) 71 13 [some (.ref 32), some (.int x1), some (.int x2), some (.int x3)] [] 94 (I, J, xrf) Q := by
  unfold f_X6_goRound_2 at h
  refine Rn.fi 6 (c := ((x2 >>> (x3 &&& 31)) &&& 1) = 0) (p1 := 21) (l1 := [some (.ref 32), some (.int x1), some (.int x2), some (.int x3)]) (s1 := []) (n1 := 94) (M1 := (I, J, xrf)) (p2 := 51) (l2 := [some (.ref 32), some (.int x1), some (.int x2), some (.int x3)]) (s2 := []) (n2 := 94) (M2 := (I, J, xrf)) (fun f => rfl) (fun hc => ?_) (fun hc => ?_)
  · rw [if_pos hc] at h
    exact p_X6_goRound_3 x1 x2 x3 I J h hC
  · rw [if_neg hc] at h
    exact p_X6_goRound_5 x1 x2 x3 I J h hC
theorem q_X6_goRound_1 {L : Nat} {xs : Nat → Int32} {d : Nat} {Q : xO → Prop} (x1 : Int32) (x2 : Int32) (x3 : Int32) (I : xI) (J : xJ) {t : (Int32 × Int32 × Int32 × xI × xJ) ⊕ (Unit × xI × xJ)} (h : b_X6_goRound_1 x1 x2 x3 I J = some t) (hC : (c_X6_goRound_1 L xs d Q) t) : Rn L xs (d + 1) 71 7 [some (.ref 32), some (.int x1), some (.int x2), some (.int x3)] [] 94 (I, J, xrf) Q := by
  unfold b_X6_goRound_1 at h
  refine Rn.fi 3 (c := 15 ≤ x3) (p1 := 57) (l1 := [some (.ref 32), some (.int x1), some (.int x2), some (.int x3)]) (s1 := []) (n1 := 94) (M1 := (I, J, xrf)) (p2 := 13) (l2 := [some (.ref 32), some (.int x1), some (.int x2), some (.int x3)]) (s2 := []) (n2 := 94) (M2 := (I, J, xrf)) (fun f => rfl) (fun hc => ?_) (fun hc => ?_)
  · rw [if_pos hc] at h
    obtain ⟨t0, h0, rfl⟩ := Option.map_eq_some_iff.mp h
    exact p_X6_goRound_6 x1 x2 x3 I J h0 hC
  · rw [if_neg hc] at h
    exact p_X6_goRound_2 x1 x2 x3 I J h hC
theorem p_X6_goRound_1 {L : Nat} {xs : Nat → Int32} {d : Nat} {Q : xO → Prop} (x1 : Int32) (x2 : Int32) (x3 : Int32) (I : xI) (J : xJ) {t : Unit × xI × xJ} (h : f_X6_goRound_1 x1 x2 x3 I J = some t) (hC : (c_X6_goRound Q) t) : Rn L xs (d + 1) 71 7 [some (.ref 32), some (.int x1), some (.int x2), some (.int x3)] [] 94 (I, J, xrf) Q := by
  unfold f_X6_goRound_1 at h
  exact xloop_some (P := fun s : Int32 × Int32 × Int32 × xI × xJ => Rn L xs (d + 1) 71 7 [some (.ref 32), some (.int s.1), some (.int s.2.1), some (.int s.2.2.1)] [] 94 (s.2.2.2.1, s.2.2.2.2, xrf) Q) t (fun s ⟨s', hb, hp⟩ => q_X6_goRound_1 s.1 s.2.1 s.2.2.1 s.2.2.2.1 s.2.2.2.2 hb hp) (fun s hb => q_X6_goRound_1 s.1 s.2.1 s.2.2.1 s.2.2.2.1 s.2.2.2.2 hb hC) _ _ h
theorem p_X6_goRound_0 {L : Nat} {xs : Nat → Int32} {d : Nat} {Q : xO → Prop} (x1 : Int32) (I : xI) (J : xJ) {t : Unit × xI × xJ} (h : f_X6_goRound_0 x1 I J = some t) (hC : (c_X6_goRound Q) t) : Rn L xs (d + 1) 71 0 [some (.ref 32), some (.int x1), none, none] [] 94 (I, J, xrf) Q := by
  unfold f_X6_goRound_0 at h
  refine Rn.go 5 (j' := 71) (pc' := 7) (ls' := [some (.ref 32), some (.int x1), some (.int ((I 32 3))), some (.int 0)]) (st' := []) (n' := 94) (M' := (I, J, xrf)) (fun f => rfl) ?_
  exact p_X6_goRound_1 x1 ((I 32 3)) 0 I J h hC
theorem p_X6_goRound {L : Nat} {xs : Nat → Int32} {d : Nat} {Q : xO → Prop} (x1 : Int32) (I : xI) (J : xJ) {t : Unit × xI × xJ} (h : f_X6_goRound x1 I J = some t) (hC : Q (none, 94, (t.2.1, t.2.2, xrf))) : Rn L xs (d + 1) 71 0 [some (.ref 32), some (.int x1), none, none] [] 94 (I, J, xrf) Q := p_X6_goRound_0 x1 I J h hC
/-! X6_refresh -/
def c_X6_refresh (Q : xO → Prop) (t : Unit × xI × xJ) : Prop := Q (none, 94, (t.2.1, t.2.2, xrf))
def c_X6_refresh_5 (L : Nat) (xs : Nat → Int32) (d : Nat) (Q : xO → Prop) (t : (Int32 × (Option Value) × xI × xJ) ⊕ (Unit × xI × xJ)) : Prop := match t with
  | .inl s => Rn L xs (d + 4) 69 50 [some (.ref 32), some (.int s.1), s.2.1] [] 94 (s.2.2.1, s.2.2.2, xrf) Q
  | .inr t => (c_X6_refresh Q) t
def c_X6_refresh_12 (L : Nat) (xs : Nat → Int32) (d : Nat) (Q : xO → Prop) (t : (Int32 × (Option Value) × xI × xJ) ⊕ (Unit × xI × xJ)) : Prop := match t with
  | .inl s => Rn L xs (d + 4) 69 96 [some (.ref 32), some (.int s.1), s.2.1] [] 94 (s.2.2.1, s.2.2.2, xrf) Q
  | .inr t => (c_X6_refresh Q) t
def c_X6_refresh_7 (L : Nat) (xs : Nat → Int32) (d : Nat) (Q : xO → Prop) (t : (Int32 × Int32 × xI × xJ) ⊕ ((Int32 × (Option Value) × xI × xJ) ⊕ (Unit × xI × xJ))) : Prop := match t with
  | .inl s => Rn L xs (d + 4) 69 65 [some (.ref 32), some (.int s.1), some (.int s.2.1)] [] 94 (s.2.2.1, s.2.2.2, xrf) Q
  | .inr t => (c_X6_refresh_5 L xs d Q) t
def f_X6_refresh_15 (x1 : Int32) (z2 : Option Value) (I : xI) (J : xJ) : Option (Unit × xI × xJ) := some ((), I, J)
def f_X6_refresh_14 (x1 : Int32) (z2 : Option Value) (I : xI) (J : xJ) : Option ((Int32 × (Option Value) × xI × xJ) ⊕ (Unit × xI × xJ)) := some (.inl (((x1 + 1)), z2, I, J))
def f_X6_refresh_13 (x1 : Int32) (z2 : Option Value) (I : xI) (J : xJ) : Option ((Int32 × (Option Value) × xI × xJ) ⊕ (Unit × xI × xJ)) := (f_X6_goRound x1 I J).bind fun o => f_X6_refresh_14 x1 z2 o.2.1 o.2.2
def b_X6_refresh_12 (x1 : Int32) (z2 : Option Value) (I : xI) (J : xJ) : Option ((Int32 × (Option Value) × xI × xJ) ⊕ (Unit × xI × xJ)) := if 15 < x1 then ((f_X6_refresh_15 x1 z2 I J)).map .inr else f_X6_refresh_13 x1 z2 I J
def f_X6_refresh_12 (x1 : Int32) (z2 : Option Value) (I : xI) (J : xJ) : Option (Unit × xI × xJ) := xloop (fun s : Int32 × (Option Value) × xI × xJ => b_X6_refresh_12 s.1 s.2.1 s.2.2.1 s.2.2.2) 5000 (x1, z2, I, J)
def f_X6_refresh_11 (x1 : Int32) (z2 : Option Value) (I : xI) (J : xJ) : Option (Unit × xI × xJ) := f_X6_refresh_12 1 z2 I J
def f_X6_refresh_10 (x1 : Int32) (x2 : Int32) (I : xI) (J : xJ) : Option ((Int32 × (Option Value) × xI × xJ) ⊕ (Unit × xI × xJ)) := some (.inl (((x1 + 1)), (some (.int x2)), I, J))
def f_X6_refresh_9 (x1 : Int32) (x2 : Int32) (I : xI) (J : xJ) : Option ((Int32 × Int32 × xI × xJ) ⊕ ((Int32 × (Option Value) × xI × xJ) ⊕ (Unit × xI × xJ))) := some (.inl (x1, ((x2 + 1)), I, J))
def f_X6_refresh_8 (x1 : Int32) (x2 : Int32) (I : xI) (J : xJ) : Option ((Int32 × Int32 × xI × xJ) ⊕ ((Int32 × (Option Value) × xI × xJ) ⊕ (Unit × xI × xJ))) := (f_X6_look x1 x2 I J).bind fun o => f_X6_refresh_9 x1 x2 o.2.1 o.2.2
def b_X6_refresh_7 (x1 : Int32) (x2 : Int32) (I : xI) (J : xJ) : Option ((Int32 × Int32 × xI × xJ) ⊕ ((Int32 × (Option Value) × xI × xJ) ⊕ (Unit × xI × xJ))) := if (I 1 0) ≤ x2 then ((f_X6_refresh_10 x1 x2 I J)).map .inr else f_X6_refresh_8 x1 x2 I J
def f_X6_refresh_7 (x1 : Int32) (x2 : Int32) (I : xI) (J : xJ) : Option ((Int32 × (Option Value) × xI × xJ) ⊕ (Unit × xI × xJ)) := xloop (fun s : Int32 × Int32 × xI × xJ => b_X6_refresh_7 s.1 s.2.1 s.2.2.1 s.2.2.2) 5000 (x1, x2, I, J)
def f_X6_refresh_6 (x1 : Int32) (z2 : Option Value) (I : xI) (J : xJ) : Option ((Int32 × (Option Value) × xI × xJ) ⊕ (Unit × xI × xJ)) := f_X6_refresh_7 x1 ((x1 + 1)) I J
def b_X6_refresh_5 (x1 : Int32) (z2 : Option Value) (I : xI) (J : xJ) : Option ((Int32 × (Option Value) × xI × xJ) ⊕ (Unit × xI × xJ)) := if (I 1 0) ≤ x1 then ((f_X6_refresh_11 x1 z2 I J)).map .inr else f_X6_refresh_6 x1 z2 I J
def f_X6_refresh_5 (x1 : Int32) (z2 : Option Value) (I : xI) (J : xJ) : Option (Unit × xI × xJ) := xloop (fun s : Int32 × (Option Value) × xI × xJ => b_X6_refresh_5 s.1 s.2.1 s.2.2.1 s.2.2.2) 5000 (x1, z2, I, J)
def f_X6_refresh_4 (I : xI) (J : xJ) : Option (Unit × xI × xJ) := f_X6_refresh_5 0 none I J
def f_X6_refresh_3 (I : xI) (J : xJ) : Option (Unit × xI × xJ) := (f_J7_fill_53178_34 ((-2)) I J).bind fun o => f_X6_refresh_4 o.2.1 o.2.2
def f_X6_refresh_2 (I : xI) (J : xJ) : Option (Unit × xI × xJ) := (f_J7_fill_53178_33 0 ((xup ((xup I 32 4 ((I 1 2)))) 32 3 0)) J).bind fun o => f_X6_refresh_3 o.2.1 o.2.2
def f_X6_refresh_1 (I : xI) (J : xJ) : Option (Unit × xI × xJ) := some ((), I, J)
def f_X6_refresh_0 (I : xI) (J : xJ) : Option (Unit × xI × xJ) := if (I 32 4) = (I 1 2) then f_X6_refresh_1 I J else f_X6_refresh_2 I J
def f_X6_refresh (I : xI) (J : xJ) : Option (Unit × xI × xJ) := f_X6_refresh_0 I J
theorem p_X6_refresh_15 {L : Nat} {xs : Nat → Int32} {d : Nat} {Q : xO → Prop} (x1 : Int32) (z2 : Option Value) (I : xI) (J : xJ) {t : Unit × xI × xJ} (h : f_X6_refresh_15 x1 z2 I J = some t) (hC : (c_X6_refresh Q) t) : Rn L xs (d + 4) 69 113 [some (.ref 32), some (.int x1), z2] [] 94 (I, J, xrf) Q := by
  unfold f_X6_refresh_15 at h
  cases h
  exact Rn.ret 1 (o := (none, 94, (I, J, xrf))) (fun f => rfl) hC
theorem p_X6_refresh_14 {L : Nat} {xs : Nat → Int32} {d : Nat} {Q : xO → Prop} (x1 : Int32) (z2 : Option Value) (I : xI) (J : xJ) {t : (Int32 × (Option Value) × xI × xJ) ⊕ (Unit × xI × xJ)} (h : f_X6_refresh_14 x1 z2 I J = some t) (hC : (c_X6_refresh_12 L xs d Q) t) : Rn L xs (d + 4) 69 107 [some (.ref 32), some (.int x1), z2] [] 94 (I, J, xrf) Q := by
  unfold f_X6_refresh_14 at h
  refine Rn.go 2 (j' := 69) (pc' := 96) (ls' := [some (.ref 32), some (.int ((x1 + 1))), z2]) (st' := []) (n' := 94) (M' := (I, J, xrf)) (fun f => rfl) ?_
  cases h; exact hC
theorem p_X6_refresh_13 {L : Nat} {xs : Nat → Int32} {d : Nat} {Q : xO → Prop} (x1 : Int32) (z2 : Option Value) (I : xI) (J : xJ) {t : (Int32 × (Option Value) × xI × xJ) ⊕ (Unit × xI × xJ)} (h : f_X6_refresh_13 x1 z2 I J = some t) (hC : (c_X6_refresh_12 L xs d Q) t) : Rn L xs (d + 4) 69 102 [some (.ref 32), some (.int x1), z2] [] 94 (I, J, xrf) Q := by
  unfold f_X6_refresh_13 at h
  refine Rn.go 2 (j' := 69) (pc' := 104) (ls' := [some (.ref 32), some (.int x1), z2]) (st' := [.int x1, .ref 32]) (n' := 94) (M' := (I, J, xrf)) (fun f => rfl) ?_
  obtain ⟨o, ho, h⟩ := Option.bind_eq_some_iff.mp h
  refine Rn.call (d1 := d + 3) (j1 := 71) (ls1 := [some (.ref 32), some (.int x1), none, none]) (rest := []) (fun f => rfl) ?_
  refine p_X6_goRound (d := d + 2) x1 I J (t := o) ho ?_
  exact p_X6_refresh_14 x1 z2 o.2.1 o.2.2 h hC
theorem q_X6_refresh_12 {L : Nat} {xs : Nat → Int32} {d : Nat} {Q : xO → Prop} (x1 : Int32) (z2 : Option Value) (I : xI) (J : xJ) {t : (Int32 × (Option Value) × xI × xJ) ⊕ (Unit × xI × xJ)} (h : b_X6_refresh_12 x1 z2 I J = some t) (hC : (c_X6_refresh_12 L xs d Q) t) : Rn L xs (d + 4) 69 96 [some (.ref 32), some (.int x1), z2] [] 94 (I, J, xrf) Q := by
  unfold b_X6_refresh_12 at h
  refine Rn.fi 3 (c := 15 < x1) (p1 := 113) (l1 := [some (.ref 32), some (.int x1), z2]) (s1 := []) (n1 := 94) (M1 := (I, J, xrf)) (p2 := 102) (l2 := [some (.ref 32), some (.int x1), z2]) (s2 := []) (n2 := 94) (M2 := (I, J, xrf)) (fun f => rfl) (fun hc => ?_) (fun hc => ?_)
  · rw [if_pos hc] at h
    obtain ⟨t0, h0, rfl⟩ := Option.map_eq_some_iff.mp h
    exact p_X6_refresh_15 x1 z2 I J h0 hC
  · rw [if_neg hc] at h
    exact p_X6_refresh_13 x1 z2 I J h hC
theorem p_X6_refresh_12 {L : Nat} {xs : Nat → Int32} {d : Nat} {Q : xO → Prop} (x1 : Int32) (z2 : Option Value) (I : xI) (J : xJ) {t : Unit × xI × xJ} (h : f_X6_refresh_12 x1 z2 I J = some t) (hC : (c_X6_refresh Q) t) : Rn L xs (d + 4) 69 96 [some (.ref 32), some (.int x1), z2] [] 94 (I, J, xrf) Q := by
  unfold f_X6_refresh_12 at h
  exact xloop_some (P := fun s : Int32 × (Option Value) × xI × xJ => Rn L xs (d + 4) 69 96 [some (.ref 32), some (.int s.1), s.2.1] [] 94 (s.2.2.1, s.2.2.2, xrf) Q) t (fun s ⟨s', hb, hp⟩ => q_X6_refresh_12 s.1 s.2.1 s.2.2.1 s.2.2.2 hb hp) (fun s hb => q_X6_refresh_12 s.1 s.2.1 s.2.2.1 s.2.2.2 hb hC) _ _ h
theorem p_X6_refresh_11 {L : Nat} {xs : Nat → Int32} {d : Nat} {Q : xO → Prop} (x1 : Int32) (z2 : Option Value) (I : xI) (J : xJ) {t : Unit × xI × xJ} (h : f_X6_refresh_11 x1 z2 I J = some t) (hC : (c_X6_refresh Q) t) : Rn L xs (d + 4) 69 94 [some (.ref 32), some (.int x1), z2] [] 94 (I, J, xrf) Q := by
  unfold f_X6_refresh_11 at h
  refine Rn.go 2 (j' := 69) (pc' := 96) (ls' := [some (.ref 32), some (.int 1), z2]) (st' := []) (n' := 94) (M' := (I, J, xrf)) (fun f => rfl) ?_
  exact p_X6_refresh_12 1 z2 I J h hC
theorem p_X6_refresh_10 {L : Nat} {xs : Nat → Int32} {d : Nat} {Q : xO → Prop} (x1 : Int32) (x2 : Int32) (I : xI) (J : xJ) {t : (Int32 × (Option Value) × xI × xJ) ⊕ (Unit × xI × xJ)} (h : f_X6_refresh_10 x1 x2 I J = some t) (hC : (c_X6_refresh_5 L xs d Q) t) : Rn L xs (d + 4) 69 88 [some (.ref 32), some (.int x1), some (.int x2)] [] 94 (I, J, xrf) Q := by
  unfold f_X6_refresh_10 at h
  refine Rn.go 2 (j' := 69) (pc' := 50) (ls' := [some (.ref 32), some (.int ((x1 + 1))), some (.int x2)]) (st' := []) (n' := 94) (M' := (I, J, xrf)) (fun f => rfl) ?_
  cases h; exact hC
theorem p_X6_refresh_9 {L : Nat} {xs : Nat → Int32} {d : Nat} {Q : xO → Prop} (x1 : Int32) (x2 : Int32) (I : xI) (J : xJ) {t : (Int32 × Int32 × xI × xJ) ⊕ ((Int32 × (Option Value) × xI × xJ) ⊕ (Unit × xI × xJ))} (h : f_X6_refresh_9 x1 x2 I J = some t) (hC : (c_X6_refresh_7 L xs d Q) t) : Rn L xs (d + 4) 69 82 [some (.ref 32), some (.int x1), some (.int x2)] [] 94 (I, J, xrf) Q := by
  unfold f_X6_refresh_9 at h
  refine Rn.go 2 (j' := 69) (pc' := 65) (ls' := [some (.ref 32), some (.int x1), some (.int ((x2 + 1)))]) (st' := []) (n' := 94) (M' := (I, J, xrf)) (fun f => rfl) ?_
  cases h; exact hC
theorem p_X6_refresh_8 {L : Nat} {xs : Nat → Int32} {d : Nat} {Q : xO → Prop} (x1 : Int32) (x2 : Int32) (I : xI) (J : xJ) {t : (Int32 × Int32 × xI × xJ) ⊕ ((Int32 × (Option Value) × xI × xJ) ⊕ (Unit × xI × xJ))} (h : f_X6_refresh_8 x1 x2 I J = some t) (hC : (c_X6_refresh_7 L xs d Q) t) : Rn L xs (d + 4) 69 76 [some (.ref 32), some (.int x1), some (.int x2)] [] 94 (I, J, xrf) Q := by
  unfold f_X6_refresh_8 at h
  refine Rn.go 3 (j' := 69) (pc' := 79) (ls' := [some (.ref 32), some (.int x1), some (.int x2)]) (st' := [.int x2, .int x1, .ref 32]) (n' := 94) (M' := (I, J, xrf)) (fun f => rfl) ?_
  obtain ⟨o, ho, h⟩ := Option.bind_eq_some_iff.mp h
  refine Rn.call (d1 := d + 3) (j1 := 70) (ls1 := [some (.ref 32), some (.int x1), some (.int x2), none, none]) (rest := []) (fun f => rfl) ?_
  refine p_X6_look (d := d + 0) x1 x2 I J (t := o) ho ?_
  exact p_X6_refresh_9 x1 x2 o.2.1 o.2.2 h hC
theorem q_X6_refresh_7 {L : Nat} {xs : Nat → Int32} {d : Nat} {Q : xO → Prop} (x1 : Int32) (x2 : Int32) (I : xI) (J : xJ) {t : (Int32 × Int32 × xI × xJ) ⊕ ((Int32 × (Option Value) × xI × xJ) ⊕ (Unit × xI × xJ))} (h : b_X6_refresh_7 x1 x2 I J = some t) (hC : (c_X6_refresh_7 L xs d Q) t) : Rn L xs (d + 4) 69 65 [some (.ref 32), some (.int x1), some (.int x2)] [] 94 (I, J, xrf) Q := by
  unfold b_X6_refresh_7 at h
  refine Rn.fi 5 (c := (I 1 0) ≤ x2) (p1 := 88) (l1 := [some (.ref 32), some (.int x1), some (.int x2)]) (s1 := []) (n1 := 94) (M1 := (I, J, xrf)) (p2 := 76) (l2 := [some (.ref 32), some (.int x1), some (.int x2)]) (s2 := []) (n2 := 94) (M2 := (I, J, xrf)) (fun f => rfl) (fun hc => ?_) (fun hc => ?_)
  · rw [if_pos hc] at h
    obtain ⟨t0, h0, rfl⟩ := Option.map_eq_some_iff.mp h
    exact p_X6_refresh_10 x1 x2 I J h0 hC
  · rw [if_neg hc] at h
    exact p_X6_refresh_8 x1 x2 I J h hC
theorem p_X6_refresh_7 {L : Nat} {xs : Nat → Int32} {d : Nat} {Q : xO → Prop} (x1 : Int32) (x2 : Int32) (I : xI) (J : xJ) {t : (Int32 × (Option Value) × xI × xJ) ⊕ (Unit × xI × xJ)} (h : f_X6_refresh_7 x1 x2 I J = some t) (hC : (c_X6_refresh_5 L xs d Q) t) : Rn L xs (d + 4) 69 65 [some (.ref 32), some (.int x1), some (.int x2)] [] 94 (I, J, xrf) Q := by
  unfold f_X6_refresh_7 at h
  exact xloop_some (P := fun s : Int32 × Int32 × xI × xJ => Rn L xs (d + 4) 69 65 [some (.ref 32), some (.int s.1), some (.int s.2.1)] [] 94 (s.2.2.1, s.2.2.2, xrf) Q) t (fun s ⟨s', hb, hp⟩ => q_X6_refresh_7 s.1 s.2.1 s.2.2.1 s.2.2.2 hb hp) (fun s hb => q_X6_refresh_7 s.1 s.2.1 s.2.2.1 s.2.2.2 hb hC) _ _ h
theorem p_X6_refresh_6 {L : Nat} {xs : Nat → Int32} {d : Nat} {Q : xO → Prop} (x1 : Int32) (z2 : Option Value) (I : xI) (J : xJ) {t : (Int32 × (Option Value) × xI × xJ) ⊕ (Unit × xI × xJ)} (h : f_X6_refresh_6 x1 z2 I J = some t) (hC : (c_X6_refresh_5 L xs d Q) t) : Rn L xs (d + 4) 69 61 [some (.ref 32), some (.int x1), z2] [] 94 (I, J, xrf) Q := by
  unfold f_X6_refresh_6 at h
  refine Rn.go 4 (j' := 69) (pc' := 65) (ls' := [some (.ref 32), some (.int x1), some (.int ((x1 + 1)))]) (st' := []) (n' := 94) (M' := (I, J, xrf)) (fun f => rfl) ?_
  exact p_X6_refresh_7 x1 ((x1 + 1)) I J h hC
theorem q_X6_refresh_5 {L : Nat} {xs : Nat → Int32} {d : Nat} {Q : xO → Prop} (x1 : Int32) (z2 : Option Value) (I : xI) (J : xJ) {t : (Int32 × (Option Value) × xI × xJ) ⊕ (Unit × xI × xJ)} (h : b_X6_refresh_5 x1 z2 I J = some t) (hC : (c_X6_refresh_5 L xs d Q) t) : Rn L xs (d + 4) 69 50 [some (.ref 32), some (.int x1), z2] [] 94 (I, J, xrf) Q := by
  unfold b_X6_refresh_5 at h
  refine Rn.fi 5 (c := (I 1 0) ≤ x1) (p1 := 94) (l1 := [some (.ref 32), some (.int x1), z2]) (s1 := []) (n1 := 94) (M1 := (I, J, xrf)) (p2 := 61) (l2 := [some (.ref 32), some (.int x1), z2]) (s2 := []) (n2 := 94) (M2 := (I, J, xrf)) (fun f => rfl) (fun hc => ?_) (fun hc => ?_)
  · rw [if_pos hc] at h
    obtain ⟨t0, h0, rfl⟩ := Option.map_eq_some_iff.mp h
    exact p_X6_refresh_11 x1 z2 I J h0 hC
  · rw [if_neg hc] at h
    exact p_X6_refresh_6 x1 z2 I J h hC
theorem p_X6_refresh_5 {L : Nat} {xs : Nat → Int32} {d : Nat} {Q : xO → Prop} (x1 : Int32) (z2 : Option Value) (I : xI) (J : xJ) {t : Unit × xI × xJ} (h : f_X6_refresh_5 x1 z2 I J = some t) (hC : (c_X6_refresh Q) t) : Rn L xs (d + 4) 69 50 [some (.ref 32), some (.int x1), z2] [] 94 (I, J, xrf) Q := by
  unfold f_X6_refresh_5 at h
  exact xloop_some (P := fun s : Int32 × (Option Value) × xI × xJ => Rn L xs (d + 4) 69 50 [some (.ref 32), some (.int s.1), s.2.1] [] 94 (s.2.2.1, s.2.2.2, xrf) Q) t (fun s ⟨s', hb, hp⟩ => q_X6_refresh_5 s.1 s.2.1 s.2.2.1 s.2.2.2 hb hp) (fun s hb => q_X6_refresh_5 s.1 s.2.1 s.2.2.1 s.2.2.2 hb hC) _ _ h
theorem p_X6_refresh_4 {L : Nat} {xs : Nat → Int32} {d : Nat} {Q : xO → Prop} (I : xI) (J : xJ) {t : Unit × xI × xJ} (h : f_X6_refresh_4 I J = some t) (hC : (c_X6_refresh Q) t) : Rn L xs (d + 4) 69 48 [some (.ref 32), none, none] [] 94 (I, J, xrf) Q := by
  unfold f_X6_refresh_4 at h
  refine Rn.go 2 (j' := 69) (pc' := 50) (ls' := [some (.ref 32), some (.int 0), none]) (st' := []) (n' := 94) (M' := (I, J, xrf)) (fun f => rfl) ?_
  exact p_X6_refresh_5 0 none I J h hC
theorem p_X6_refresh_3 {L : Nat} {xs : Nat → Int32} {d : Nat} {Q : xO → Prop} (I : xI) (J : xJ) {t : Unit × xI × xJ} (h : f_X6_refresh_3 I J = some t) (hC : (c_X6_refresh Q) t) : Rn L xs (d + 4) 69 39 [some (.ref 32), none, none] [] 94 (I, J, xrf) Q := by
  unfold f_X6_refresh_3 at h
  refine Rn.go 3 (j' := 69) (pc' := 45) (ls' := [some (.ref 32), none, none]) (st' := [.int ((-2)), .ref 34]) (n' := 94) (M' := (I, J, xrf)) (fun f => rfl) ?_
  obtain ⟨o, ho, h⟩ := Option.bind_eq_some_iff.mp h
  refine Rn.call (d1 := d + 3) (j1 := 307) (ls1 := [some (.ref 34), some (.int ((-2))), none, none]) (rest := []) (fun f => rfl) ?_
  refine p_J7_fill_53178_34 (d := d + 2) ((-2)) I J (t := o) ho ?_
  exact p_X6_refresh_4 o.2.1 o.2.2 h hC
theorem p_X6_refresh_2 {L : Nat} {xs : Nat → Int32} {d : Nat} {Q : xO → Prop} (I : xI) (J : xJ) {t : Unit × xI × xJ} (h : f_X6_refresh_2 I J = some t) (hC : (c_X6_refresh Q) t) : Rn L xs (d + 4) 69 15 [some (.ref 32), none, none] [] 94 (I, J, xrf) Q := by
  unfold f_X6_refresh_2 at h
  refine Rn.go 11 (j' := 69) (pc' := 36) (ls' := [some (.ref 32), none, none]) (st' := [.int 0, .ref 33]) (n' := 94) (M' := ((xup ((xup I 32 4 ((I 1 2)))) 32 3 0), J, xrf)) (fun f => rfl) ?_
  obtain ⟨o, ho, h⟩ := Option.bind_eq_some_iff.mp h
  refine Rn.call (d1 := d + 3) (j1 := 307) (ls1 := [some (.ref 33), some (.int 0), none, none]) (rest := []) (fun f => rfl) ?_
  refine p_J7_fill_53178_33 (d := d + 2) 0 ((xup ((xup I 32 4 ((I 1 2)))) 32 3 0)) J (t := o) ho ?_
  exact p_X6_refresh_3 o.2.1 o.2.2 h hC
theorem p_X6_refresh_1 {L : Nat} {xs : Nat → Int32} {d : Nat} {Q : xO → Prop} (I : xI) (J : xJ) {t : Unit × xI × xJ} (h : f_X6_refresh_1 I J = some t) (hC : (c_X6_refresh Q) t) : Rn L xs (d + 4) 69 14 [some (.ref 32), none, none] [] 94 (I, J, xrf) Q := by
  unfold f_X6_refresh_1 at h
  cases h
  exact Rn.ret 1 (o := (none, 94, (I, J, xrf))) (fun f => rfl) hC
theorem p_X6_refresh_0 {L : Nat} {xs : Nat → Int32} {d : Nat} {Q : xO → Prop} (I : xI) (J : xJ) {t : Unit × xI × xJ} (h : f_X6_refresh_0 I J = some t) (hC : (c_X6_refresh Q) t) : Rn L xs (d + 4) 69 0 [some (.ref 32), none, none] [] 94 (I, J, xrf) Q := by
  unfold f_X6_refresh_0 at h
  refine Rn.fi 6 (c := (I 32 4) = (I 1 2)) (p1 := 14) (l1 := [some (.ref 32), none, none]) (s1 := []) (n1 := 94) (M1 := (I, J, xrf)) (p2 := 15) (l2 := [some (.ref 32), none, none]) (s2 := []) (n2 := 94) (M2 := (I, J, xrf)) (fun f => rfl) (fun hc => ?_) (fun hc => ?_)
  · rw [if_pos hc] at h
    exact p_X6_refresh_1 I J h hC
  · rw [if_neg hc] at h
    exact p_X6_refresh_2 I J h hC
theorem p_X6_refresh {L : Nat} {xs : Nat → Int32} {d : Nat} {Q : xO → Prop} (I : xI) (J : xJ) {t : Unit × xI × xJ} (h : f_X6_refresh I J = some t) (hC : Q (none, 94, (t.2.1, t.2.2, xrf))) : Rn L xs (d + 4) 69 0 [some (.ref 32), none, none] [] 94 (I, J, xrf) Q := p_X6_refresh_0 I J h hC
/-! X11_pairsNow -/
def c_X11_pairsNow (Q : xO → Prop) (t : Unit × xI × xJ) : Prop := Q ((some (.ref 32)), 94, (t.2.1, t.2.2, xrf))
def f_X11_pairsNow_1 (I : xI) (J : xJ) : Option (Unit × xI × xJ) := some ((), I, J)
def f_X11_pairsNow_0 (I : xI) (J : xJ) : Option (Unit × xI × xJ) := (f_X6_refresh I J).bind fun o => f_X11_pairsNow_1 o.2.1 o.2.2
def f_X11_pairsNow (I : xI) (J : xJ) : Option (Unit × xI × xJ) := f_X11_pairsNow_0 I J
theorem p_X11_pairsNow_1 {L : Nat} {xs : Nat → Int32} {d : Nat} {Q : xO → Prop} (I : xI) (J : xJ) {t : Unit × xI × xJ} (h : f_X11_pairsNow_1 I J = some t) (hC : (c_X11_pairsNow Q) t) : Rn L xs (d + 5) 176 7 [some (.ref 0)] [] 94 (I, J, xrf) Q := by
  unfold f_X11_pairsNow_1 at h
  cases h
  exact Rn.ret 3 (o := ((some (.ref 32)), 94, (I, J, xrf))) (fun f => rfl) hC
theorem p_X11_pairsNow_0 {L : Nat} {xs : Nat → Int32} {d : Nat} {Q : xO → Prop} (I : xI) (J : xJ) {t : Unit × xI × xJ} (h : f_X11_pairsNow_0 I J = some t) (hC : (c_X11_pairsNow Q) t) : Rn L xs (d + 5) 176 0 [some (.ref 0)] [] 94 (I, J, xrf) Q := by
  unfold f_X11_pairsNow_0 at h
  refine Rn.go 2 (j' := 176) (pc' := 4) (ls' := [some (.ref 0)]) (st' := [.ref 32]) (n' := 94) (M' := (I, J, xrf)) (fun f => rfl) ?_
  obtain ⟨o, ho, h⟩ := Option.bind_eq_some_iff.mp h
  refine Rn.call (d1 := d + 4) (j1 := 69) (ls1 := [some (.ref 32), none, none]) (rest := []) (fun f => rfl) ?_
  refine p_X6_refresh (d := d + 0) I J (t := o) ho ?_
  exact p_X11_pairsNow_1 o.2.1 o.2.2 h hC
theorem p_X11_pairsNow {L : Nat} {xs : Nat → Int32} {d : Nat} {Q : xO → Prop} (I : xI) (J : xJ) {t : Unit × xI × xJ} (h : f_X11_pairsNow I J = some t) (hC : Q ((some (.ref 32)), 94, (t.2.1, t.2.2, xrf))) : Rn L xs (d + 5) 176 0 [some (.ref 0)] [] 94 (I, J, xrf) Q := p_X11_pairsNow_0 I J h hC
/-! X6_roundIn -/
def c_X6_roundIn (Q : xO → Prop) (t : Int32 × xI × xJ) : Prop := Q ((some (.int t.1)), 94, (t.2.1, t.2.2, xrf))
def f_X6_roundIn_4 (x1 : Int32) (s0 : Int32) (I : xI) (J : xJ) : Option (Int32 × xI × xJ) := some (s0, I, J)
def f_X6_roundIn_3 (x1 : Int32) (s1 : Int32) (I : xI) (J : xJ) : Option (Int32 × xI × xJ) := if s1 < 0 ∨ 15 ≤ s1.toNatClampNeg then none else f_X6_roundIn_4 x1 ((I 34 s1.toNatClampNeg)) I J
def f_X6_roundIn_2 (x1 : Int32) (I : xI) (J : xJ) : Option (Int32 × xI × xJ) := (f_J6_numberOfTrailingZeros_0f7a4 x1 I J).bind fun o => f_X6_roundIn_3 x1 o.1 o.2.1 o.2.2
def f_X6_roundIn_1 (x1 : Int32) (I : xI) (J : xJ) : Option (Int32 × xI × xJ) := f_X6_roundIn_4 x1 ((-2)) I J
def f_X6_roundIn_0 (x1 : Int32) (I : xI) (J : xJ) : Option (Int32 × xI × xJ) := if x1 = 0 then f_X6_roundIn_1 x1 I J else f_X6_roundIn_2 x1 I J
def f_X6_roundIn (x1 : Int32) (I : xI) (J : xJ) : Option (Int32 × xI × xJ) := f_X6_roundIn_0 x1 I J
theorem p_X6_roundIn_4 {L : Nat} {xs : Nat → Int32} {d : Nat} {Q : xO → Prop} (x1 : Int32) (s0 : Int32) (I : xI) (J : xJ) {t : Int32 × xI × xJ} (h : f_X6_roundIn_4 x1 s0 I J = some t) (hC : (c_X6_roundIn Q) t) : Rn L xs (d + 2) 77 18 [some (.ref 32), some (.int x1)] [.int s0] 94 (I, J, xrf) Q := by
  unfold f_X6_roundIn_4 at h
  cases h
  exact Rn.ret 1 (o := ((some (.int s0)), 94, (I, J, xrf))) (fun f => rfl) hC
theorem p_X6_roundIn_3 {L : Nat} {xs : Nat → Int32} {d : Nat} {Q : xO → Prop} (x1 : Int32) (s1 : Int32) (I : xI) (J : xJ) {t : Int32 × xI × xJ} (h : f_X6_roundIn_3 x1 s1 I J = some t) (hC : (c_X6_roundIn Q) t) : Rn L xs (d + 2) 77 17 [some (.ref 32), some (.int x1)] [.int s1, .ref 34] 94 (I, J, xrf) Q := by
  unfold f_X6_roundIn_3 at h
  obtain ⟨hc, h⟩ := xif h
  refine Rn.ok 1 (c := s1 < 0 ∨ 15 ≤ s1.toNatClampNeg) (p1 := 18) (l1 := [some (.ref 32), some (.int x1)]) (s1 := [.int ((I 34 s1.toNatClampNeg))]) (n1 := 94) (M1 := (I, J, xrf)) (fun f => rfl) hc ?_
  exact p_X6_roundIn_4 x1 ((I 34 s1.toNatClampNeg)) I J h hC
theorem p_X6_roundIn_2 {L : Nat} {xs : Nat → Int32} {d : Nat} {Q : xO → Prop} (x1 : Int32) (I : xI) (J : xJ) {t : Int32 × xI × xJ} (h : f_X6_roundIn_2 x1 I J = some t) (hC : (c_X6_roundIn Q) t) : Rn L xs (d + 2) 77 9 [some (.ref 32), some (.int x1)] [] 94 (I, J, xrf) Q := by
  unfold f_X6_roundIn_2 at h
  refine Rn.go 3 (j' := 77) (pc' := 14) (ls' := [some (.ref 32), some (.int x1)]) (st' := [.int x1, .ref 34]) (n' := 94) (M' := (I, J, xrf)) (fun f => rfl) ?_
  obtain ⟨o, ho, h⟩ := Option.bind_eq_some_iff.mp h
  refine Rn.call (d1 := d + 1) (j1 := 298) (ls1 := [some (.int x1), none]) (rest := [.ref 34]) (fun f => rfl) ?_
  refine p_J6_numberOfTrailingZeros_0f7a4 (d := d + 0) x1 I J (t := o) ho ?_
  exact p_X6_roundIn_3 x1 o.1 o.2.1 o.2.2 h hC
theorem p_X6_roundIn_1 {L : Nat} {xs : Nat → Int32} {d : Nat} {Q : xO → Prop} (x1 : Int32) (I : xI) (J : xJ) {t : Int32 × xI × xJ} (h : f_X6_roundIn_1 x1 I J = some t) (hC : (c_X6_roundIn Q) t) : Rn L xs (d + 2) 77 4 [some (.ref 32), some (.int x1)] [] 94 (I, J, xrf) Q := by
  unfold f_X6_roundIn_1 at h
  refine Rn.go 2 (j' := 77) (pc' := 18) (ls' := [some (.ref 32), some (.int x1)]) (st' := [.int ((-2))]) (n' := 94) (M' := (I, J, xrf)) (fun f => rfl) ?_
  exact p_X6_roundIn_4 x1 ((-2)) I J h hC
theorem p_X6_roundIn_0 {L : Nat} {xs : Nat → Int32} {d : Nat} {Q : xO → Prop} (x1 : Int32) (I : xI) (J : xJ) {t : Int32 × xI × xJ} (h : f_X6_roundIn_0 x1 I J = some t) (hC : (c_X6_roundIn Q) t) : Rn L xs (d + 2) 77 0 [some (.ref 32), some (.int x1)] [] 94 (I, J, xrf) Q := by
  unfold f_X6_roundIn_0 at h
  refine Rn.fi 2 (c := x1 = 0) (p1 := 4) (l1 := [some (.ref 32), some (.int x1)]) (s1 := []) (n1 := 94) (M1 := (I, J, xrf)) (p2 := 9) (l2 := [some (.ref 32), some (.int x1)]) (s2 := []) (n2 := 94) (M2 := (I, J, xrf)) (fun f => rfl) (fun hc => ?_) (fun hc => ?_)
  · rw [if_pos hc] at h
    exact p_X6_roundIn_1 x1 I J h hC
  · rw [if_neg hc] at h
    exact p_X6_roundIn_2 x1 I J h hC
theorem p_X6_roundIn {L : Nat} {xs : Nat → Int32} {d : Nat} {Q : xO → Prop} (x1 : Int32) (I : xI) (J : xJ) {t : Int32 × xI × xJ} (h : f_X6_roundIn x1 I J = some t) (hC : Q ((some (.int t.1)), 94, (t.2.1, t.2.2, xrf))) : Rn L xs (d + 2) 77 0 [some (.ref 32), some (.int x1)] [] 94 (I, J, xrf) Q := p_X6_roundIn_0 x1 I J h hC
/-! X6_roundOf -/
def c_X6_roundOf (Q : xO → Prop) (t : Int32 × xI × xJ) : Prop := Q ((some (.int t.1)), 94, (t.2.1, t.2.2, xrf))
def f_X6_roundOf_2 (x1 : Int32) (x2 : Int32) (s0 : Int32) (I : xI) (J : xJ) : Option (Int32 × xI × xJ) := some (s0, I, J)
def f_X6_roundOf_1 (x1 : Int32) (x2 : Int32) (s1 : Int32) (I : xI) (J : xJ) : Option (Int32 × xI × xJ) := (f_X6_roundIn s1 I J).bind fun o => f_X6_roundOf_2 x1 x2 o.1 o.2.1 o.2.2
def f_X6_roundOf_0 (x1 : Int32) (x2 : Int32) (I : xI) (J : xJ) : Option (Int32 × xI × xJ) := (f_X11_pairOf x1 x2 I J).bind fun o => f_X6_roundOf_1 x1 x2 o.1 o.2.1 o.2.2
def f_X6_roundOf (x1 : Int32) (x2 : Int32) (I : xI) (J : xJ) : Option (Int32 × xI × xJ) := f_X6_roundOf_0 x1 x2 I J
theorem p_X6_roundOf_2 {L : Nat} {xs : Nat → Int32} {d : Nat} {Q : xO → Prop} (x1 : Int32) (x2 : Int32) (s0 : Int32) (I : xI) (J : xJ) {t : Int32 × xI × xJ} (h : f_X6_roundOf_2 x1 x2 s0 I J = some t) (hC : (c_X6_roundOf Q) t) : Rn L xs (d + 3) 76 9 [some (.ref 32), some (.int x1), some (.int x2)] [.int s0] 94 (I, J, xrf) Q := by
  unfold f_X6_roundOf_2 at h
  cases h
  exact Rn.ret 1 (o := ((some (.int s0)), 94, (I, J, xrf))) (fun f => rfl) hC
theorem p_X6_roundOf_1 {L : Nat} {xs : Nat → Int32} {d : Nat} {Q : xO → Prop} (x1 : Int32) (x2 : Int32) (s1 : Int32) (I : xI) (J : xJ) {t : Int32 × xI × xJ} (h : f_X6_roundOf_1 x1 x2 s1 I J = some t) (hC : (c_X6_roundOf Q) t) : Rn L xs (d + 3) 76 6 [some (.ref 32), some (.int x1), some (.int x2)] [.int s1, .ref 32] 94 (I, J, xrf) Q := by
  unfold f_X6_roundOf_1 at h
  obtain ⟨o, ho, h⟩ := Option.bind_eq_some_iff.mp h
  refine Rn.call (d1 := d + 2) (j1 := 77) (ls1 := [some (.ref 32), some (.int s1)]) (rest := []) (fun f => rfl) ?_
  refine p_X6_roundIn (d := d + 0) s1 I J (t := o) ho ?_
  exact p_X6_roundOf_2 x1 x2 o.1 o.2.1 o.2.2 h hC
theorem p_X6_roundOf_0 {L : Nat} {xs : Nat → Int32} {d : Nat} {Q : xO → Prop} (x1 : Int32) (x2 : Int32) (I : xI) (J : xJ) {t : Int32 × xI × xJ} (h : f_X6_roundOf_0 x1 x2 I J = some t) (hC : (c_X6_roundOf Q) t) : Rn L xs (d + 3) 76 0 [some (.ref 32), some (.int x1), some (.int x2)] [] 94 (I, J, xrf) Q := by
  unfold f_X6_roundOf_0 at h
  refine Rn.go 3 (j' := 76) (pc' := 3) (ls' := [some (.ref 32), some (.int x1), some (.int x2)]) (st' := [.int x2, .int x1, .ref 32]) (n' := 94) (M' := (I, J, xrf)) (fun f => rfl) ?_
  obtain ⟨o, ho, h⟩ := Option.bind_eq_some_iff.mp h
  refine Rn.call (d1 := d + 2) (j1 := 181) (ls1 := [some (.int x1), some (.int x2), none]) (rest := [.ref 32]) (fun f => rfl) ?_
  refine p_X11_pairOf (d := d + 1) x1 x2 I J (t := o) ho ?_
  exact p_X6_roundOf_1 x1 x2 o.1 o.2.1 o.2.2 h hC
theorem p_X6_roundOf {L : Nat} {xs : Nat → Int32} {d : Nat} {Q : xO → Prop} (x1 : Int32) (x2 : Int32) (I : xI) (J : xJ) {t : Int32 × xI × xJ} (h : f_X6_roundOf x1 x2 I J = some t) (hC : Q ((some (.int t.1)), 94, (t.2.1, t.2.2, xrf))) : Rn L xs (d + 3) 76 0 [some (.ref 32), some (.int x1), some (.int x2)] [] 94 (I, J, xrf) Q := p_X6_roundOf_0 x1 x2 I J h hC
/-! X11_apart -/
def c_X11_apart (Q : xO → Prop) (t : Int32 × xI × xJ) : Prop := Q ((some (.int t.1)), 94, (t.2.1, t.2.2, xrf))
def f_X11_apart_6 (x1 : Int32) (x2 : Int32) (x3 : Int32) (I : xI) (J : xJ) : Option (Int32 × xI × xJ) := some ((-1), I, J)
def f_X11_apart_14 (x1 : Int32) (x2 : Int32) (x3 : Int32) (x4 : Int32) (s0 : Int32) (I : xI) (J : xJ) : Option (Int32 × xI × xJ) := some (s0, I, J)
def f_X11_apart_13 (x1 : Int32) (x2 : Int32) (x3 : Int32) (x4 : Int32) (I : xI) (J : xJ) : Option (Int32 × xI × xJ) := f_X11_apart_14 x1 x2 x3 x4 1 I J
def f_X11_apart_12 (x1 : Int32) (x2 : Int32) (x3 : Int32) (x4 : Int32) (I : xI) (J : xJ) : Option (Int32 × xI × xJ) := f_X11_apart_14 x1 x2 x3 x4 0 I J
def f_X11_apart_11 (x1 : Int32) (x2 : Int32) (x3 : Int32) (x4 : Int32) (I : xI) (J : xJ) : Option (Int32 × xI × xJ) := if x4 = (-2) then f_X11_apart_12 x1 x2 x3 x4 I J else f_X11_apart_13 x1 x2 x3 x4 I J
def f_X11_apart_10 (x1 : Int32) (x2 : Int32) (x3 : Int32) (x4 : Int32) (I : xI) (J : xJ) : Option (Int32 × xI × xJ) := some (x4, I, J)
def f_X11_apart_9 (x1 : Int32) (x2 : Int32) (x3 : Int32) (s0 : Int32) (I : xI) (J : xJ) : Option (Int32 × xI × xJ) := if x3 = 1 then f_X11_apart_10 x1 x2 x3 s0 I J else f_X11_apart_11 x1 x2 x3 s0 I J
def f_X11_apart_8 (x1 : Int32) (x2 : Int32) (x3 : Int32) (I : xI) (J : xJ) : Option (Int32 × xI × xJ) := (f_X6_roundOf x1 x2 I J).bind fun o => f_X11_apart_9 x1 x2 x3 o.1 o.2.1 o.2.2
def f_X11_apart_7 (x1 : Int32) (x2 : Int32) (x3 : Int32) (I : xI) (J : xJ) : Option (Int32 × xI × xJ) := (f_X11_pairsNow I J).bind fun o => f_X11_apart_8 x1 x2 x3 o.2.1 o.2.2
def f_X11_apart_5 (x1 : Int32) (x2 : Int32) (x3 : Int32) (I : xI) (J : xJ) : Option (Int32 × xI × xJ) := if x3 ≤ 1 then f_X11_apart_7 x1 x2 x3 I J else f_X11_apart_6 x1 x2 x3 I J
def f_X11_apart_4 (x1 : Int32) (x2 : Int32) (x3 : Int32) (I : xI) (J : xJ) : Option (Int32 × xI × xJ) := if x3 < 0 then f_X11_apart_6 x1 x2 x3 I J else f_X11_apart_5 x1 x2 x3 I J
def f_X11_apart_3 (x1 : Int32) (x2 : Int32) (x3 : Int32) (s0 : Int32) (I : xI) (J : xJ) : Option (Int32 × xI × xJ) := if s0 = 0 then f_X11_apart_6 x1 x2 x3 I J else f_X11_apart_4 x1 x2 x3 I J
def f_X11_apart_2 (x1 : Int32) (x2 : Int32) (x3 : Int32) (I : xI) (J : xJ) : Option (Int32 × xI × xJ) := (f_X5_hasState x2 I J).bind fun o => f_X11_apart_3 x1 x2 x3 o.1 o.2.1 o.2.2
def f_X11_apart_1 (x1 : Int32) (x2 : Int32) (x3 : Int32) (s0 : Int32) (I : xI) (J : xJ) : Option (Int32 × xI × xJ) := if s0 = 0 then f_X11_apart_6 x1 x2 x3 I J else f_X11_apart_2 x1 x2 x3 I J
def f_X11_apart_0 (x1 : Int32) (x2 : Int32) (x3 : Int32) (I : xI) (J : xJ) : Option (Int32 × xI × xJ) := (f_X5_hasState x1 I J).bind fun o => f_X11_apart_1 x1 x2 x3 o.1 o.2.1 o.2.2
def f_X11_apart (x1 : Int32) (x2 : Int32) (x3 : Int32) (I : xI) (J : xJ) : Option (Int32 × xI × xJ) := f_X11_apart_0 x1 x2 x3 I J
theorem p_X11_apart_6 {L : Nat} {xs : Nat → Int32} {d : Nat} {Q : xO → Prop} (x1 : Int32) (x2 : Int32) (x3 : Int32) (I : xI) (J : xJ) {t : Int32 × xI × xJ} (h : f_X11_apart_6 x1 x2 x3 I J = some t) (hC : (c_X11_apart Q) t) : Rn L xs (d + 6) 146 31 [some (.ref 0), some (.int x1), some (.int x2), some (.int x3), none] [] 94 (I, J, xrf) Q := by
  unfold f_X11_apart_6 at h
  cases h
  exact Rn.ret 2 (o := ((some (.int ((-1)))), 94, (I, J, xrf))) (fun f => rfl) hC
theorem p_X11_apart_14 {L : Nat} {xs : Nat → Int32} {d : Nat} {Q : xO → Prop} (x1 : Int32) (x2 : Int32) (x3 : Int32) (x4 : Int32) (s0 : Int32) (I : xI) (J : xJ) {t : Int32 × xI × xJ} (h : f_X11_apart_14 x1 x2 x3 x4 s0 I J = some t) (hC : (c_X11_apart Q) t) : Rn L xs (d + 6) 146 64 [some (.ref 0), some (.int x1), some (.int x2), some (.int x3), some (.int x4)] [.int s0] 94 (I, J, xrf) Q := by
  unfold f_X11_apart_14 at h
  cases h
  exact Rn.ret 1 (o := ((some (.int s0)), 94, (I, J, xrf))) (fun f => rfl) hC
theorem p_X11_apart_13 {L : Nat} {xs : Nat → Int32} {d : Nat} {Q : xO → Prop} (x1 : Int32) (x2 : Int32) (x3 : Int32) (x4 : Int32) (I : xI) (J : xJ) {t : Int32 × xI × xJ} (h : f_X11_apart_13 x1 x2 x3 x4 I J = some t) (hC : (c_X11_apart Q) t) : Rn L xs (d + 6) 146 63 [some (.ref 0), some (.int x1), some (.int x2), some (.int x3), some (.int x4)] [] 94 (I, J, xrf) Q := by
  unfold f_X11_apart_13 at h
  refine Rn.go 1 (j' := 146) (pc' := 64) (ls' := [some (.ref 0), some (.int x1), some (.int x2), some (.int x3), some (.int x4)]) (st' := [.int 1]) (n' := 94) (M' := (I, J, xrf)) (fun f => rfl) ?_
  exact p_X11_apart_14 x1 x2 x3 x4 1 I J h hC
theorem p_X11_apart_12 {L : Nat} {xs : Nat → Int32} {d : Nat} {Q : xO → Prop} (x1 : Int32) (x2 : Int32) (x3 : Int32) (x4 : Int32) (I : xI) (J : xJ) {t : Int32 × xI × xJ} (h : f_X11_apart_12 x1 x2 x3 x4 I J = some t) (hC : (c_X11_apart Q) t) : Rn L xs (d + 6) 146 59 [some (.ref 0), some (.int x1), some (.int x2), some (.int x3), some (.int x4)] [] 94 (I, J, xrf) Q := by
  unfold f_X11_apart_12 at h
  refine Rn.go 2 (j' := 146) (pc' := 64) (ls' := [some (.ref 0), some (.int x1), some (.int x2), some (.int x3), some (.int x4)]) (st' := [.int 0]) (n' := 94) (M' := (I, J, xrf)) (fun f => rfl) ?_
  exact p_X11_apart_14 x1 x2 x3 x4 0 I J h hC
theorem p_X11_apart_11 {L : Nat} {xs : Nat → Int32} {d : Nat} {Q : xO → Prop} (x1 : Int32) (x2 : Int32) (x3 : Int32) (x4 : Int32) (I : xI) (J : xJ) {t : Int32 × xI × xJ} (h : f_X11_apart_11 x1 x2 x3 x4 I J = some t) (hC : (c_X11_apart Q) t) : Rn L xs (d + 6) 146 52 [some (.ref 0), some (.int x1), some (.int x2), some (.int x3), some (.int x4)] [] 94 (I, J, xrf) Q := by
  unfold f_X11_apart_11 at h
  refine Rn.fi 3 (c := x4 = (-2)) (p1 := 59) (l1 := [some (.ref 0), some (.int x1), some (.int x2), some (.int x3), some (.int x4)]) (s1 := []) (n1 := 94) (M1 := (I, J, xrf)) (p2 := 63) (l2 := [some (.ref 0), some (.int x1), some (.int x2), some (.int x3), some (.int x4)]) (s2 := []) (n2 := 94) (M2 := (I, J, xrf)) (fun f => rfl) (fun hc => ?_) (fun hc => ?_)
  · rw [if_pos hc] at h
    exact p_X11_apart_12 x1 x2 x3 x4 I J h hC
  · rw [if_neg hc] at h
    exact p_X11_apart_13 x1 x2 x3 x4 I J h hC
theorem p_X11_apart_10 {L : Nat} {xs : Nat → Int32} {d : Nat} {Q : xO → Prop} (x1 : Int32) (x2 : Int32) (x3 : Int32) (x4 : Int32) (I : xI) (J : xJ) {t : Int32 × xI × xJ} (h : f_X11_apart_10 x1 x2 x3 x4 I J = some t) (hC : (c_X11_apart Q) t) : Rn L xs (d + 6) 146 49 [some (.ref 0), some (.int x1), some (.int x2), some (.int x3), some (.int x4)] [] 94 (I, J, xrf) Q := by
  unfold f_X11_apart_10 at h
  cases h
  exact Rn.ret 2 (o := ((some (.int x4)), 94, (I, J, xrf))) (fun f => rfl) hC
theorem p_X11_apart_9 {L : Nat} {xs : Nat → Int32} {d : Nat} {Q : xO → Prop} (x1 : Int32) (x2 : Int32) (x3 : Int32) (s0 : Int32) (I : xI) (J : xJ) {t : Int32 × xI × xJ} (h : f_X11_apart_9 x1 x2 x3 s0 I J = some t) (hC : (c_X11_apart Q) t) : Rn L xs (d + 6) 146 42 [some (.ref 0), some (.int x1), some (.int x2), some (.int x3), none] [.int s0] 94 (I, J, xrf) Q := by
  unfold f_X11_apart_9 at h
  refine Rn.fi 4 (c := x3 = 1) (p1 := 49) (l1 := [some (.ref 0), some (.int x1), some (.int x2), some (.int x3), some (.int s0)]) (s1 := []) (n1 := 94) (M1 := (I, J, xrf)) (p2 := 52) (l2 := [some (.ref 0), some (.int x1), some (.int x2), some (.int x3), some (.int s0)]) (s2 := []) (n2 := 94) (M2 := (I, J, xrf)) (fun f => rfl) (fun hc => ?_) (fun hc => ?_)
  · rw [if_pos hc] at h
    exact p_X11_apart_10 x1 x2 x3 s0 I J h hC
  · rw [if_neg hc] at h
    exact p_X11_apart_11 x1 x2 x3 s0 I J h hC
theorem p_X11_apart_8 {L : Nat} {xs : Nat → Int32} {d : Nat} {Q : xO → Prop} (x1 : Int32) (x2 : Int32) (x3 : Int32) (I : xI) (J : xJ) {t : Int32 × xI × xJ} (h : f_X11_apart_8 x1 x2 x3 I J = some t) (hC : (c_X11_apart Q) t) : Rn L xs (d + 6) 146 37 [some (.ref 0), some (.int x1), some (.int x2), some (.int x3), none] [.ref 32] 94 (I, J, xrf) Q := by
  unfold f_X11_apart_8 at h
  refine Rn.go 2 (j' := 146) (pc' := 39) (ls' := [some (.ref 0), some (.int x1), some (.int x2), some (.int x3), none]) (st' := [.int x2, .int x1, .ref 32]) (n' := 94) (M' := (I, J, xrf)) (fun f => rfl) ?_
  obtain ⟨o, ho, h⟩ := Option.bind_eq_some_iff.mp h
  refine Rn.call (d1 := d + 5) (j1 := 76) (ls1 := [some (.ref 32), some (.int x1), some (.int x2)]) (rest := []) (fun f => rfl) ?_
  refine p_X6_roundOf (d := d + 2) x1 x2 I J (t := o) ho ?_
  exact p_X11_apart_9 x1 x2 x3 o.1 o.2.1 o.2.2 h hC
theorem p_X11_apart_7 {L : Nat} {xs : Nat → Int32} {d : Nat} {Q : xO → Prop} (x1 : Int32) (x2 : Int32) (x3 : Int32) (I : xI) (J : xJ) {t : Int32 × xI × xJ} (h : f_X11_apart_7 x1 x2 x3 I J = some t) (hC : (c_X11_apart Q) t) : Rn L xs (d + 6) 146 33 [some (.ref 0), some (.int x1), some (.int x2), some (.int x3), none] [] 94 (I, J, xrf) Q := by
  unfold f_X11_apart_7 at h
  refine Rn.go 1 (j' := 146) (pc' := 34) (ls' := [some (.ref 0), some (.int x1), some (.int x2), some (.int x3), none]) (st' := [.ref 0]) (n' := 94) (M' := (I, J, xrf)) (fun f => rfl) ?_
  obtain ⟨o, ho, h⟩ := Option.bind_eq_some_iff.mp h
  refine Rn.call (d1 := d + 5) (j1 := 176) (ls1 := [some (.ref 0)]) (rest := []) (fun f => rfl) ?_
  refine p_X11_pairsNow (d := d + 0) I J (t := o) ho ?_
  exact p_X11_apart_8 x1 x2 x3 o.2.1 o.2.2 h hC
theorem p_X11_apart_5 {L : Nat} {xs : Nat → Int32} {d : Nat} {Q : xO → Prop} (x1 : Int32) (x2 : Int32) (x3 : Int32) (I : xI) (J : xJ) {t : Int32 × xI × xJ} (h : f_X11_apart_5 x1 x2 x3 I J = some t) (hC : (c_X11_apart Q) t) : Rn L xs (d + 6) 146 26 [some (.ref 0), some (.int x1), some (.int x2), some (.int x3), none] [] 94 (I, J, xrf) Q := by
  unfold f_X11_apart_5 at h
  refine Rn.fi 3 (c := x3 ≤ 1) (p1 := 33) (l1 := [some (.ref 0), some (.int x1), some (.int x2), some (.int x3), none]) (s1 := []) (n1 := 94) (M1 := (I, J, xrf)) (p2 := 31) (l2 := [some (.ref 0), some (.int x1), some (.int x2), some (.int x3), none]) (s2 := []) (n2 := 94) (M2 := (I, J, xrf)) (fun f => rfl) (fun hc => ?_) (fun hc => ?_)
  · rw [if_pos hc] at h
    exact p_X11_apart_7 x1 x2 x3 I J h hC
  · rw [if_neg hc] at h
    exact p_X11_apart_6 x1 x2 x3 I J h hC
theorem p_X11_apart_4 {L : Nat} {xs : Nat → Int32} {d : Nat} {Q : xO → Prop} (x1 : Int32) (x2 : Int32) (x3 : Int32) (I : xI) (J : xJ) {t : Int32 × xI × xJ} (h : f_X11_apart_4 x1 x2 x3 I J = some t) (hC : (c_X11_apart Q) t) : Rn L xs (d + 6) 146 22 [some (.ref 0), some (.int x1), some (.int x2), some (.int x3), none] [] 94 (I, J, xrf) Q := by
  unfold f_X11_apart_4 at h
  refine Rn.fi 2 (c := x3 < 0) (p1 := 31) (l1 := [some (.ref 0), some (.int x1), some (.int x2), some (.int x3), none]) (s1 := []) (n1 := 94) (M1 := (I, J, xrf)) (p2 := 26) (l2 := [some (.ref 0), some (.int x1), some (.int x2), some (.int x3), none]) (s2 := []) (n2 := 94) (M2 := (I, J, xrf)) (fun f => rfl) (fun hc => ?_) (fun hc => ?_)
  · rw [if_pos hc] at h
    exact p_X11_apart_6 x1 x2 x3 I J h hC
  · rw [if_neg hc] at h
    exact p_X11_apart_5 x1 x2 x3 I J h hC
theorem p_X11_apart_3 {L : Nat} {xs : Nat → Int32} {d : Nat} {Q : xO → Prop} (x1 : Int32) (x2 : Int32) (x3 : Int32) (s0 : Int32) (I : xI) (J : xJ) {t : Int32 × xI × xJ} (h : f_X11_apart_3 x1 x2 x3 s0 I J = some t) (hC : (c_X11_apart Q) t) : Rn L xs (d + 6) 146 19 [some (.ref 0), some (.int x1), some (.int x2), some (.int x3), none] [.int s0] 94 (I, J, xrf) Q := by
  unfold f_X11_apart_3 at h
  refine Rn.fi 1 (c := s0 = 0) (p1 := 31) (l1 := [some (.ref 0), some (.int x1), some (.int x2), some (.int x3), none]) (s1 := []) (n1 := 94) (M1 := (I, J, xrf)) (p2 := 22) (l2 := [some (.ref 0), some (.int x1), some (.int x2), some (.int x3), none]) (s2 := []) (n2 := 94) (M2 := (I, J, xrf)) (fun f => rfl) (fun hc => ?_) (fun hc => ?_)
  · rw [if_pos hc] at h
    exact p_X11_apart_6 x1 x2 x3 I J h hC
  · rw [if_neg hc] at h
    exact p_X11_apart_4 x1 x2 x3 I J h hC
theorem p_X11_apart_2 {L : Nat} {xs : Nat → Int32} {d : Nat} {Q : xO → Prop} (x1 : Int32) (x2 : Int32) (x3 : Int32) (I : xI) (J : xJ) {t : Int32 × xI × xJ} (h : f_X11_apart_2 x1 x2 x3 I J = some t) (hC : (c_X11_apart Q) t) : Rn L xs (d + 6) 146 11 [some (.ref 0), some (.int x1), some (.int x2), some (.int x3), none] [] 94 (I, J, xrf) Q := by
  unfold f_X11_apart_2 at h
  refine Rn.go 3 (j' := 146) (pc' := 16) (ls' := [some (.ref 0), some (.int x1), some (.int x2), some (.int x3), none]) (st' := [.int x2, .ref 1]) (n' := 94) (M' := (I, J, xrf)) (fun f => rfl) ?_
  obtain ⟨o, ho, h⟩ := Option.bind_eq_some_iff.mp h
  refine Rn.call (d1 := d + 5) (j1 := 51) (ls1 := [some (.ref 1), some (.int x2)]) (rest := []) (fun f => rfl) ?_
  refine p_X5_hasState (d := d + 4) x2 I J (t := o) ho ?_
  exact p_X11_apart_3 x1 x2 x3 o.1 o.2.1 o.2.2 h hC
theorem p_X11_apart_1 {L : Nat} {xs : Nat → Int32} {d : Nat} {Q : xO → Prop} (x1 : Int32) (x2 : Int32) (x3 : Int32) (s0 : Int32) (I : xI) (J : xJ) {t : Int32 × xI × xJ} (h : f_X11_apart_1 x1 x2 x3 s0 I J = some t) (hC : (c_X11_apart Q) t) : Rn L xs (d + 6) 146 8 [some (.ref 0), some (.int x1), some (.int x2), some (.int x3), none] [.int s0] 94 (I, J, xrf) Q := by
  unfold f_X11_apart_1 at h
  refine Rn.fi 1 (c := s0 = 0) (p1 := 31) (l1 := [some (.ref 0), some (.int x1), some (.int x2), some (.int x3), none]) (s1 := []) (n1 := 94) (M1 := (I, J, xrf)) (p2 := 11) (l2 := [some (.ref 0), some (.int x1), some (.int x2), some (.int x3), none]) (s2 := []) (n2 := 94) (M2 := (I, J, xrf)) (fun f => rfl) (fun hc => ?_) (fun hc => ?_)
  · rw [if_pos hc] at h
    exact p_X11_apart_6 x1 x2 x3 I J h hC
  · rw [if_neg hc] at h
    exact p_X11_apart_2 x1 x2 x3 I J h hC
theorem p_X11_apart_0 {L : Nat} {xs : Nat → Int32} {d : Nat} {Q : xO → Prop} (x1 : Int32) (x2 : Int32) (x3 : Int32) (I : xI) (J : xJ) {t : Int32 × xI × xJ} (h : f_X11_apart_0 x1 x2 x3 I J = some t) (hC : (c_X11_apart Q) t) : Rn L xs (d + 6) 146 0 [some (.ref 0), some (.int x1), some (.int x2), some (.int x3), none] [] 94 (I, J, xrf) Q := by
  unfold f_X11_apart_0 at h
  refine Rn.go 3 (j' := 146) (pc' := 5) (ls' := [some (.ref 0), some (.int x1), some (.int x2), some (.int x3), none]) (st' := [.int x1, .ref 1]) (n' := 94) (M' := (I, J, xrf)) (fun f => rfl) ?_
  obtain ⟨o, ho, h⟩ := Option.bind_eq_some_iff.mp h
  refine Rn.call (d1 := d + 5) (j1 := 51) (ls1 := [some (.ref 1), some (.int x1)]) (rest := []) (fun f => rfl) ?_
  refine p_X5_hasState (d := d + 4) x1 I J (t := o) ho ?_
  exact p_X11_apart_1 x1 x2 x3 o.1 o.2.1 o.2.2 h hC
theorem p_X11_apart {L : Nat} {xs : Nat → Int32} {d : Nat} {Q : xO → Prop} (x1 : Int32) (x2 : Int32) (x3 : Int32) (I : xI) (J : xJ) {t : Int32 × xI × xJ} (h : f_X11_apart x1 x2 x3 I J = some t) (hC : Q ((some (.int t.1)), 94, (t.2.1, t.2.2, xrf))) : Rn L xs (d + 6) 146 0 [some (.ref 0), some (.int x1), some (.int x2), some (.int x3), none] [] 94 (I, J, xrf) Q := p_X11_apart_0 x1 x2 x3 I J h hC
/-! X6_firstInput -/
def c_X6_firstInput (Q : xO → Prop) (t : Int32 × xI × xJ) : Prop := Q ((some (.int t.1)), 94, (t.2.1, t.2.2, xrf))
def c_X6_firstInput_7 (L : Nat) (xs : Nat → Int32) (d : Nat) (Q : xO → Prop) (t : (Int32 × Int32 × Int32 × Int32 × (Option Value) × xI × xJ) ⊕ (Int32 × xI × xJ)) : Prop := match t with
  | .inl s => Rn L xs (d + 4) 80 34 [some (.ref 32), some (.int s.1), some (.int s.2.1), some (.int s.2.2.1), some (.int s.2.2.2.1), s.2.2.2.2.1] [] 94 (s.2.2.2.2.2.1, s.2.2.2.2.2.2, xrf) Q
  | .inr t => (c_X6_firstInput Q) t
def f_X6_firstInput_4 (x1 : Int32) (x2 : Int32) (I : xI) (J : xJ) : Option (Int32 × xI × xJ) := some ((-1), I, J)
def f_X6_firstInput_19 (x1 : Int32) (x2 : Int32) (x3 : Int32) (x4 : Int32) (z5 : Option Value) (I : xI) (J : xJ) : Option (Int32 × xI × xJ) := some ((-1), I, J)
def f_X6_firstInput_18 (x1 : Int32) (x2 : Int32) (x3 : Int32) (x4 : Int32) (x5 : Int32) (I : xI) (J : xJ) : Option ((Int32 × Int32 × Int32 × Int32 × (Option Value) × xI × xJ) ⊕ (Int32 × xI × xJ)) := some (.inl (x1, x2, x3, ((x4 + 1)), (some (.int x5)), I, J))
def f_X6_firstInput_17 (x1 : Int32) (x2 : Int32) (x3 : Int32) (x4 : Int32) (x5 : Int32) (I : xI) (J : xJ) : Option (Int32 × xI × xJ) := some (x4, I, J)
def f_X6_firstInput_16 (x1 : Int32) (x2 : Int32) (x3 : Int32) (x4 : Int32) (z5 : Option Value) (s0 : Int32) (I : xI) (J : xJ) : Option ((Int32 × Int32 × Int32 × Int32 × (Option Value) × xI × xJ) ⊕ (Int32 × xI × xJ)) := if s0 = 0 then f_X6_firstInput_18 x1 x2 x3 x4 s0 I J else ((f_X6_firstInput_17 x1 x2 x3 x4 s0 I J)).map .inr
def f_X6_firstInput_15 (x1 : Int32) (x2 : Int32) (x3 : Int32) (x4 : Int32) (z5 : Option Value) (I : xI) (J : xJ) : Option ((Int32 × Int32 × Int32 × Int32 × (Option Value) × xI × xJ) ⊕ (Int32 × xI × xJ)) := f_X6_firstInput_16 x1 x2 x3 x4 z5 0 I J
def f_X6_firstInput_14 (x1 : Int32) (x2 : Int32) (x3 : Int32) (x4 : Int32) (z5 : Option Value) (I : xI) (J : xJ) : Option ((Int32 × Int32 × Int32 × Int32 × (Option Value) × xI × xJ) ⊕ (Int32 × xI × xJ)) := f_X6_firstInput_16 x1 x2 x3 x4 z5 1 I J
def f_X6_firstInput_13 (x1 : Int32) (x2 : Int32) (x3 : Int32) (x4 : Int32) (z5 : Option Value) (s0 : Int32) (I : xI) (J : xJ) : Option ((Int32 × Int32 × Int32 × Int32 × (Option Value) × xI × xJ) ⊕ (Int32 × xI × xJ)) := if s0 = (x3 - 1) then f_X6_firstInput_14 x1 x2 x3 x4 z5 I J else f_X6_firstInput_15 x1 x2 x3 x4 z5 I J
def f_X6_firstInput_12 (x1 : Int32) (x2 : Int32) (x3 : Int32) (x4 : Int32) (z5 : Option Value) (s1 : Int32) (I : xI) (J : xJ) : Option ((Int32 × Int32 × Int32 × Int32 × (Option Value) × xI × xJ) ⊕ (Int32 × xI × xJ)) := (f_X6_roundIn s1 I J).bind fun o => f_X6_firstInput_13 x1 x2 x3 x4 z5 o.1 o.2.1 o.2.2
def f_X6_firstInput_11 (x1 : Int32) (x2 : Int32) (x3 : Int32) (x4 : Int32) (z5 : Option Value) (I : xI) (J : xJ) : Option ((Int32 × Int32 × Int32 × Int32 × (Option Value) × xI × xJ) ⊕ (Int32 × xI × xJ)) := (f_X6_stepOf x1 x2 x4 I J).bind fun o => f_X6_firstInput_12 x1 x2 x3 x4 z5 o.1 o.2.1 o.2.2
def f_X6_firstInput_10 (x1 : Int32) (x2 : Int32) (x3 : Int32) (x4 : Int32) (z5 : Option Value) (s0 : Int32) (I : xI) (J : xJ) : Option ((Int32 × Int32 × Int32 × Int32 × (Option Value) × xI × xJ) ⊕ (Int32 × xI × xJ)) := f_X6_firstInput_16 x1 x2 x3 x4 z5 s0 I J
def f_X6_firstInput_9 (x1 : Int32) (x2 : Int32) (x3 : Int32) (x4 : Int32) (z5 : Option Value) (I : xI) (J : xJ) : Option ((Int32 × Int32 × Int32 × Int32 × (Option Value) × xI × xJ) ⊕ (Int32 × xI × xJ)) := (f_X6_isUnlike x1 x2 x4 I J).bind fun o => f_X6_firstInput_10 x1 x2 x3 x4 z5 o.1 o.2.1 o.2.2
def f_X6_firstInput_8 (x1 : Int32) (x2 : Int32) (x3 : Int32) (x4 : Int32) (z5 : Option Value) (I : xI) (J : xJ) : Option ((Int32 × Int32 × Int32 × Int32 × (Option Value) × xI × xJ) ⊕ (Int32 × xI × xJ)) := if x3 = 0 then f_X6_firstInput_9 x1 x2 x3 x4 z5 I J else f_X6_firstInput_11 x1 x2 x3 x4 z5 I J
def b_X6_firstInput_7 (x1 : Int32) (x2 : Int32) (x3 : Int32) (x4 : Int32) (z5 : Option Value) (I : xI) (J : xJ) : Option ((Int32 × Int32 × Int32 × Int32 × (Option Value) × xI × xJ) ⊕ (Int32 × xI × xJ)) := if (I 1 1) ≤ x4 then ((f_X6_firstInput_19 x1 x2 x3 x4 z5 I J)).map .inr else f_X6_firstInput_8 x1 x2 x3 x4 z5 I J
def f_X6_firstInput_7 (x1 : Int32) (x2 : Int32) (x3 : Int32) (x4 : Int32) (z5 : Option Value) (I : xI) (J : xJ) : Option (Int32 × xI × xJ) := xloop (fun s : Int32 × Int32 × Int32 × Int32 × (Option Value) × xI × xJ => b_X6_firstInput_7 s.1 s.2.1 s.2.2.1 s.2.2.2.1 s.2.2.2.2.1 s.2.2.2.2.2.1 s.2.2.2.2.2.2) 5000 (x1, x2, x3, x4, z5, I, J)
def f_X6_firstInput_6 (x1 : Int32) (x2 : Int32) (s0 : Int32) (I : xI) (J : xJ) : Option (Int32 × xI × xJ) := f_X6_firstInput_7 x1 x2 s0 0 none I J
def f_X6_firstInput_5 (x1 : Int32) (x2 : Int32) (I : xI) (J : xJ) : Option (Int32 × xI × xJ) := (f_X6_roundOf x1 x2 I J).bind fun o => f_X6_firstInput_6 x1 x2 o.1 o.2.1 o.2.2
def f_X6_firstInput_3 (x1 : Int32) (x2 : Int32) (s0 : Int32) (I : xI) (J : xJ) : Option (Int32 × xI × xJ) := if s0 = 0 then f_X6_firstInput_4 x1 x2 I J else f_X6_firstInput_5 x1 x2 I J
def f_X6_firstInput_2 (x1 : Int32) (x2 : Int32) (I : xI) (J : xJ) : Option (Int32 × xI × xJ) := (f_X5_hasState x2 I J).bind fun o => f_X6_firstInput_3 x1 x2 o.1 o.2.1 o.2.2
def f_X6_firstInput_1 (x1 : Int32) (x2 : Int32) (s0 : Int32) (I : xI) (J : xJ) : Option (Int32 × xI × xJ) := if s0 = 0 then f_X6_firstInput_4 x1 x2 I J else f_X6_firstInput_2 x1 x2 I J
def f_X6_firstInput_0 (x1 : Int32) (x2 : Int32) (I : xI) (J : xJ) : Option (Int32 × xI × xJ) := (f_X5_hasState x1 I J).bind fun o => f_X6_firstInput_1 x1 x2 o.1 o.2.1 o.2.2
def f_X6_firstInput (x1 : Int32) (x2 : Int32) (I : xI) (J : xJ) : Option (Int32 × xI × xJ) := f_X6_firstInput_0 x1 x2 I J
theorem p_X6_firstInput_4 {L : Nat} {xs : Nat → Int32} {d : Nat} {Q : xO → Prop} (x1 : Int32) (x2 : Int32) (I : xI) (J : xJ) {t : Int32 × xI × xJ} (h : f_X6_firstInput_4 x1 x2 I J = some t) (hC : (c_X6_firstInput Q) t) : Rn L xs (d + 4) 80 22 [some (.ref 32), some (.int x1), some (.int x2), none, none, none] [] 94 (I, J, xrf) Q := by
  unfold f_X6_firstInput_4 at h
  cases h
  exact Rn.ret 2 (o := ((some (.int ((-1)))), 94, (I, J, xrf))) (fun f => rfl) hC
theorem p_X6_firstInput_19 {L : Nat} {xs : Nat → Int32} {d : Nat} {Q : xO → Prop} (x1 : Int32) (x2 : Int32) (x3 : Int32) (x4 : Int32) (z5 : Option Value) (I : xI) (J : xJ) {t : Int32 × xI × xJ} (h : f_X6_firstInput_19 x1 x2 x3 x4 z5 I J = some t) (hC : (c_X6_firstInput Q) t) : Rn L xs (d + 4) 80 100 [some (.ref 32), some (.int x1), some (.int x2), some (.int x3), some (.int x4), z5] [] 94 (I, J, xrf) Q := by
  unfold f_X6_firstInput_19 at h
  cases h
  exact Rn.ret 2 (o := ((some (.int ((-1)))), 94, (I, J, xrf))) (fun f => rfl) hC
theorem p_X6_firstInput_18 {L : Nat} {xs : Nat → Int32} {d : Nat} {Q : xO → Prop} (x1 : Int32) (x2 : Int32) (x3 : Int32) (x4 : Int32) (x5 : Int32) (I : xI) (J : xJ) {t : (Int32 × Int32 × Int32 × Int32 × (Option Value) × xI × xJ) ⊕ (Int32 × xI × xJ)} (h : f_X6_firstInput_18 x1 x2 x3 x4 x5 I J = some t) (hC : (c_X6_firstInput_7 L xs d Q) t) : Rn L xs (d + 4) 80 94 [some (.ref 32), some (.int x1), some (.int x2), some (.int x3), some (.int x4), some (.int x5)] [] 94 (I, J, xrf) Q := by
  unfold f_X6_firstInput_18 at h
  refine Rn.go 2 (j' := 80) (pc' := 34) (ls' := [some (.ref 32), some (.int x1), some (.int x2), some (.int x3), some (.int ((x4 + 1))), some (.int x5)]) (st' := []) (n' := 94) (M' := (I, J, xrf)) (fun f => rfl) ?_
  cases h; exact hC
theorem p_X6_firstInput_17 {L : Nat} {xs : Nat → Int32} {d : Nat} {Q : xO → Prop} (x1 : Int32) (x2 : Int32) (x3 : Int32) (x4 : Int32) (x5 : Int32) (I : xI) (J : xJ) {t : Int32 × xI × xJ} (h : f_X6_firstInput_17 x1 x2 x3 x4 x5 I J = some t) (hC : (c_X6_firstInput Q) t) : Rn L xs (d + 4) 80 91 [some (.ref 32), some (.int x1), some (.int x2), some (.int x3), some (.int x4), some (.int x5)] [] 94 (I, J, xrf) Q := by
  unfold f_X6_firstInput_17 at h
  cases h
  exact Rn.ret 2 (o := ((some (.int x4)), 94, (I, J, xrf))) (fun f => rfl) hC
theorem p_X6_firstInput_16 {L : Nat} {xs : Nat → Int32} {d : Nat} {Q : xO → Prop} (x1 : Int32) (x2 : Int32) (x3 : Int32) (x4 : Int32) (z5 : Option Value) (s0 : Int32) (I : xI) (J : xJ) {t : (Int32 × Int32 × Int32 × Int32 × (Option Value) × xI × xJ) ⊕ (Int32 × xI × xJ)} (h : f_X6_firstInput_16 x1 x2 x3 x4 z5 s0 I J = some t) (hC : (c_X6_firstInput_7 L xs d Q) t) : Rn L xs (d + 4) 80 84 [some (.ref 32), some (.int x1), some (.int x2), some (.int x3), some (.int x4), z5] [.int s0] 94 (I, J, xrf) Q := by
  unfold f_X6_firstInput_16 at h
  refine Rn.fi 3 (c := s0 = 0) (p1 := 94) (l1 := [some (.ref 32), some (.int x1), some (.int x2), some (.int x3), some (.int x4), some (.int s0)]) (s1 := []) (n1 := 94) (M1 := (I, J, xrf)) (p2 := 91) (l2 := [some (.ref 32), some (.int x1), some (.int x2), some (.int x3), some (.int x4), some (.int s0)]) (s2 := []) (n2 := 94) (M2 := (I, J, xrf)) (fun f => rfl) (fun hc => ?_) (fun hc => ?_)
  · rw [if_pos hc] at h
    exact p_X6_firstInput_18 x1 x2 x3 x4 s0 I J h hC
  · rw [if_neg hc] at h
    obtain ⟨t0, h0, rfl⟩ := Option.map_eq_some_iff.mp h
    exact p_X6_firstInput_17 x1 x2 x3 x4 s0 I J h0 hC
theorem p_X6_firstInput_15 {L : Nat} {xs : Nat → Int32} {d : Nat} {Q : xO → Prop} (x1 : Int32) (x2 : Int32) (x3 : Int32) (x4 : Int32) (z5 : Option Value) (I : xI) (J : xJ) {t : (Int32 × Int32 × Int32 × Int32 × (Option Value) × xI × xJ) ⊕ (Int32 × xI × xJ)} (h : f_X6_firstInput_15 x1 x2 x3 x4 z5 I J = some t) (hC : (c_X6_firstInput_7 L xs d Q) t) : Rn L xs (d + 4) 80 83 [some (.ref 32), some (.int x1), some (.int x2), some (.int x3), some (.int x4), z5] [] 94 (I, J, xrf) Q := by
  unfold f_X6_firstInput_15 at h
  refine Rn.go 1 (j' := 80) (pc' := 84) (ls' := [some (.ref 32), some (.int x1), some (.int x2), some (.int x3), some (.int x4), z5]) (st' := [.int 0]) (n' := 94) (M' := (I, J, xrf)) (fun f => rfl) ?_
  exact p_X6_firstInput_16 x1 x2 x3 x4 z5 0 I J h hC
theorem p_X6_firstInput_14 {L : Nat} {xs : Nat → Int32} {d : Nat} {Q : xO → Prop} (x1 : Int32) (x2 : Int32) (x3 : Int32) (x4 : Int32) (z5 : Option Value) (I : xI) (J : xJ) {t : (Int32 × Int32 × Int32 × Int32 × (Option Value) × xI × xJ) ⊕ (Int32 × xI × xJ)} (h : f_X6_firstInput_14 x1 x2 x3 x4 z5 I J = some t) (hC : (c_X6_firstInput_7 L xs d Q) t) : Rn L xs (d + 4) 80 79 [some (.ref 32), some (.int x1), some (.int x2), some (.int x3), some (.int x4), z5] [] 94 (I, J, xrf) Q := by
  unfold f_X6_firstInput_14 at h
  refine Rn.go 2 (j' := 80) (pc' := 84) (ls' := [some (.ref 32), some (.int x1), some (.int x2), some (.int x3), some (.int x4), z5]) (st' := [.int 1]) (n' := 94) (M' := (I, J, xrf)) (fun f => rfl) ?_
  exact p_X6_firstInput_16 x1 x2 x3 x4 z5 1 I J h hC
theorem p_X6_firstInput_13 {L : Nat} {xs : Nat → Int32} {d : Nat} {Q : xO → Prop} (x1 : Int32) (x2 : Int32) (x3 : Int32) (x4 : Int32) (z5 : Option Value) (s0 : Int32) (I : xI) (J : xJ) {t : (Int32 × Int32 × Int32 × Int32 × (Option Value) × xI × xJ) ⊕ (Int32 × xI × xJ)} (h : f_X6_firstInput_13 x1 x2 x3 x4 z5 s0 I J = some t) (hC : (c_X6_firstInput_7 L xs d Q) t) : Rn L xs (d + 4) 80 73 [some (.ref 32), some (.int x1), some (.int x2), some (.int x3), some (.int x4), z5] [.int s0] 94 (I, J, xrf) Q := by
  unfold f_X6_firstInput_13 at h
  refine Rn.fi 4 (c := s0 = (x3 - 1)) (p1 := 79) (l1 := [some (.ref 32), some (.int x1), some (.int x2), some (.int x3), some (.int x4), z5]) (s1 := []) (n1 := 94) (M1 := (I, J, xrf)) (p2 := 83) (l2 := [some (.ref 32), some (.int x1), some (.int x2), some (.int x3), some (.int x4), z5]) (s2 := []) (n2 := 94) (M2 := (I, J, xrf)) (fun f => rfl) (fun hc => ?_) (fun hc => ?_)
  · rw [if_pos hc] at h
    exact p_X6_firstInput_14 x1 x2 x3 x4 z5 I J h hC
  · rw [if_neg hc] at h
    exact p_X6_firstInput_15 x1 x2 x3 x4 z5 I J h hC
theorem p_X6_firstInput_12 {L : Nat} {xs : Nat → Int32} {d : Nat} {Q : xO → Prop} (x1 : Int32) (x2 : Int32) (x3 : Int32) (x4 : Int32) (z5 : Option Value) (s1 : Int32) (I : xI) (J : xJ) {t : (Int32 × Int32 × Int32 × Int32 × (Option Value) × xI × xJ) ⊕ (Int32 × xI × xJ)} (h : f_X6_firstInput_12 x1 x2 x3 x4 z5 s1 I J = some t) (hC : (c_X6_firstInput_7 L xs d Q) t) : Rn L xs (d + 4) 80 70 [some (.ref 32), some (.int x1), some (.int x2), some (.int x3), some (.int x4), z5] [.int s1, .ref 32] 94 (I, J, xrf) Q := by
  unfold f_X6_firstInput_12 at h
  obtain ⟨o, ho, h⟩ := Option.bind_eq_some_iff.mp h
  refine Rn.call (d1 := d + 3) (j1 := 77) (ls1 := [some (.ref 32), some (.int s1)]) (rest := []) (fun f => rfl) ?_
  refine p_X6_roundIn (d := d + 1) s1 I J (t := o) ho ?_
  exact p_X6_firstInput_13 x1 x2 x3 x4 z5 o.1 o.2.1 o.2.2 h hC
theorem p_X6_firstInput_11 {L : Nat} {xs : Nat → Int32} {d : Nat} {Q : xO → Prop} (x1 : Int32) (x2 : Int32) (x3 : Int32) (x4 : Int32) (z5 : Option Value) (I : xI) (J : xJ) {t : (Int32 × Int32 × Int32 × Int32 × (Option Value) × xI × xJ) ⊕ (Int32 × xI × xJ)} (h : f_X6_firstInput_11 x1 x2 x3 x4 z5 I J = some t) (hC : (c_X6_firstInput_7 L xs d Q) t) : Rn L xs (d + 4) 80 61 [some (.ref 32), some (.int x1), some (.int x2), some (.int x3), some (.int x4), z5] [] 94 (I, J, xrf) Q := by
  unfold f_X6_firstInput_11 at h
  refine Rn.go 5 (j' := 80) (pc' := 67) (ls' := [some (.ref 32), some (.int x1), some (.int x2), some (.int x3), some (.int x4), z5]) (st' := [.int x4, .int x2, .int x1, .ref 32, .ref 32]) (n' := 94) (M' := (I, J, xrf)) (fun f => rfl) ?_
  obtain ⟨o, ho, h⟩ := Option.bind_eq_some_iff.mp h
  refine Rn.call (d1 := d + 3) (j1 := 72) (ls1 := [some (.ref 32), some (.int x1), some (.int x2), some (.int x4), none, none]) (rest := [.ref 32]) (fun f => rfl) ?_
  refine p_X6_stepOf (d := d + 1) x1 x2 x4 I J (t := o) ho ?_
  exact p_X6_firstInput_12 x1 x2 x3 x4 z5 o.1 o.2.1 o.2.2 h hC
theorem p_X6_firstInput_10 {L : Nat} {xs : Nat → Int32} {d : Nat} {Q : xO → Prop} (x1 : Int32) (x2 : Int32) (x3 : Int32) (x4 : Int32) (z5 : Option Value) (s0 : Int32) (I : xI) (J : xJ) {t : (Int32 × Int32 × Int32 × Int32 × (Option Value) × xI × xJ) ⊕ (Int32 × xI × xJ)} (h : f_X6_firstInput_10 x1 x2 x3 x4 z5 s0 I J = some t) (hC : (c_X6_firstInput_7 L xs d Q) t) : Rn L xs (d + 4) 80 58 [some (.ref 32), some (.int x1), some (.int x2), some (.int x3), some (.int x4), z5] [.int s0] 94 (I, J, xrf) Q := by
  unfold f_X6_firstInput_10 at h
  refine Rn.go 1 (j' := 80) (pc' := 84) (ls' := [some (.ref 32), some (.int x1), some (.int x2), some (.int x3), some (.int x4), z5]) (st' := [.int s0]) (n' := 94) (M' := (I, J, xrf)) (fun f => rfl) ?_
  exact p_X6_firstInput_16 x1 x2 x3 x4 z5 s0 I J h hC
theorem p_X6_firstInput_9 {L : Nat} {xs : Nat → Int32} {d : Nat} {Q : xO → Prop} (x1 : Int32) (x2 : Int32) (x3 : Int32) (x4 : Int32) (z5 : Option Value) (I : xI) (J : xJ) {t : (Int32 × Int32 × Int32 × Int32 × (Option Value) × xI × xJ) ⊕ (Int32 × xI × xJ)} (h : f_X6_firstInput_9 x1 x2 x3 x4 z5 I J = some t) (hC : (c_X6_firstInput_7 L xs d Q) t) : Rn L xs (d + 4) 80 50 [some (.ref 32), some (.int x1), some (.int x2), some (.int x3), some (.int x4), z5] [] 94 (I, J, xrf) Q := by
  unfold f_X6_firstInput_9 at h
  refine Rn.go 4 (j' := 80) (pc' := 55) (ls' := [some (.ref 32), some (.int x1), some (.int x2), some (.int x3), some (.int x4), z5]) (st' := [.int x4, .int x2, .int x1, .ref 32]) (n' := 94) (M' := (I, J, xrf)) (fun f => rfl) ?_
  obtain ⟨o, ho, h⟩ := Option.bind_eq_some_iff.mp h
  refine Rn.call (d1 := d + 3) (j1 := 73) (ls1 := [some (.ref 32), some (.int x1), some (.int x2), some (.int x4), none, none]) (rest := []) (fun f => rfl) ?_
  refine p_X6_isUnlike (d := d + 1) x1 x2 x4 I J (t := o) ho ?_
  exact p_X6_firstInput_10 x1 x2 x3 x4 z5 o.1 o.2.1 o.2.2 h hC
theorem p_X6_firstInput_8 {L : Nat} {xs : Nat → Int32} {d : Nat} {Q : xO → Prop} (x1 : Int32) (x2 : Int32) (x3 : Int32) (x4 : Int32) (z5 : Option Value) (I : xI) (J : xJ) {t : (Int32 × Int32 × Int32 × Int32 × (Option Value) × xI × xJ) ⊕ (Int32 × xI × xJ)} (h : f_X6_firstInput_8 x1 x2 x3 x4 z5 I J = some t) (hC : (c_X6_firstInput_7 L xs d Q) t) : Rn L xs (d + 4) 80 46 [some (.ref 32), some (.int x1), some (.int x2), some (.int x3), some (.int x4), z5] [] 94 (I, J, xrf) Q := by
  unfold f_X6_firstInput_8 at h
  refine Rn.fi 2 (c := x3 = 0) (p1 := 50) (l1 := [some (.ref 32), some (.int x1), some (.int x2), some (.int x3), some (.int x4), z5]) (s1 := []) (n1 := 94) (M1 := (I, J, xrf)) (p2 := 61) (l2 := [some (.ref 32), some (.int x1), some (.int x2), some (.int x3), some (.int x4), z5]) (s2 := []) (n2 := 94) (M2 := (I, J, xrf)) (fun f => rfl) (fun hc => ?_) (fun hc => ?_)
  · rw [if_pos hc] at h
    exact p_X6_firstInput_9 x1 x2 x3 x4 z5 I J h hC
  · rw [if_neg hc] at h
    exact p_X6_firstInput_11 x1 x2 x3 x4 z5 I J h hC
theorem q_X6_firstInput_7 {L : Nat} {xs : Nat → Int32} {d : Nat} {Q : xO → Prop} (x1 : Int32) (x2 : Int32) (x3 : Int32) (x4 : Int32) (z5 : Option Value) (I : xI) (J : xJ) {t : (Int32 × Int32 × Int32 × Int32 × (Option Value) × xI × xJ) ⊕ (Int32 × xI × xJ)} (h : b_X6_firstInput_7 x1 x2 x3 x4 z5 I J = some t) (hC : (c_X6_firstInput_7 L xs d Q) t) : Rn L xs (d + 4) 80 34 [some (.ref 32), some (.int x1), some (.int x2), some (.int x3), some (.int x4), z5] [] 94 (I, J, xrf) Q := by
  unfold b_X6_firstInput_7 at h
  refine Rn.fi 5 (c := (I 1 1) ≤ x4) (p1 := 100) (l1 := [some (.ref 32), some (.int x1), some (.int x2), some (.int x3), some (.int x4), z5]) (s1 := []) (n1 := 94) (M1 := (I, J, xrf)) (p2 := 46) (l2 := [some (.ref 32), some (.int x1), some (.int x2), some (.int x3), some (.int x4), z5]) (s2 := []) (n2 := 94) (M2 := (I, J, xrf)) (fun f => rfl) (fun hc => ?_) (fun hc => ?_)
  · rw [if_pos hc] at h
    obtain ⟨t0, h0, rfl⟩ := Option.map_eq_some_iff.mp h
    exact p_X6_firstInput_19 x1 x2 x3 x4 z5 I J h0 hC
  · rw [if_neg hc] at h
    exact p_X6_firstInput_8 x1 x2 x3 x4 z5 I J h hC
theorem p_X6_firstInput_7 {L : Nat} {xs : Nat → Int32} {d : Nat} {Q : xO → Prop} (x1 : Int32) (x2 : Int32) (x3 : Int32) (x4 : Int32) (z5 : Option Value) (I : xI) (J : xJ) {t : Int32 × xI × xJ} (h : f_X6_firstInput_7 x1 x2 x3 x4 z5 I J = some t) (hC : (c_X6_firstInput Q) t) : Rn L xs (d + 4) 80 34 [some (.ref 32), some (.int x1), some (.int x2), some (.int x3), some (.int x4), z5] [] 94 (I, J, xrf) Q := by
  unfold f_X6_firstInput_7 at h
  exact xloop_some (P := fun s : Int32 × Int32 × Int32 × Int32 × (Option Value) × xI × xJ => Rn L xs (d + 4) 80 34 [some (.ref 32), some (.int s.1), some (.int s.2.1), some (.int s.2.2.1), some (.int s.2.2.2.1), s.2.2.2.2.1] [] 94 (s.2.2.2.2.2.1, s.2.2.2.2.2.2, xrf) Q) t (fun s ⟨s', hb, hp⟩ => q_X6_firstInput_7 s.1 s.2.1 s.2.2.1 s.2.2.2.1 s.2.2.2.2.1 s.2.2.2.2.2.1 s.2.2.2.2.2.2 hb hp) (fun s hb => q_X6_firstInput_7 s.1 s.2.1 s.2.2.1 s.2.2.2.1 s.2.2.2.2.1 s.2.2.2.2.2.1 s.2.2.2.2.2.2 hb hC) _ _ h
theorem p_X6_firstInput_6 {L : Nat} {xs : Nat → Int32} {d : Nat} {Q : xO → Prop} (x1 : Int32) (x2 : Int32) (s0 : Int32) (I : xI) (J : xJ) {t : Int32 × xI × xJ} (h : f_X6_firstInput_6 x1 x2 s0 I J = some t) (hC : (c_X6_firstInput Q) t) : Rn L xs (d + 4) 80 30 [some (.ref 32), some (.int x1), some (.int x2), none, none, none] [.int s0] 94 (I, J, xrf) Q := by
  unfold f_X6_firstInput_6 at h
  refine Rn.go 3 (j' := 80) (pc' := 34) (ls' := [some (.ref 32), some (.int x1), some (.int x2), some (.int s0), some (.int 0), none]) (st' := []) (n' := 94) (M' := (I, J, xrf)) (fun f => rfl) ?_
  exact p_X6_firstInput_7 x1 x2 s0 0 none I J h hC
theorem p_X6_firstInput_5 {L : Nat} {xs : Nat → Int32} {d : Nat} {Q : xO → Prop} (x1 : Int32) (x2 : Int32) (I : xI) (J : xJ) {t : Int32 × xI × xJ} (h : f_X6_firstInput_5 x1 x2 I J = some t) (hC : (c_X6_firstInput Q) t) : Rn L xs (d + 4) 80 24 [some (.ref 32), some (.int x1), some (.int x2), none, none, none] [] 94 (I, J, xrf) Q := by
  unfold f_X6_firstInput_5 at h
  refine Rn.go 3 (j' := 80) (pc' := 27) (ls' := [some (.ref 32), some (.int x1), some (.int x2), none, none, none]) (st' := [.int x2, .int x1, .ref 32]) (n' := 94) (M' := (I, J, xrf)) (fun f => rfl) ?_
  obtain ⟨o, ho, h⟩ := Option.bind_eq_some_iff.mp h
  refine Rn.call (d1 := d + 3) (j1 := 76) (ls1 := [some (.ref 32), some (.int x1), some (.int x2)]) (rest := []) (fun f => rfl) ?_
  refine p_X6_roundOf (d := d + 0) x1 x2 I J (t := o) ho ?_
  exact p_X6_firstInput_6 x1 x2 o.1 o.2.1 o.2.2 h hC
theorem p_X6_firstInput_3 {L : Nat} {xs : Nat → Int32} {d : Nat} {Q : xO → Prop} (x1 : Int32) (x2 : Int32) (s0 : Int32) (I : xI) (J : xJ) {t : Int32 × xI × xJ} (h : f_X6_firstInput_3 x1 x2 s0 I J = some t) (hC : (c_X6_firstInput Q) t) : Rn L xs (d + 4) 80 19 [some (.ref 32), some (.int x1), some (.int x2), none, none, none] [.int s0] 94 (I, J, xrf) Q := by
  unfold f_X6_firstInput_3 at h
  refine Rn.fi 1 (c := s0 = 0) (p1 := 22) (l1 := [some (.ref 32), some (.int x1), some (.int x2), none, none, none]) (s1 := []) (n1 := 94) (M1 := (I, J, xrf)) (p2 := 24) (l2 := [some (.ref 32), some (.int x1), some (.int x2), none, none, none]) (s2 := []) (n2 := 94) (M2 := (I, J, xrf)) (fun f => rfl) (fun hc => ?_) (fun hc => ?_)
  · rw [if_pos hc] at h
    exact p_X6_firstInput_4 x1 x2 I J h hC
  · rw [if_neg hc] at h
    exact p_X6_firstInput_5 x1 x2 I J h hC
theorem p_X6_firstInput_2 {L : Nat} {xs : Nat → Int32} {d : Nat} {Q : xO → Prop} (x1 : Int32) (x2 : Int32) (I : xI) (J : xJ) {t : Int32 × xI × xJ} (h : f_X6_firstInput_2 x1 x2 I J = some t) (hC : (c_X6_firstInput Q) t) : Rn L xs (d + 4) 80 11 [some (.ref 32), some (.int x1), some (.int x2), none, none, none] [] 94 (I, J, xrf) Q := by
  unfold f_X6_firstInput_2 at h
  refine Rn.go 3 (j' := 80) (pc' := 16) (ls' := [some (.ref 32), some (.int x1), some (.int x2), none, none, none]) (st' := [.int x2, .ref 1]) (n' := 94) (M' := (I, J, xrf)) (fun f => rfl) ?_
  obtain ⟨o, ho, h⟩ := Option.bind_eq_some_iff.mp h
  refine Rn.call (d1 := d + 3) (j1 := 51) (ls1 := [some (.ref 1), some (.int x2)]) (rest := []) (fun f => rfl) ?_
  refine p_X5_hasState (d := d + 2) x2 I J (t := o) ho ?_
  exact p_X6_firstInput_3 x1 x2 o.1 o.2.1 o.2.2 h hC
theorem p_X6_firstInput_1 {L : Nat} {xs : Nat → Int32} {d : Nat} {Q : xO → Prop} (x1 : Int32) (x2 : Int32) (s0 : Int32) (I : xI) (J : xJ) {t : Int32 × xI × xJ} (h : f_X6_firstInput_1 x1 x2 s0 I J = some t) (hC : (c_X6_firstInput Q) t) : Rn L xs (d + 4) 80 8 [some (.ref 32), some (.int x1), some (.int x2), none, none, none] [.int s0] 94 (I, J, xrf) Q := by
  unfold f_X6_firstInput_1 at h
  refine Rn.fi 1 (c := s0 = 0) (p1 := 22) (l1 := [some (.ref 32), some (.int x1), some (.int x2), none, none, none]) (s1 := []) (n1 := 94) (M1 := (I, J, xrf)) (p2 := 11) (l2 := [some (.ref 32), some (.int x1), some (.int x2), none, none, none]) (s2 := []) (n2 := 94) (M2 := (I, J, xrf)) (fun f => rfl) (fun hc => ?_) (fun hc => ?_)
  · rw [if_pos hc] at h
    exact p_X6_firstInput_4 x1 x2 I J h hC
  · rw [if_neg hc] at h
    exact p_X6_firstInput_2 x1 x2 I J h hC
theorem p_X6_firstInput_0 {L : Nat} {xs : Nat → Int32} {d : Nat} {Q : xO → Prop} (x1 : Int32) (x2 : Int32) (I : xI) (J : xJ) {t : Int32 × xI × xJ} (h : f_X6_firstInput_0 x1 x2 I J = some t) (hC : (c_X6_firstInput Q) t) : Rn L xs (d + 4) 80 0 [some (.ref 32), some (.int x1), some (.int x2), none, none, none] [] 94 (I, J, xrf) Q := by
  unfold f_X6_firstInput_0 at h
  refine Rn.go 3 (j' := 80) (pc' := 5) (ls' := [some (.ref 32), some (.int x1), some (.int x2), none, none, none]) (st' := [.int x1, .ref 1]) (n' := 94) (M' := (I, J, xrf)) (fun f => rfl) ?_
  obtain ⟨o, ho, h⟩ := Option.bind_eq_some_iff.mp h
  refine Rn.call (d1 := d + 3) (j1 := 51) (ls1 := [some (.ref 1), some (.int x1)]) (rest := []) (fun f => rfl) ?_
  refine p_X5_hasState (d := d + 2) x1 I J (t := o) ho ?_
  exact p_X6_firstInput_1 x1 x2 o.1 o.2.1 o.2.2 h hC
theorem p_X6_firstInput {L : Nat} {xs : Nat → Int32} {d : Nat} {Q : xO → Prop} (x1 : Int32) (x2 : Int32) (I : xI) (J : xJ) {t : Int32 × xI × xJ} (h : f_X6_firstInput x1 x2 I J = some t) (hC : Q ((some (.int t.1)), 94, (t.2.1, t.2.2, xrf))) : Rn L xs (d + 4) 80 0 [some (.ref 32), some (.int x1), some (.int x2), none, none, none] [] 94 (I, J, xrf) Q := p_X6_firstInput_0 x1 x2 I J h hC
/-! X6_wordInput -/
def c_X6_wordInput (Q : xO → Prop) (t : Int32 × xI × xJ) : Prop := Q ((some (.int t.1)), 94, (t.2.1, t.2.2, xrf))
def c_X6_wordInput_2 (L : Nat) (xs : Nat → Int32) (d : Nat) (Q : xO → Prop) (t : (Int32 × Int32 × Int32 × Int32 × Int32 × Int32 × Int32 × xI × xJ) ⊕ (Int32 × xI × xJ)) : Prop := match t with
  | .inl s => Rn L xs (d + 5) 79 19 [some (.ref 32), some (.int s.1), some (.int s.2.1), some (.int s.2.2.1), some (.int s.2.2.2.1), some (.int s.2.2.2.2.1), some (.int s.2.2.2.2.2.1), some (.int s.2.2.2.2.2.2.1)] [] 94 (s.2.2.2.2.2.2.2.1, s.2.2.2.2.2.2.2.2, xrf) Q
  | .inr t => (c_X6_wordInput Q) t
def f_X6_wordInput_7 (x1 : Int32) (x2 : Int32) (x3 : Int32) (x4 : Int32) (x5 : Int32) (x6 : Int32) (x7 : Int32) (I : xI) (J : xJ) : Option (Int32 × xI × xJ) := some (x6, I, J)
def f_X6_wordInput_6 (x1 : Int32) (x2 : Int32) (x3 : Int32) (x4 : Int32) (x5 : Int32) (x6 : Int32) (x7 : Int32) (s0 : Int32) (I : xI) (J : xJ) : Option ((Int32 × Int32 × Int32 × Int32 × Int32 × Int32 × Int32 × xI × xJ) ⊕ (Int32 × xI × xJ)) := some (.inl (x1, x2, x3, x4, x5, s0, ((x7 + 1)), I, J))
def f_X6_wordInput_5 (x1 : Int32) (x2 : Int32) (x3 : Int32) (x4 : Int32) (x5 : Int32) (x6 : Int32) (x7 : Int32) (s0 : Int32) (I : xI) (J : xJ) : Option ((Int32 × Int32 × Int32 × Int32 × Int32 × Int32 × Int32 × xI × xJ) ⊕ (Int32 × xI × xJ)) := (f_X6_firstInput x4 s0 I J).bind fun o => f_X6_wordInput_6 x1 x2 x3 x4 s0 x6 x7 o.1 o.2.1 o.2.2
def f_X6_wordInput_4 (x1 : Int32) (x2 : Int32) (x3 : Int32) (x4 : Int32) (x5 : Int32) (x6 : Int32) (x7 : Int32) (s0 : Int32) (I : xI) (J : xJ) : Option ((Int32 × Int32 × Int32 × Int32 × Int32 × Int32 × Int32 × xI × xJ) ⊕ (Int32 × xI × xJ)) := (f_X5_targetOf x5 x6 I J).bind fun o => f_X6_wordInput_5 x1 x2 x3 s0 x5 x6 x7 o.1 o.2.1 o.2.2
def f_X6_wordInput_3 (x1 : Int32) (x2 : Int32) (x3 : Int32) (x4 : Int32) (x5 : Int32) (x6 : Int32) (x7 : Int32) (I : xI) (J : xJ) : Option ((Int32 × Int32 × Int32 × Int32 × Int32 × Int32 × Int32 × xI × xJ) ⊕ (Int32 × xI × xJ)) := (f_X5_targetOf x4 x6 I J).bind fun o => f_X6_wordInput_4 x1 x2 x3 x4 x5 x6 x7 o.1 o.2.1 o.2.2
def b_X6_wordInput_2 (x1 : Int32) (x2 : Int32) (x3 : Int32) (x4 : Int32) (x5 : Int32) (x6 : Int32) (x7 : Int32) (I : xI) (J : xJ) : Option ((Int32 × Int32 × Int32 × Int32 × Int32 × Int32 × Int32 × xI × xJ) ⊕ (Int32 × xI × xJ)) := if x3 ≤ x7 then ((f_X6_wordInput_7 x1 x2 x3 x4 x5 x6 x7 I J)).map .inr else f_X6_wordInput_3 x1 x2 x3 x4 x5 x6 x7 I J
def f_X6_wordInput_2 (x1 : Int32) (x2 : Int32) (x3 : Int32) (x4 : Int32) (x5 : Int32) (x6 : Int32) (x7 : Int32) (I : xI) (J : xJ) : Option (Int32 × xI × xJ) := xloop (fun s : Int32 × Int32 × Int32 × Int32 × Int32 × Int32 × Int32 × xI × xJ => b_X6_wordInput_2 s.1 s.2.1 s.2.2.1 s.2.2.2.1 s.2.2.2.2.1 s.2.2.2.2.2.1 s.2.2.2.2.2.2.1 s.2.2.2.2.2.2.2.1 s.2.2.2.2.2.2.2.2) 5000 (x1, x2, x3, x4, x5, x6, x7, I, J)
def f_X6_wordInput_1 (x1 : Int32) (x2 : Int32) (x3 : Int32) (x4 : Int32) (x5 : Int32) (s0 : Int32) (I : xI) (J : xJ) : Option (Int32 × xI × xJ) := f_X6_wordInput_2 x1 x2 x3 x4 x5 s0 0 I J
def f_X6_wordInput_0 (x1 : Int32) (x2 : Int32) (x3 : Int32) (I : xI) (J : xJ) : Option (Int32 × xI × xJ) := (f_X6_firstInput x1 x2 I J).bind fun o => f_X6_wordInput_1 x1 x2 x3 x1 x2 o.1 o.2.1 o.2.2
def f_X6_wordInput (x1 : Int32) (x2 : Int32) (x3 : Int32) (I : xI) (J : xJ) : Option (Int32 × xI × xJ) := f_X6_wordInput_0 x1 x2 x3 I J
theorem p_X6_wordInput_7 {L : Nat} {xs : Nat → Int32} {d : Nat} {Q : xO → Prop} (x1 : Int32) (x2 : Int32) (x3 : Int32) (x4 : Int32) (x5 : Int32) (x6 : Int32) (x7 : Int32) (I : xI) (J : xJ) {t : Int32 × xI × xJ} (h : f_X6_wordInput_7 x1 x2 x3 x4 x5 x6 x7 I J = some t) (hC : (c_X6_wordInput Q) t) : Rn L xs (d + 5) 79 67 [some (.ref 32), some (.int x1), some (.int x2), some (.int x3), some (.int x4), some (.int x5), some (.int x6), some (.int x7)] [] 94 (I, J, xrf) Q := by
  unfold f_X6_wordInput_7 at h
  cases h
  exact Rn.ret 2 (o := ((some (.int x6)), 94, (I, J, xrf))) (fun f => rfl) hC
theorem p_X6_wordInput_6 {L : Nat} {xs : Nat → Int32} {d : Nat} {Q : xO → Prop} (x1 : Int32) (x2 : Int32) (x3 : Int32) (x4 : Int32) (x5 : Int32) (x6 : Int32) (x7 : Int32) (s0 : Int32) (I : xI) (J : xJ) {t : (Int32 × Int32 × Int32 × Int32 × Int32 × Int32 × Int32 × xI × xJ) ⊕ (Int32 × xI × xJ)} (h : f_X6_wordInput_6 x1 x2 x3 x4 x5 x6 x7 s0 I J = some t) (hC : (c_X6_wordInput_2 L xs d Q) t) : Rn L xs (d + 5) 79 59 [some (.ref 32), some (.int x1), some (.int x2), some (.int x3), some (.int x4), some (.int x5), some (.int x6), some (.int x7)] [.int s0] 94 (I, J, xrf) Q := by
  unfold f_X6_wordInput_6 at h
  refine Rn.go 3 (j' := 79) (pc' := 19) (ls' := [some (.ref 32), some (.int x1), some (.int x2), some (.int x3), some (.int x4), some (.int x5), some (.int s0), some (.int ((x7 + 1)))]) (st' := []) (n' := 94) (M' := (I, J, xrf)) (fun f => rfl) ?_
  cases h; exact hC
theorem p_X6_wordInput_5 {L : Nat} {xs : Nat → Int32} {d : Nat} {Q : xO → Prop} (x1 : Int32) (x2 : Int32) (x3 : Int32) (x4 : Int32) (x5 : Int32) (x6 : Int32) (x7 : Int32) (s0 : Int32) (I : xI) (J : xJ) {t : (Int32 × Int32 × Int32 × Int32 × Int32 × Int32 × Int32 × xI × xJ) ⊕ (Int32 × xI × xJ)} (h : f_X6_wordInput_5 x1 x2 x3 x4 x5 x6 x7 s0 I J = some t) (hC : (c_X6_wordInput_2 L xs d Q) t) : Rn L xs (d + 5) 79 49 [some (.ref 32), some (.int x1), some (.int x2), some (.int x3), some (.int x4), some (.int x5), some (.int x6), some (.int x7)] [.int s0] 94 (I, J, xrf) Q := by
  unfold f_X6_wordInput_5 at h
  refine Rn.go 4 (j' := 79) (pc' := 56) (ls' := [some (.ref 32), some (.int x1), some (.int x2), some (.int x3), some (.int x4), some (.int s0), some (.int x6), some (.int x7)]) (st' := [.int s0, .int x4, .ref 32]) (n' := 94) (M' := (I, J, xrf)) (fun f => rfl) ?_
  obtain ⟨o, ho, h⟩ := Option.bind_eq_some_iff.mp h
  refine Rn.call (d1 := d + 4) (j1 := 80) (ls1 := [some (.ref 32), some (.int x4), some (.int s0), none, none, none]) (rest := []) (fun f => rfl) ?_
  refine p_X6_firstInput (d := d + 0) x4 s0 I J (t := o) ho ?_
  exact p_X6_wordInput_6 x1 x2 x3 x4 s0 x6 x7 o.1 o.2.1 o.2.2 h hC
theorem p_X6_wordInput_4 {L : Nat} {xs : Nat → Int32} {d : Nat} {Q : xO → Prop} (x1 : Int32) (x2 : Int32) (x3 : Int32) (x4 : Int32) (x5 : Int32) (x6 : Int32) (x7 : Int32) (s0 : Int32) (I : xI) (J : xJ) {t : (Int32 × Int32 × Int32 × Int32 × Int32 × Int32 × Int32 × xI × xJ) ⊕ (Int32 × xI × xJ)} (h : f_X6_wordInput_4 x1 x2 x3 x4 x5 x6 x7 s0 I J = some t) (hC : (c_X6_wordInput_2 L xs d Q) t) : Rn L xs (d + 5) 79 36 [some (.ref 32), some (.int x1), some (.int x2), some (.int x3), some (.int x4), some (.int x5), some (.int x6), some (.int x7)] [.int s0] 94 (I, J, xrf) Q := by
  unfold f_X6_wordInput_4 at h
  refine Rn.go 5 (j' := 79) (pc' := 46) (ls' := [some (.ref 32), some (.int x1), some (.int x2), some (.int x3), some (.int s0), some (.int x5), some (.int x6), some (.int x7)]) (st' := [.int x6, .int x5, .ref 1]) (n' := 94) (M' := (I, J, xrf)) (fun f => rfl) ?_
  obtain ⟨o, ho, h⟩ := Option.bind_eq_some_iff.mp h
  refine Rn.call (d1 := d + 4) (j1 := 57) (ls1 := [some (.ref 1), some (.int x5), some (.int x6)]) (rest := []) (fun f => rfl) ?_
  refine p_X5_targetOf (d := d + 3) x5 x6 I J (t := o) ho ?_
  exact p_X6_wordInput_5 x1 x2 x3 s0 x5 x6 x7 o.1 o.2.1 o.2.2 h hC
theorem p_X6_wordInput_3 {L : Nat} {xs : Nat → Int32} {d : Nat} {Q : xO → Prop} (x1 : Int32) (x2 : Int32) (x3 : Int32) (x4 : Int32) (x5 : Int32) (x6 : Int32) (x7 : Int32) (I : xI) (J : xJ) {t : (Int32 × Int32 × Int32 × Int32 × Int32 × Int32 × Int32 × xI × xJ) ⊕ (Int32 × xI × xJ)} (h : f_X6_wordInput_3 x1 x2 x3 x4 x5 x6 x7 I J = some t) (hC : (c_X6_wordInput_2 L xs d Q) t) : Rn L xs (d + 5) 79 25 [some (.ref 32), some (.int x1), some (.int x2), some (.int x3), some (.int x4), some (.int x5), some (.int x6), some (.int x7)] [] 94 (I, J, xrf) Q := by
  unfold f_X6_wordInput_3 at h
  refine Rn.go 4 (j' := 79) (pc' := 33) (ls' := [some (.ref 32), some (.int x1), some (.int x2), some (.int x3), some (.int x4), some (.int x5), some (.int x6), some (.int x7)]) (st' := [.int x6, .int x4, .ref 1]) (n' := 94) (M' := (I, J, xrf)) (fun f => rfl) ?_
  obtain ⟨o, ho, h⟩ := Option.bind_eq_some_iff.mp h
  refine Rn.call (d1 := d + 4) (j1 := 57) (ls1 := [some (.ref 1), some (.int x4), some (.int x6)]) (rest := []) (fun f => rfl) ?_
  refine p_X5_targetOf (d := d + 3) x4 x6 I J (t := o) ho ?_
  exact p_X6_wordInput_4 x1 x2 x3 x4 x5 x6 x7 o.1 o.2.1 o.2.2 h hC
theorem q_X6_wordInput_2 {L : Nat} {xs : Nat → Int32} {d : Nat} {Q : xO → Prop} (x1 : Int32) (x2 : Int32) (x3 : Int32) (x4 : Int32) (x5 : Int32) (x6 : Int32) (x7 : Int32) (I : xI) (J : xJ) {t : (Int32 × Int32 × Int32 × Int32 × Int32 × Int32 × Int32 × xI × xJ) ⊕ (Int32 × xI × xJ)} (h : b_X6_wordInput_2 x1 x2 x3 x4 x5 x6 x7 I J = some t) (hC : (c_X6_wordInput_2 L xs d Q) t) : Rn L xs (d + 5) 79 19 [some (.ref 32), some (.int x1), some (.int x2), some (.int x3), some (.int x4), some (.int x5), some (.int x6), some (.int x7)] [] 94 (I, J, xrf) Q := by
  unfold b_X6_wordInput_2 at h
  refine Rn.fi 3 (c := x3 ≤ x7) (p1 := 67) (l1 := [some (.ref 32), some (.int x1), some (.int x2), some (.int x3), some (.int x4), some (.int x5), some (.int x6), some (.int x7)]) (s1 := []) (n1 := 94) (M1 := (I, J, xrf)) (p2 := 25) (l2 := [some (.ref 32), some (.int x1), some (.int x2), some (.int x3), some (.int x4), some (.int x5), some (.int x6), some (.int x7)]) (s2 := []) (n2 := 94) (M2 := (I, J, xrf)) (fun f => rfl) (fun hc => ?_) (fun hc => ?_)
  · rw [if_pos hc] at h
    obtain ⟨t0, h0, rfl⟩ := Option.map_eq_some_iff.mp h
    exact p_X6_wordInput_7 x1 x2 x3 x4 x5 x6 x7 I J h0 hC
  · rw [if_neg hc] at h
    exact p_X6_wordInput_3 x1 x2 x3 x4 x5 x6 x7 I J h hC
theorem p_X6_wordInput_2 {L : Nat} {xs : Nat → Int32} {d : Nat} {Q : xO → Prop} (x1 : Int32) (x2 : Int32) (x3 : Int32) (x4 : Int32) (x5 : Int32) (x6 : Int32) (x7 : Int32) (I : xI) (J : xJ) {t : Int32 × xI × xJ} (h : f_X6_wordInput_2 x1 x2 x3 x4 x5 x6 x7 I J = some t) (hC : (c_X6_wordInput Q) t) : Rn L xs (d + 5) 79 19 [some (.ref 32), some (.int x1), some (.int x2), some (.int x3), some (.int x4), some (.int x5), some (.int x6), some (.int x7)] [] 94 (I, J, xrf) Q := by
  unfold f_X6_wordInput_2 at h
  exact xloop_some (P := fun s : Int32 × Int32 × Int32 × Int32 × Int32 × Int32 × Int32 × xI × xJ => Rn L xs (d + 5) 79 19 [some (.ref 32), some (.int s.1), some (.int s.2.1), some (.int s.2.2.1), some (.int s.2.2.2.1), some (.int s.2.2.2.2.1), some (.int s.2.2.2.2.2.1), some (.int s.2.2.2.2.2.2.1)] [] 94 (s.2.2.2.2.2.2.2.1, s.2.2.2.2.2.2.2.2, xrf) Q) t (fun s ⟨s', hb, hp⟩ => q_X6_wordInput_2 s.1 s.2.1 s.2.2.1 s.2.2.2.1 s.2.2.2.2.1 s.2.2.2.2.2.1 s.2.2.2.2.2.2.1 s.2.2.2.2.2.2.2.1 s.2.2.2.2.2.2.2.2 hb hp) (fun s hb => q_X6_wordInput_2 s.1 s.2.1 s.2.2.1 s.2.2.2.1 s.2.2.2.2.1 s.2.2.2.2.2.1 s.2.2.2.2.2.2.1 s.2.2.2.2.2.2.2.1 s.2.2.2.2.2.2.2.2 hb hC) _ _ h
theorem p_X6_wordInput_1 {L : Nat} {xs : Nat → Int32} {d : Nat} {Q : xO → Prop} (x1 : Int32) (x2 : Int32) (x3 : Int32) (x4 : Int32) (x5 : Int32) (s0 : Int32) (I : xI) (J : xJ) {t : Int32 × xI × xJ} (h : f_X6_wordInput_1 x1 x2 x3 x4 x5 s0 I J = some t) (hC : (c_X6_wordInput Q) t) : Rn L xs (d + 5) 79 14 [some (.ref 32), some (.int x1), some (.int x2), some (.int x3), some (.int x4), some (.int x5), none, none] [.int s0] 94 (I, J, xrf) Q := by
  unfold f_X6_wordInput_1 at h
  refine Rn.go 3 (j' := 79) (pc' := 19) (ls' := [some (.ref 32), some (.int x1), some (.int x2), some (.int x3), some (.int x4), some (.int x5), some (.int s0), some (.int 0)]) (st' := []) (n' := 94) (M' := (I, J, xrf)) (fun f => rfl) ?_
  exact p_X6_wordInput_2 x1 x2 x3 x4 x5 s0 0 I J h hC
theorem p_X6_wordInput_0 {L : Nat} {xs : Nat → Int32} {d : Nat} {Q : xO → Prop} (x1 : Int32) (x2 : Int32) (x3 : Int32) (I : xI) (J : xJ) {t : Int32 × xI × xJ} (h : f_X6_wordInput_0 x1 x2 x3 I J = some t) (hC : (c_X6_wordInput Q) t) : Rn L xs (d + 5) 79 0 [some (.ref 32), some (.int x1), some (.int x2), some (.int x3), none, none, none, none] [] 94 (I, J, xrf) Q := by
  unfold f_X6_wordInput_0 at h
  refine Rn.go 7 (j' := 79) (pc' := 11) (ls' := [some (.ref 32), some (.int x1), some (.int x2), some (.int x3), some (.int x1), some (.int x2), none, none]) (st' := [.int x2, .int x1, .ref 32]) (n' := 94) (M' := (I, J, xrf)) (fun f => rfl) ?_
  obtain ⟨o, ho, h⟩ := Option.bind_eq_some_iff.mp h
  refine Rn.call (d1 := d + 4) (j1 := 80) (ls1 := [some (.ref 32), some (.int x1), some (.int x2), none, none, none]) (rest := []) (fun f => rfl) ?_
  refine p_X6_firstInput (d := d + 0) x1 x2 I J (t := o) ho ?_
  exact p_X6_wordInput_1 x1 x2 x3 x1 x2 o.1 o.2.1 o.2.2 h hC
theorem p_X6_wordInput {L : Nat} {xs : Nat → Int32} {d : Nat} {Q : xO → Prop} (x1 : Int32) (x2 : Int32) (x3 : Int32) (I : xI) (J : xJ) {t : Int32 × xI × xJ} (h : f_X6_wordInput x1 x2 x3 I J = some t) (hC : Q ((some (.int t.1)), 94, (t.2.1, t.2.2, xrf))) : Rn L xs (d + 5) 79 0 [some (.ref 32), some (.int x1), some (.int x2), some (.int x3), none, none, none, none] [] 94 (I, J, xrf) Q := p_X6_wordInput_0 x1 x2 x3 I J h hC
/-! X11_word -/
def c_X11_word (Q : xO → Prop) (t : Int32 × xI × xJ) : Prop := Q ((some (.int t.1)), 94, (t.2.1, t.2.2, xrf))
def f_X11_word_4 (x1 : Int32) (x2 : Int32) (x3 : Int32) (I : xI) (J : xJ) : Option (Int32 × xI × xJ) := some ((-1), I, J)
def f_X11_word_16 (x1 : Int32) (x2 : Int32) (x3 : Int32) (x4 : Int32) (x5 : Int32) (s0 : Int32) (I : xI) (J : xJ) : Option (Int32 × xI × xJ) := some (s0, I, J)
def f_X11_word_15 (x1 : Int32) (x2 : Int32) (x3 : Int32) (x4 : Int32) (x5 : Int32) (I : xI) (J : xJ) : Option (Int32 × xI × xJ) := f_X11_word_16 x1 x2 x3 x4 x5 ((-1)) I J
def f_X11_word_14 (x1 : Int32) (x2 : Int32) (x3 : Int32) (x4 : Int32) (x5 : Int32) (s0 : Int32) (I : xI) (J : xJ) : Option (Int32 × xI × xJ) := f_X11_word_16 x1 x2 x3 x4 x5 s0 I J
def f_X11_word_13 (x1 : Int32) (x2 : Int32) (x3 : Int32) (x4 : Int32) (x5 : Int32) (I : xI) (J : xJ) : Option (Int32 × xI × xJ) := (f_X6_wordInput x1 x2 x3 I J).bind fun o => f_X11_word_14 x1 x2 x3 x4 x5 o.1 o.2.1 o.2.2
def f_X11_word_12 (x1 : Int32) (x2 : Int32) (x3 : Int32) (x4 : Int32) (x5 : Int32) (I : xI) (J : xJ) : Option (Int32 × xI × xJ) := if x5 ≤ x3 then f_X11_word_15 x1 x2 x3 x4 x5 I J else f_X11_word_13 x1 x2 x3 x4 x5 I J
def f_X11_word_11 (x1 : Int32) (x2 : Int32) (x3 : Int32) (x4 : Int32) (x5 : Int32) (I : xI) (J : xJ) : Option (Int32 × xI × xJ) := if x3 < 0 then f_X11_word_15 x1 x2 x3 x4 x5 I J else f_X11_word_12 x1 x2 x3 x4 x5 I J
def f_X11_word_10 (x1 : Int32) (x2 : Int32) (x3 : Int32) (x4 : Int32) (x5 : Int32) (I : xI) (J : xJ) : Option (Int32 × xI × xJ) := some (x5, I, J)
def f_X11_word_9 (x1 : Int32) (x2 : Int32) (x3 : Int32) (x4 : Int32) (I : xI) (J : xJ) : Option (Int32 × xI × xJ) := if x3 = (-1) then f_X11_word_10 x1 x2 x3 x4 ((x4 + 1)) I J else f_X11_word_11 x1 x2 x3 x4 ((x4 + 1)) I J
def f_X11_word_8 (x1 : Int32) (x2 : Int32) (x3 : Int32) (x4 : Int32) (I : xI) (J : xJ) : Option (Int32 × xI × xJ) := some ((-2), I, J)
def f_X11_word_7 (x1 : Int32) (x2 : Int32) (x3 : Int32) (s0 : Int32) (I : xI) (J : xJ) : Option (Int32 × xI × xJ) := if s0 = (-2) then f_X11_word_8 x1 x2 x3 s0 I J else f_X11_word_9 x1 x2 x3 s0 I J
def f_X11_word_6 (x1 : Int32) (x2 : Int32) (x3 : Int32) (I : xI) (J : xJ) : Option (Int32 × xI × xJ) := (f_X6_roundOf x1 x2 I J).bind fun o => f_X11_word_7 x1 x2 x3 o.1 o.2.1 o.2.2
def f_X11_word_5 (x1 : Int32) (x2 : Int32) (x3 : Int32) (I : xI) (J : xJ) : Option (Int32 × xI × xJ) := (f_X11_pairsNow I J).bind fun o => f_X11_word_6 x1 x2 x3 o.2.1 o.2.2
def f_X11_word_3 (x1 : Int32) (x2 : Int32) (x3 : Int32) (s0 : Int32) (I : xI) (J : xJ) : Option (Int32 × xI × xJ) := if s0 = 0 then f_X11_word_4 x1 x2 x3 I J else f_X11_word_5 x1 x2 x3 I J
def f_X11_word_2 (x1 : Int32) (x2 : Int32) (x3 : Int32) (I : xI) (J : xJ) : Option (Int32 × xI × xJ) := (f_X5_hasState x2 I J).bind fun o => f_X11_word_3 x1 x2 x3 o.1 o.2.1 o.2.2
def f_X11_word_1 (x1 : Int32) (x2 : Int32) (x3 : Int32) (s0 : Int32) (I : xI) (J : xJ) : Option (Int32 × xI × xJ) := if s0 = 0 then f_X11_word_4 x1 x2 x3 I J else f_X11_word_2 x1 x2 x3 I J
def f_X11_word_0 (x1 : Int32) (x2 : Int32) (x3 : Int32) (I : xI) (J : xJ) : Option (Int32 × xI × xJ) := (f_X5_hasState x1 I J).bind fun o => f_X11_word_1 x1 x2 x3 o.1 o.2.1 o.2.2
def f_X11_word (x1 : Int32) (x2 : Int32) (x3 : Int32) (I : xI) (J : xJ) : Option (Int32 × xI × xJ) := f_X11_word_0 x1 x2 x3 I J
theorem p_X11_word_4 {L : Nat} {xs : Nat → Int32} {d : Nat} {Q : xO → Prop} (x1 : Int32) (x2 : Int32) (x3 : Int32) (I : xI) (J : xJ) {t : Int32 × xI × xJ} (h : f_X11_word_4 x1 x2 x3 I J = some t) (hC : (c_X11_word Q) t) : Rn L xs (d + 6) 147 22 [some (.ref 0), some (.int x1), some (.int x2), some (.int x3), none, none] [] 94 (I, J, xrf) Q := by
  unfold f_X11_word_4 at h
  cases h
  exact Rn.ret 2 (o := ((some (.int ((-1)))), 94, (I, J, xrf))) (fun f => rfl) hC
theorem p_X11_word_16 {L : Nat} {xs : Nat → Int32} {d : Nat} {Q : xO → Prop} (x1 : Int32) (x2 : Int32) (x3 : Int32) (x4 : Int32) (x5 : Int32) (s0 : Int32) (I : xI) (J : xJ) {t : Int32 × xI × xJ} (h : f_X11_word_16 x1 x2 x3 x4 x5 s0 I J = some t) (hC : (c_X11_word Q) t) : Rn L xs (d + 6) 147 83 [some (.ref 0), some (.int x1), some (.int x2), some (.int x3), some (.int x4), some (.int x5)] [.int s0] 94 (I, J, xrf) Q := by
  unfold f_X11_word_16 at h
  cases h
  exact Rn.ret 1 (o := ((some (.int s0)), 94, (I, J, xrf))) (fun f => rfl) hC
theorem p_X11_word_15 {L : Nat} {xs : Nat → Int32} {d : Nat} {Q : xO → Prop} (x1 : Int32) (x2 : Int32) (x3 : Int32) (x4 : Int32) (x5 : Int32) (I : xI) (J : xJ) {t : Int32 × xI × xJ} (h : f_X11_word_15 x1 x2 x3 x4 x5 I J = some t) (hC : (c_X11_word Q) t) : Rn L xs (d + 6) 147 82 [some (.ref 0), some (.int x1), some (.int x2), some (.int x3), some (.int x4), some (.int x5)] [] 94 (I, J, xrf) Q := by
  unfold f_X11_word_15 at h
  refine Rn.go 1 (j' := 147) (pc' := 83) (ls' := [some (.ref 0), some (.int x1), some (.int x2), some (.int x3), some (.int x4), some (.int x5)]) (st' := [.int ((-1))]) (n' := 94) (M' := (I, J, xrf)) (fun f => rfl) ?_
  exact p_X11_word_16 x1 x2 x3 x4 x5 ((-1)) I J h hC
theorem p_X11_word_14 {L : Nat} {xs : Nat → Int32} {d : Nat} {Q : xO → Prop} (x1 : Int32) (x2 : Int32) (x3 : Int32) (x4 : Int32) (x5 : Int32) (s0 : Int32) (I : xI) (J : xJ) {t : Int32 × xI × xJ} (h : f_X11_word_14 x1 x2 x3 x4 x5 s0 I J = some t) (hC : (c_X11_word Q) t) : Rn L xs (d + 6) 147 79 [some (.ref 0), some (.int x1), some (.int x2), some (.int x3), some (.int x4), some (.int x5)] [.int s0] 94 (I, J, xrf) Q := by
  unfold f_X11_word_14 at h
  refine Rn.go 1 (j' := 147) (pc' := 83) (ls' := [some (.ref 0), some (.int x1), some (.int x2), some (.int x3), some (.int x4), some (.int x5)]) (st' := [.int s0]) (n' := 94) (M' := (I, J, xrf)) (fun f => rfl) ?_
  exact p_X11_word_16 x1 x2 x3 x4 x5 s0 I J h hC
theorem p_X11_word_13 {L : Nat} {xs : Nat → Int32} {d : Nat} {Q : xO → Prop} (x1 : Int32) (x2 : Int32) (x3 : Int32) (x4 : Int32) (x5 : Int32) (I : xI) (J : xJ) {t : Int32 × xI × xJ} (h : f_X11_word_13 x1 x2 x3 x4 x5 I J = some t) (hC : (c_X11_word Q) t) : Rn L xs (d + 6) 147 69 [some (.ref 0), some (.int x1), some (.int x2), some (.int x3), some (.int x4), some (.int x5)] [] 94 (I, J, xrf) Q := by
  unfold f_X11_word_13 at h
  refine Rn.go 5 (j' := 147) (pc' := 76) (ls' := [some (.ref 0), some (.int x1), some (.int x2), some (.int x3), some (.int x4), some (.int x5)]) (st' := [.int x3, .int x2, .int x1, .ref 32]) (n' := 94) (M' := (I, J, xrf)) (fun f => rfl) ?_
  obtain ⟨o, ho, h⟩ := Option.bind_eq_some_iff.mp h
  refine Rn.call (d1 := d + 5) (j1 := 79) (ls1 := [some (.ref 32), some (.int x1), some (.int x2), some (.int x3), none, none, none, none]) (rest := []) (fun f => rfl) ?_
  refine p_X6_wordInput (d := d + 0) x1 x2 x3 I J (t := o) ho ?_
  exact p_X11_word_14 x1 x2 x3 x4 x5 o.1 o.2.1 o.2.2 h hC
theorem p_X11_word_12 {L : Nat} {xs : Nat → Int32} {d : Nat} {Q : xO → Prop} (x1 : Int32) (x2 : Int32) (x3 : Int32) (x4 : Int32) (x5 : Int32) (I : xI) (J : xJ) {t : Int32 × xI × xJ} (h : f_X11_word_12 x1 x2 x3 x4 x5 I J = some t) (hC : (c_X11_word Q) t) : Rn L xs (d + 6) 147 63 [some (.ref 0), some (.int x1), some (.int x2), some (.int x3), some (.int x4), some (.int x5)] [] 94 (I, J, xrf) Q := by
  unfold f_X11_word_12 at h
  refine Rn.fi 3 (c := x5 ≤ x3) (p1 := 82) (l1 := [some (.ref 0), some (.int x1), some (.int x2), some (.int x3), some (.int x4), some (.int x5)]) (s1 := []) (n1 := 94) (M1 := (I, J, xrf)) (p2 := 69) (l2 := [some (.ref 0), some (.int x1), some (.int x2), some (.int x3), some (.int x4), some (.int x5)]) (s2 := []) (n2 := 94) (M2 := (I, J, xrf)) (fun f => rfl) (fun hc => ?_) (fun hc => ?_)
  · rw [if_pos hc] at h
    exact p_X11_word_15 x1 x2 x3 x4 x5 I J h hC
  · rw [if_neg hc] at h
    exact p_X11_word_13 x1 x2 x3 x4 x5 I J h hC
theorem p_X11_word_11 {L : Nat} {xs : Nat → Int32} {d : Nat} {Q : xO → Prop} (x1 : Int32) (x2 : Int32) (x3 : Int32) (x4 : Int32) (x5 : Int32) (I : xI) (J : xJ) {t : Int32 × xI × xJ} (h : f_X11_word_11 x1 x2 x3 x4 x5 I J = some t) (hC : (c_X11_word Q) t) : Rn L xs (d + 6) 147 59 [some (.ref 0), some (.int x1), some (.int x2), some (.int x3), some (.int x4), some (.int x5)] [] 94 (I, J, xrf) Q := by
  unfold f_X11_word_11 at h
  refine Rn.fi 2 (c := x3 < 0) (p1 := 82) (l1 := [some (.ref 0), some (.int x1), some (.int x2), some (.int x3), some (.int x4), some (.int x5)]) (s1 := []) (n1 := 94) (M1 := (I, J, xrf)) (p2 := 63) (l2 := [some (.ref 0), some (.int x1), some (.int x2), some (.int x3), some (.int x4), some (.int x5)]) (s2 := []) (n2 := 94) (M2 := (I, J, xrf)) (fun f => rfl) (fun hc => ?_) (fun hc => ?_)
  · rw [if_pos hc] at h
    exact p_X11_word_15 x1 x2 x3 x4 x5 I J h hC
  · rw [if_neg hc] at h
    exact p_X11_word_12 x1 x2 x3 x4 x5 I J h hC
theorem p_X11_word_10 {L : Nat} {xs : Nat → Int32} {d : Nat} {Q : xO → Prop} (x1 : Int32) (x2 : Int32) (x3 : Int32) (x4 : Int32) (x5 : Int32) (I : xI) (J : xJ) {t : Int32 × xI × xJ} (h : f_X11_word_10 x1 x2 x3 x4 x5 I J = some t) (hC : (c_X11_word Q) t) : Rn L xs (d + 6) 147 56 [some (.ref 0), some (.int x1), some (.int x2), some (.int x3), some (.int x4), some (.int x5)] [] 94 (I, J, xrf) Q := by
  unfold f_X11_word_10 at h
  cases h
  exact Rn.ret 2 (o := ((some (.int x5)), 94, (I, J, xrf))) (fun f => rfl) hC
theorem p_X11_word_9 {L : Nat} {xs : Nat → Int32} {d : Nat} {Q : xO → Prop} (x1 : Int32) (x2 : Int32) (x3 : Int32) (x4 : Int32) (I : xI) (J : xJ) {t : Int32 × xI × xJ} (h : f_X11_word_9 x1 x2 x3 x4 I J = some t) (hC : (c_X11_word Q) t) : Rn L xs (d + 6) 147 45 [some (.ref 0), some (.int x1), some (.int x2), some (.int x3), some (.int x4), none] [] 94 (I, J, xrf) Q := by
  unfold f_X11_word_9 at h
  refine Rn.fi 7 (c := x3 = (-1)) (p1 := 56) (l1 := [some (.ref 0), some (.int x1), some (.int x2), some (.int x3), some (.int x4), some (.int ((x4 + 1)))]) (s1 := []) (n1 := 94) (M1 := (I, J, xrf)) (p2 := 59) (l2 := [some (.ref 0), some (.int x1), some (.int x2), some (.int x3), some (.int x4), some (.int ((x4 + 1)))]) (s2 := []) (n2 := 94) (M2 := (I, J, xrf)) (fun f => rfl) (fun hc => ?_) (fun hc => ?_)
  · rw [if_pos hc] at h
    exact p_X11_word_10 x1 x2 x3 x4 ((x4 + 1)) I J h hC
  · rw [if_neg hc] at h
    exact p_X11_word_11 x1 x2 x3 x4 ((x4 + 1)) I J h hC
theorem p_X11_word_8 {L : Nat} {xs : Nat → Int32} {d : Nat} {Q : xO → Prop} (x1 : Int32) (x2 : Int32) (x3 : Int32) (x4 : Int32) (I : xI) (J : xJ) {t : Int32 × xI × xJ} (h : f_X11_word_8 x1 x2 x3 x4 I J = some t) (hC : (c_X11_word Q) t) : Rn L xs (d + 6) 147 42 [some (.ref 0), some (.int x1), some (.int x2), some (.int x3), some (.int x4), none] [] 94 (I, J, xrf) Q := by
  unfold f_X11_word_8 at h
  cases h
  exact Rn.ret 2 (o := ((some (.int ((-2)))), 94, (I, J, xrf))) (fun f => rfl) hC
theorem p_X11_word_7 {L : Nat} {xs : Nat → Int32} {d : Nat} {Q : xO → Prop} (x1 : Int32) (x2 : Int32) (x3 : Int32) (s0 : Int32) (I : xI) (J : xJ) {t : Int32 × xI × xJ} (h : f_X11_word_7 x1 x2 x3 s0 I J = some t) (hC : (c_X11_word Q) t) : Rn L xs (d + 6) 147 33 [some (.ref 0), some (.int x1), some (.int x2), some (.int x3), none, none] [.int s0] 94 (I, J, xrf) Q := by
  unfold f_X11_word_7 at h
  refine Rn.fi 4 (c := s0 = (-2)) (p1 := 42) (l1 := [some (.ref 0), some (.int x1), some (.int x2), some (.int x3), some (.int s0), none]) (s1 := []) (n1 := 94) (M1 := (I, J, xrf)) (p2 := 45) (l2 := [some (.ref 0), some (.int x1), some (.int x2), some (.int x3), some (.int s0), none]) (s2 := []) (n2 := 94) (M2 := (I, J, xrf)) (fun f => rfl) (fun hc => ?_) (fun hc => ?_)
  · rw [if_pos hc] at h
    exact p_X11_word_8 x1 x2 x3 s0 I J h hC
  · rw [if_neg hc] at h
    exact p_X11_word_9 x1 x2 x3 s0 I J h hC
theorem p_X11_word_6 {L : Nat} {xs : Nat → Int32} {d : Nat} {Q : xO → Prop} (x1 : Int32) (x2 : Int32) (x3 : Int32) (I : xI) (J : xJ) {t : Int32 × xI × xJ} (h : f_X11_word_6 x1 x2 x3 I J = some t) (hC : (c_X11_word Q) t) : Rn L xs (d + 6) 147 28 [some (.ref 0), some (.int x1), some (.int x2), some (.int x3), none, none] [.ref 32] 94 (I, J, xrf) Q := by
  unfold f_X11_word_6 at h
  refine Rn.go 2 (j' := 147) (pc' := 30) (ls' := [some (.ref 0), some (.int x1), some (.int x2), some (.int x3), none, none]) (st' := [.int x2, .int x1, .ref 32]) (n' := 94) (M' := (I, J, xrf)) (fun f => rfl) ?_
  obtain ⟨o, ho, h⟩ := Option.bind_eq_some_iff.mp h
  refine Rn.call (d1 := d + 5) (j1 := 76) (ls1 := [some (.ref 32), some (.int x1), some (.int x2)]) (rest := []) (fun f => rfl) ?_
  refine p_X6_roundOf (d := d + 2) x1 x2 I J (t := o) ho ?_
  exact p_X11_word_7 x1 x2 x3 o.1 o.2.1 o.2.2 h hC
theorem p_X11_word_5 {L : Nat} {xs : Nat → Int32} {d : Nat} {Q : xO → Prop} (x1 : Int32) (x2 : Int32) (x3 : Int32) (I : xI) (J : xJ) {t : Int32 × xI × xJ} (h : f_X11_word_5 x1 x2 x3 I J = some t) (hC : (c_X11_word Q) t) : Rn L xs (d + 6) 147 24 [some (.ref 0), some (.int x1), some (.int x2), some (.int x3), none, none] [] 94 (I, J, xrf) Q := by
  unfold f_X11_word_5 at h
  refine Rn.go 1 (j' := 147) (pc' := 25) (ls' := [some (.ref 0), some (.int x1), some (.int x2), some (.int x3), none, none]) (st' := [.ref 0]) (n' := 94) (M' := (I, J, xrf)) (fun f => rfl) ?_
  obtain ⟨o, ho, h⟩ := Option.bind_eq_some_iff.mp h
  refine Rn.call (d1 := d + 5) (j1 := 176) (ls1 := [some (.ref 0)]) (rest := []) (fun f => rfl) ?_
  refine p_X11_pairsNow (d := d + 0) I J (t := o) ho ?_
  exact p_X11_word_6 x1 x2 x3 o.2.1 o.2.2 h hC
theorem p_X11_word_3 {L : Nat} {xs : Nat → Int32} {d : Nat} {Q : xO → Prop} (x1 : Int32) (x2 : Int32) (x3 : Int32) (s0 : Int32) (I : xI) (J : xJ) {t : Int32 × xI × xJ} (h : f_X11_word_3 x1 x2 x3 s0 I J = some t) (hC : (c_X11_word Q) t) : Rn L xs (d + 6) 147 19 [some (.ref 0), some (.int x1), some (.int x2), some (.int x3), none, none] [.int s0] 94 (I, J, xrf) Q := by
  unfold f_X11_word_3 at h
  refine Rn.fi 1 (c := s0 = 0) (p1 := 22) (l1 := [some (.ref 0), some (.int x1), some (.int x2), some (.int x3), none, none]) (s1 := []) (n1 := 94) (M1 := (I, J, xrf)) (p2 := 24) (l2 := [some (.ref 0), some (.int x1), some (.int x2), some (.int x3), none, none]) (s2 := []) (n2 := 94) (M2 := (I, J, xrf)) (fun f => rfl) (fun hc => ?_) (fun hc => ?_)
  · rw [if_pos hc] at h
    exact p_X11_word_4 x1 x2 x3 I J h hC
  · rw [if_neg hc] at h
    exact p_X11_word_5 x1 x2 x3 I J h hC
theorem p_X11_word_2 {L : Nat} {xs : Nat → Int32} {d : Nat} {Q : xO → Prop} (x1 : Int32) (x2 : Int32) (x3 : Int32) (I : xI) (J : xJ) {t : Int32 × xI × xJ} (h : f_X11_word_2 x1 x2 x3 I J = some t) (hC : (c_X11_word Q) t) : Rn L xs (d + 6) 147 11 [some (.ref 0), some (.int x1), some (.int x2), some (.int x3), none, none] [] 94 (I, J, xrf) Q := by
  unfold f_X11_word_2 at h
  refine Rn.go 3 (j' := 147) (pc' := 16) (ls' := [some (.ref 0), some (.int x1), some (.int x2), some (.int x3), none, none]) (st' := [.int x2, .ref 1]) (n' := 94) (M' := (I, J, xrf)) (fun f => rfl) ?_
  obtain ⟨o, ho, h⟩ := Option.bind_eq_some_iff.mp h
  refine Rn.call (d1 := d + 5) (j1 := 51) (ls1 := [some (.ref 1), some (.int x2)]) (rest := []) (fun f => rfl) ?_
  refine p_X5_hasState (d := d + 4) x2 I J (t := o) ho ?_
  exact p_X11_word_3 x1 x2 x3 o.1 o.2.1 o.2.2 h hC
theorem p_X11_word_1 {L : Nat} {xs : Nat → Int32} {d : Nat} {Q : xO → Prop} (x1 : Int32) (x2 : Int32) (x3 : Int32) (s0 : Int32) (I : xI) (J : xJ) {t : Int32 × xI × xJ} (h : f_X11_word_1 x1 x2 x3 s0 I J = some t) (hC : (c_X11_word Q) t) : Rn L xs (d + 6) 147 8 [some (.ref 0), some (.int x1), some (.int x2), some (.int x3), none, none] [.int s0] 94 (I, J, xrf) Q := by
  unfold f_X11_word_1 at h
  refine Rn.fi 1 (c := s0 = 0) (p1 := 22) (l1 := [some (.ref 0), some (.int x1), some (.int x2), some (.int x3), none, none]) (s1 := []) (n1 := 94) (M1 := (I, J, xrf)) (p2 := 11) (l2 := [some (.ref 0), some (.int x1), some (.int x2), some (.int x3), none, none]) (s2 := []) (n2 := 94) (M2 := (I, J, xrf)) (fun f => rfl) (fun hc => ?_) (fun hc => ?_)
  · rw [if_pos hc] at h
    exact p_X11_word_4 x1 x2 x3 I J h hC
  · rw [if_neg hc] at h
    exact p_X11_word_2 x1 x2 x3 I J h hC
theorem p_X11_word_0 {L : Nat} {xs : Nat → Int32} {d : Nat} {Q : xO → Prop} (x1 : Int32) (x2 : Int32) (x3 : Int32) (I : xI) (J : xJ) {t : Int32 × xI × xJ} (h : f_X11_word_0 x1 x2 x3 I J = some t) (hC : (c_X11_word Q) t) : Rn L xs (d + 6) 147 0 [some (.ref 0), some (.int x1), some (.int x2), some (.int x3), none, none] [] 94 (I, J, xrf) Q := by
  unfold f_X11_word_0 at h
  refine Rn.go 3 (j' := 147) (pc' := 5) (ls' := [some (.ref 0), some (.int x1), some (.int x2), some (.int x3), none, none]) (st' := [.int x1, .ref 1]) (n' := 94) (M' := (I, J, xrf)) (fun f => rfl) ?_
  obtain ⟨o, ho, h⟩ := Option.bind_eq_some_iff.mp h
  refine Rn.call (d1 := d + 5) (j1 := 51) (ls1 := [some (.ref 1), some (.int x1)]) (rest := []) (fun f => rfl) ?_
  refine p_X5_hasState (d := d + 4) x1 I J (t := o) ho ?_
  exact p_X11_word_1 x1 x2 x3 o.1 o.2.1 o.2.2 h hC
theorem p_X11_word {L : Nat} {xs : Nat → Int32} {d : Nat} {Q : xO → Prop} (x1 : Int32) (x2 : Int32) (x3 : Int32) (I : xI) (J : xJ) {t : Int32 × xI × xJ} (h : f_X11_word x1 x2 x3 I J = some t) (hC : Q ((some (.int t.1)), 94, (t.2.1, t.2.2, xrf))) : Rn L xs (d + 6) 147 0 [some (.ref 0), some (.int x1), some (.int x2), some (.int x3), none, none] [] 94 (I, J, xrf) Q := p_X11_word_0 x1 x2 x3 I J h hC
/-! X6_startStand -/
def c_X6_startStand (Q : xO → Prop) (t : Int32 × xI × xJ) : Prop := Q ((some (.int t.1)), 94, (t.2.1, t.2.2, xrf))
def c_X6_startStand_1 (L : Nat) (xs : Nat → Int32) (d : Nat) (Q : xO → Prop) (t : (Int32 × Int32 × xI × xJ) ⊕ (Int32 × xI × xJ)) : Prop := match t with
  | .inl s => Rn L xs (d + 1) 82 4 [some (.int s.1), some (.int s.2.1)] [] 94 (s.2.2.1, s.2.2.2, xrf) Q
  | .inr t => (c_X6_startStand Q) t
def f_X6_startStand_3 (x0 : Int32) (x1 : Int32) (I : xI) (J : xJ) : Option (Int32 × xI × xJ) := some (x0, I, J)
def f_X6_startStand_2 (x0 : Int32) (x1 : Int32) (I : xI) (J : xJ) : Option ((Int32 × Int32 × xI × xJ) ⊕ (Int32 × xI × xJ)) := some (.inl (((x0 ||| (x1 <<< ((3 * x1) &&& 31)))), ((x1 + 1)), I, J))
def b_X6_startStand_1 (x0 : Int32) (x1 : Int32) (I : xI) (J : xJ) : Option ((Int32 × Int32 × xI × xJ) ⊕ (Int32 × xI × xJ)) := if 6 ≤ x1 then ((f_X6_startStand_3 x0 x1 I J)).map .inr else f_X6_startStand_2 x0 x1 I J
def f_X6_startStand_1 (x0 : Int32) (x1 : Int32) (I : xI) (J : xJ) : Option (Int32 × xI × xJ) := xloop (fun s : Int32 × Int32 × xI × xJ => b_X6_startStand_1 s.1 s.2.1 s.2.2.1 s.2.2.2) 5000 (x0, x1, I, J)
def f_X6_startStand_0 (I : xI) (J : xJ) : Option (Int32 × xI × xJ) := f_X6_startStand_1 0 0 I J
def f_X6_startStand (I : xI) (J : xJ) : Option (Int32 × xI × xJ) := f_X6_startStand_0 I J
theorem p_X6_startStand_3 {L : Nat} {xs : Nat → Int32} {d : Nat} {Q : xO → Prop} (x0 : Int32) (x1 : Int32) (I : xI) (J : xJ) {t : Int32 × xI × xJ} (h : f_X6_startStand_3 x0 x1 I J = some t) (hC : (c_X6_startStand Q) t) : Rn L xs (d + 1) 82 24 [some (.int x0), some (.int x1)] [] 94 (I, J, xrf) Q := by
  unfold f_X6_startStand_3 at h
  cases h
  exact Rn.ret 2 (o := ((some (.int x0)), 94, (I, J, xrf))) (fun f => rfl) hC
theorem p_X6_startStand_2 {L : Nat} {xs : Nat → Int32} {d : Nat} {Q : xO → Prop} (x0 : Int32) (x1 : Int32) (I : xI) (J : xJ) {t : (Int32 × Int32 × xI × xJ) ⊕ (Int32 × xI × xJ)} (h : f_X6_startStand_2 x0 x1 I J = some t) (hC : (c_X6_startStand_1 L xs d Q) t) : Rn L xs (d + 1) 82 10 [some (.int x0), some (.int x1)] [] 94 (I, J, xrf) Q := by
  unfold f_X6_startStand_2 at h
  refine Rn.go 10 (j' := 82) (pc' := 4) (ls' := [some (.int ((x0 ||| (x1 <<< ((3 * x1) &&& 31))))), some (.int ((x1 + 1)))]) (st' := []) (n' := 94) (M' := (I, J, xrf)) (fun f => rfl) ?_
  cases h; exact hC
theorem q_X6_startStand_1 {L : Nat} {xs : Nat → Int32} {d : Nat} {Q : xO → Prop} (x0 : Int32) (x1 : Int32) (I : xI) (J : xJ) {t : (Int32 × Int32 × xI × xJ) ⊕ (Int32 × xI × xJ)} (h : b_X6_startStand_1 x0 x1 I J = some t) (hC : (c_X6_startStand_1 L xs d Q) t) : Rn L xs (d + 1) 82 4 [some (.int x0), some (.int x1)] [] 94 (I, J, xrf) Q := by
  unfold b_X6_startStand_1 at h
  refine Rn.fi 3 (c := 6 ≤ x1) (p1 := 24) (l1 := [some (.int x0), some (.int x1)]) (s1 := []) (n1 := 94) (M1 := (I, J, xrf)) (p2 := 10) (l2 := [some (.int x0), some (.int x1)]) (s2 := []) (n2 := 94) (M2 := (I, J, xrf)) (fun f => rfl) (fun hc => ?_) (fun hc => ?_)
  · rw [if_pos hc] at h
    obtain ⟨t0, h0, rfl⟩ := Option.map_eq_some_iff.mp h
    exact p_X6_startStand_3 x0 x1 I J h0 hC
  · rw [if_neg hc] at h
    exact p_X6_startStand_2 x0 x1 I J h hC
theorem p_X6_startStand_1 {L : Nat} {xs : Nat → Int32} {d : Nat} {Q : xO → Prop} (x0 : Int32) (x1 : Int32) (I : xI) (J : xJ) {t : Int32 × xI × xJ} (h : f_X6_startStand_1 x0 x1 I J = some t) (hC : (c_X6_startStand Q) t) : Rn L xs (d + 1) 82 4 [some (.int x0), some (.int x1)] [] 94 (I, J, xrf) Q := by
  unfold f_X6_startStand_1 at h
  exact xloop_some (P := fun s : Int32 × Int32 × xI × xJ => Rn L xs (d + 1) 82 4 [some (.int s.1), some (.int s.2.1)] [] 94 (s.2.2.1, s.2.2.2, xrf) Q) t (fun s ⟨s', hb, hp⟩ => q_X6_startStand_1 s.1 s.2.1 s.2.2.1 s.2.2.2 hb hp) (fun s hb => q_X6_startStand_1 s.1 s.2.1 s.2.2.1 s.2.2.2 hb hC) _ _ h
theorem p_X6_startStand_0 {L : Nat} {xs : Nat → Int32} {d : Nat} {Q : xO → Prop} (I : xI) (J : xJ) {t : Int32 × xI × xJ} (h : f_X6_startStand_0 I J = some t) (hC : (c_X6_startStand Q) t) : Rn L xs (d + 1) 82 0 [none, none] [] 94 (I, J, xrf) Q := by
  unfold f_X6_startStand_0 at h
  refine Rn.go 4 (j' := 82) (pc' := 4) (ls' := [some (.int 0), some (.int 0)]) (st' := []) (n' := 94) (M' := (I, J, xrf)) (fun f => rfl) ?_
  exact p_X6_startStand_1 0 0 I J h hC
theorem p_X6_startStand {L : Nat} {xs : Nat → Int32} {d : Nat} {Q : xO → Prop} (I : xI) (J : xJ) {t : Int32 × xI × xJ} (h : f_X6_startStand I J = some t) (hC : Q ((some (.int t.1)), 94, (t.2.1, t.2.2, xrf))) : Rn L xs (d + 1) 82 0 [none, none] [] 94 (I, J, xrf) Q := p_X6_startStand_0 I J h hC
/-! X6_roundBetween -/
def c_X6_roundBetween (Q : xO → Prop) (t : Int32 × xI × xJ) : Prop := Q ((some (.int t.1)), 94, (t.2.1, t.2.2, xrf))
def f_X6_roundBetween_5 (x1 : Int32) (x2 : Int32) (s0 : Int32) (I : xI) (J : xJ) : Option (Int32 × xI × xJ) := some (s0, I, J)
def f_X6_roundBetween_2 (x1 : Int32) (x2 : Int32) (I : xI) (J : xJ) : Option (Int32 × xI × xJ) := f_X6_roundBetween_5 x1 x2 ((-2)) I J
def f_X6_roundBetween_4 (x1 : Int32) (x2 : Int32) (s1 : Int32) (I : xI) (J : xJ) : Option (Int32 × xI × xJ) := (f_X6_roundIn s1 I J).bind fun o => f_X6_roundBetween_5 x1 x2 o.1 o.2.1 o.2.2
def f_X6_roundBetween_3 (x1 : Int32) (x2 : Int32) (I : xI) (J : xJ) : Option (Int32 × xI × xJ) := (f_X11_pairOf x1 x2 I J).bind fun o => f_X6_roundBetween_4 x1 x2 o.1 o.2.1 o.2.2
def f_X6_roundBetween_1 (x1 : Int32) (x2 : Int32) (I : xI) (J : xJ) : Option (Int32 × xI × xJ) := if x2 = 7 then f_X6_roundBetween_2 x1 x2 I J else f_X6_roundBetween_3 x1 x2 I J
def f_X6_roundBetween_0 (x1 : Int32) (x2 : Int32) (I : xI) (J : xJ) : Option (Int32 × xI × xJ) := if x1 = 7 then f_X6_roundBetween_2 x1 x2 I J else f_X6_roundBetween_1 x1 x2 I J
def f_X6_roundBetween (x1 : Int32) (x2 : Int32) (I : xI) (J : xJ) : Option (Int32 × xI × xJ) := f_X6_roundBetween_0 x1 x2 I J
theorem p_X6_roundBetween_5 {L : Nat} {xs : Nat → Int32} {d : Nat} {Q : xO → Prop} (x1 : Int32) (x2 : Int32) (s0 : Int32) (I : xI) (J : xJ) {t : Int32 × xI × xJ} (h : f_X6_roundBetween_5 x1 x2 s0 I J = some t) (hC : (c_X6_roundBetween Q) t) : Rn L xs (d + 3) 85 26 [some (.ref 32), some (.int x1), some (.int x2)] [.int s0] 94 (I, J, xrf) Q := by
  unfold f_X6_roundBetween_5 at h
  cases h
  exact Rn.ret 1 (o := ((some (.int s0)), 94, (I, J, xrf))) (fun f => rfl) hC
theorem p_X6_roundBetween_2 {L : Nat} {xs : Nat → Int32} {d : Nat} {Q : xO → Prop} (x1 : Int32) (x2 : Int32) (I : xI) (J : xJ) {t : Int32 × xI × xJ} (h : f_X6_roundBetween_2 x1 x2 I J = some t) (hC : (c_X6_roundBetween Q) t) : Rn L xs (d + 3) 85 12 [some (.ref 32), some (.int x1), some (.int x2)] [] 94 (I, J, xrf) Q := by
  unfold f_X6_roundBetween_2 at h
  refine Rn.go 2 (j' := 85) (pc' := 26) (ls' := [some (.ref 32), some (.int x1), some (.int x2)]) (st' := [.int ((-2))]) (n' := 94) (M' := (I, J, xrf)) (fun f => rfl) ?_
  exact p_X6_roundBetween_5 x1 x2 ((-2)) I J h hC
theorem p_X6_roundBetween_4 {L : Nat} {xs : Nat → Int32} {d : Nat} {Q : xO → Prop} (x1 : Int32) (x2 : Int32) (s1 : Int32) (I : xI) (J : xJ) {t : Int32 × xI × xJ} (h : f_X6_roundBetween_4 x1 x2 s1 I J = some t) (hC : (c_X6_roundBetween Q) t) : Rn L xs (d + 3) 85 23 [some (.ref 32), some (.int x1), some (.int x2)] [.int s1, .ref 32] 94 (I, J, xrf) Q := by
  unfold f_X6_roundBetween_4 at h
  obtain ⟨o, ho, h⟩ := Option.bind_eq_some_iff.mp h
  refine Rn.call (d1 := d + 2) (j1 := 77) (ls1 := [some (.ref 32), some (.int s1)]) (rest := []) (fun f => rfl) ?_
  refine p_X6_roundIn (d := d + 0) s1 I J (t := o) ho ?_
  exact p_X6_roundBetween_5 x1 x2 o.1 o.2.1 o.2.2 h hC
theorem p_X6_roundBetween_3 {L : Nat} {xs : Nat → Int32} {d : Nat} {Q : xO → Prop} (x1 : Int32) (x2 : Int32) (I : xI) (J : xJ) {t : Int32 × xI × xJ} (h : f_X6_roundBetween_3 x1 x2 I J = some t) (hC : (c_X6_roundBetween Q) t) : Rn L xs (d + 3) 85 17 [some (.ref 32), some (.int x1), some (.int x2)] [] 94 (I, J, xrf) Q := by
  unfold f_X6_roundBetween_3 at h
  refine Rn.go 3 (j' := 85) (pc' := 20) (ls' := [some (.ref 32), some (.int x1), some (.int x2)]) (st' := [.int x2, .int x1, .ref 32]) (n' := 94) (M' := (I, J, xrf)) (fun f => rfl) ?_
  obtain ⟨o, ho, h⟩ := Option.bind_eq_some_iff.mp h
  refine Rn.call (d1 := d + 2) (j1 := 181) (ls1 := [some (.int x1), some (.int x2), none]) (rest := [.ref 32]) (fun f => rfl) ?_
  refine p_X11_pairOf (d := d + 1) x1 x2 I J (t := o) ho ?_
  exact p_X6_roundBetween_4 x1 x2 o.1 o.2.1 o.2.2 h hC
theorem p_X6_roundBetween_1 {L : Nat} {xs : Nat → Int32} {d : Nat} {Q : xO → Prop} (x1 : Int32) (x2 : Int32) (I : xI) (J : xJ) {t : Int32 × xI × xJ} (h : f_X6_roundBetween_1 x1 x2 I J = some t) (hC : (c_X6_roundBetween Q) t) : Rn L xs (d + 3) 85 6 [some (.ref 32), some (.int x1), some (.int x2)] [] 94 (I, J, xrf) Q := by
  unfold f_X6_roundBetween_1 at h
  refine Rn.fi 3 (c := x2 = 7) (p1 := 12) (l1 := [some (.ref 32), some (.int x1), some (.int x2)]) (s1 := []) (n1 := 94) (M1 := (I, J, xrf)) (p2 := 17) (l2 := [some (.ref 32), some (.int x1), some (.int x2)]) (s2 := []) (n2 := 94) (M2 := (I, J, xrf)) (fun f => rfl) (fun hc => ?_) (fun hc => ?_)
  · rw [if_pos hc] at h
    exact p_X6_roundBetween_2 x1 x2 I J h hC
  · rw [if_neg hc] at h
    exact p_X6_roundBetween_3 x1 x2 I J h hC
theorem p_X6_roundBetween_0 {L : Nat} {xs : Nat → Int32} {d : Nat} {Q : xO → Prop} (x1 : Int32) (x2 : Int32) (I : xI) (J : xJ) {t : Int32 × xI × xJ} (h : f_X6_roundBetween_0 x1 x2 I J = some t) (hC : (c_X6_roundBetween Q) t) : Rn L xs (d + 3) 85 0 [some (.ref 32), some (.int x1), some (.int x2)] [] 94 (I, J, xrf) Q := by
  unfold f_X6_roundBetween_0 at h
  refine Rn.fi 3 (c := x1 = 7) (p1 := 12) (l1 := [some (.ref 32), some (.int x1), some (.int x2)]) (s1 := []) (n1 := 94) (M1 := (I, J, xrf)) (p2 := 6) (l2 := [some (.ref 32), some (.int x1), some (.int x2)]) (s2 := []) (n2 := 94) (M2 := (I, J, xrf)) (fun f => rfl) (fun hc => ?_) (fun hc => ?_)
  · rw [if_pos hc] at h
    exact p_X6_roundBetween_2 x1 x2 I J h hC
  · rw [if_neg hc] at h
    exact p_X6_roundBetween_1 x1 x2 I J h hC
theorem p_X6_roundBetween {L : Nat} {xs : Nat → Int32} {d : Nat} {Q : xO → Prop} (x1 : Int32) (x2 : Int32) (I : xI) (J : xJ) {t : Int32 × xI × xJ} (h : f_X6_roundBetween x1 x2 I J = some t) (hC : Q ((some (.int t.1)), 94, (t.2.1, t.2.2, xrf))) : Rn L xs (d + 3) 85 0 [some (.ref 32), some (.int x1), some (.int x2)] [] 94 (I, J, xrf) Q := p_X6_roundBetween_0 x1 x2 I J h hC
/-! X6_canTell -/
def c_X6_canTell (Q : xO → Prop) (t : Int32 × xI × xJ) : Prop := Q ((some (.int t.1)), 94, (t.2.1, t.2.2, xrf))
def c_X6_canTell_1 (L : Nat) (xs : Nat → Int32) (d : Nat) (Q : xO → Prop) (t : (Int32 × Int32 × Int32 × Int32 × (Option Value) × (Option Value) × xI × xJ) ⊕ (Int32 × xI × xJ)) : Prop := match t with
  | .inl s => Rn L xs (d + 4) 84 3 [some (.ref 32), some (.int s.1), some (.int s.2.1), some (.int s.2.2.1), some (.int s.2.2.2.1), s.2.2.2.2.1, s.2.2.2.2.2.1] [] 94 (s.2.2.2.2.2.2.1, s.2.2.2.2.2.2.2, xrf) Q
  | .inr t => (c_X6_canTell Q) t
def c_X6_canTell_3 (L : Nat) (xs : Nat → Int32) (d : Nat) (Q : xO → Prop) (t : (Int32 × Int32 × Int32 × Int32 × Int32 × (Option Value) × xI × xJ) ⊕ ((Int32 × Int32 × Int32 × Int32 × (Option Value) × (Option Value) × xI × xJ) ⊕ (Int32 × xI × xJ))) : Prop := match t with
  | .inl s => Rn L xs (d + 4) 84 21 [some (.ref 32), some (.int s.1), some (.int s.2.1), some (.int s.2.2.1), some (.int s.2.2.2.1), some (.int s.2.2.2.2.1), s.2.2.2.2.2.1] [] 94 (s.2.2.2.2.2.2.1, s.2.2.2.2.2.2.2, xrf) Q
  | .inr t => (c_X6_canTell_1 L xs d Q) t
def f_X6_canTell_12 (x1 : Int32) (x2 : Int32) (x3 : Int32) (x4 : Int32) (z5 : Option Value) (z6 : Option Value) (I : xI) (J : xJ) : Option (Int32 × xI × xJ) := some (1, I, J)
def f_X6_canTell_11 (x1 : Int32) (x2 : Int32) (x3 : Int32) (x4 : Int32) (x5 : Int32) (z6 : Option Value) (I : xI) (J : xJ) : Option ((Int32 × Int32 × Int32 × Int32 × (Option Value) × (Option Value) × xI × xJ) ⊕ (Int32 × xI × xJ)) := some (.inl (x1, x2, x3, ((x4 + 1)), (some (.int x5)), z6, I, J))
def f_X6_canTell_10 (x1 : Int32) (x2 : Int32) (x3 : Int32) (x4 : Int32) (x5 : Int32) (z6 : Option Value) (I : xI) (J : xJ) : Option ((Int32 × Int32 × Int32 × Int32 × Int32 × (Option Value) × xI × xJ) ⊕ ((Int32 × Int32 × Int32 × Int32 × (Option Value) × (Option Value) × xI × xJ) ⊕ (Int32 × xI × xJ))) := some (.inl (x1, x2, x3, x4, ((x5 + 1)), z6, I, J))
def f_X6_canTell_9 (x1 : Int32) (x2 : Int32) (x3 : Int32) (x4 : Int32) (x5 : Int32) (x6 : Int32) (I : xI) (J : xJ) : Option (Int32 × xI × xJ) := some (0, I, J)
def f_X6_canTell_8 (x1 : Int32) (x2 : Int32) (x3 : Int32) (x4 : Int32) (x5 : Int32) (x6 : Int32) (I : xI) (J : xJ) : Option ((Int32 × Int32 × Int32 × Int32 × Int32 × (Option Value) × xI × xJ) ⊕ ((Int32 × Int32 × Int32 × Int32 × (Option Value) × (Option Value) × xI × xJ) ⊕ (Int32 × xI × xJ))) := if x6 < x3 then f_X6_canTell_10 x1 x2 x3 x4 x5 (some (.int x6)) I J else (((f_X6_canTell_9 x1 x2 x3 x4 x5 x6 I J)).map .inr).map .inr
def f_X6_canTell_7 (x1 : Int32) (x2 : Int32) (x3 : Int32) (x4 : Int32) (x5 : Int32) (z6 : Option Value) (s0 : Int32) (I : xI) (J : xJ) : Option ((Int32 × Int32 × Int32 × Int32 × Int32 × (Option Value) × xI × xJ) ⊕ ((Int32 × Int32 × Int32 × Int32 × (Option Value) × (Option Value) × xI × xJ) ⊕ (Int32 × xI × xJ))) := if s0 = (-2) then (((f_X6_canTell_9 x1 x2 x3 x4 x5 s0 I J)).map .inr).map .inr else f_X6_canTell_8 x1 x2 x3 x4 x5 s0 I J
def f_X6_canTell_6 (x1 : Int32) (x2 : Int32) (x3 : Int32) (x4 : Int32) (x5 : Int32) (z6 : Option Value) (I : xI) (J : xJ) : Option ((Int32 × Int32 × Int32 × Int32 × Int32 × (Option Value) × xI × xJ) ⊕ ((Int32 × Int32 × Int32 × Int32 × (Option Value) × (Option Value) × xI × xJ) ⊕ (Int32 × xI × xJ))) := (f_X6_roundBetween (((x1 >>> ((3 * x4) &&& 31)) &&& 7)) (((x1 >>> ((3 * x5) &&& 31)) &&& 7)) I J).bind fun o => f_X6_canTell_7 x1 x2 x3 x4 x5 z6 o.1 o.2.1 o.2.2
def f_X6_canTell_5 (x1 : Int32) (x2 : Int32) (x3 : Int32) (x4 : Int32) (x5 : Int32) (z6 : Option Value) (s0 : Int32) (s1 : Int32) (I : xI) (J : xJ) : Option ((Int32 × Int32 × Int32 × Int32 × Int32 × (Option Value) × xI × xJ) ⊕ ((Int32 × Int32 × Int32 × Int32 × (Option Value) × (Option Value) × xI × xJ) ⊕ (Int32 × xI × xJ))) := if (s0 &&& s1) = 0 then f_X6_canTell_10 x1 x2 x3 x4 x5 z6 I J else f_X6_canTell_6 x1 x2 x3 x4 x5 z6 I J
def f_X6_canTell_4 (x1 : Int32) (x2 : Int32) (x3 : Int32) (x4 : Int32) (x5 : Int32) (z6 : Option Value) (I : xI) (J : xJ) : Option ((Int32 × Int32 × Int32 × Int32 × Int32 × (Option Value) × xI × xJ) ⊕ ((Int32 × Int32 × Int32 × Int32 × (Option Value) × (Option Value) × xI × xJ) ⊕ (Int32 × xI × xJ))) := (f_X11_pairOf x4 x5 I J).bind fun o => f_X6_canTell_5 x1 x2 x3 x4 x5 z6 (((I 32 3) &&& (x2 ^^^ (-1)))) o.1 o.2.1 o.2.2
def b_X6_canTell_3 (x1 : Int32) (x2 : Int32) (x3 : Int32) (x4 : Int32) (x5 : Int32) (z6 : Option Value) (I : xI) (J : xJ) : Option ((Int32 × Int32 × Int32 × Int32 × Int32 × (Option Value) × xI × xJ) ⊕ ((Int32 × Int32 × Int32 × Int32 × (Option Value) × (Option Value) × xI × xJ) ⊕ (Int32 × xI × xJ))) := if (I 1 0) ≤ x5 then ((f_X6_canTell_11 x1 x2 x3 x4 x5 z6 I J)).map .inr else f_X6_canTell_4 x1 x2 x3 x4 x5 z6 I J
def f_X6_canTell_3 (x1 : Int32) (x2 : Int32) (x3 : Int32) (x4 : Int32) (x5 : Int32) (z6 : Option Value) (I : xI) (J : xJ) : Option ((Int32 × Int32 × Int32 × Int32 × (Option Value) × (Option Value) × xI × xJ) ⊕ (Int32 × xI × xJ)) := xloop (fun s : Int32 × Int32 × Int32 × Int32 × Int32 × (Option Value) × xI × xJ => b_X6_canTell_3 s.1 s.2.1 s.2.2.1 s.2.2.2.1 s.2.2.2.2.1 s.2.2.2.2.2.1 s.2.2.2.2.2.2.1 s.2.2.2.2.2.2.2) 5000 (x1, x2, x3, x4, x5, z6, I, J)
def f_X6_canTell_2 (x1 : Int32) (x2 : Int32) (x3 : Int32) (x4 : Int32) (z5 : Option Value) (z6 : Option Value) (I : xI) (J : xJ) : Option ((Int32 × Int32 × Int32 × Int32 × (Option Value) × (Option Value) × xI × xJ) ⊕ (Int32 × xI × xJ)) := f_X6_canTell_3 x1 x2 x3 x4 ((x4 + 1)) z6 I J
def b_X6_canTell_1 (x1 : Int32) (x2 : Int32) (x3 : Int32) (x4 : Int32) (z5 : Option Value) (z6 : Option Value) (I : xI) (J : xJ) : Option ((Int32 × Int32 × Int32 × Int32 × (Option Value) × (Option Value) × xI × xJ) ⊕ (Int32 × xI × xJ)) := if (I 1 0) ≤ x4 then ((f_X6_canTell_12 x1 x2 x3 x4 z5 z6 I J)).map .inr else f_X6_canTell_2 x1 x2 x3 x4 z5 z6 I J
def f_X6_canTell_1 (x1 : Int32) (x2 : Int32) (x3 : Int32) (x4 : Int32) (z5 : Option Value) (z6 : Option Value) (I : xI) (J : xJ) : Option (Int32 × xI × xJ) := xloop (fun s : Int32 × Int32 × Int32 × Int32 × (Option Value) × (Option Value) × xI × xJ => b_X6_canTell_1 s.1 s.2.1 s.2.2.1 s.2.2.2.1 s.2.2.2.2.1 s.2.2.2.2.2.1 s.2.2.2.2.2.2.1 s.2.2.2.2.2.2.2) 5000 (x1, x2, x3, x4, z5, z6, I, J)
def f_X6_canTell_0 (x1 : Int32) (x2 : Int32) (x3 : Int32) (I : xI) (J : xJ) : Option (Int32 × xI × xJ) := f_X6_canTell_1 x1 x2 x3 0 none none I J
def f_X6_canTell (x1 : Int32) (x2 : Int32) (x3 : Int32) (I : xI) (J : xJ) : Option (Int32 × xI × xJ) := f_X6_canTell_0 x1 x2 x3 I J
theorem p_X6_canTell_12 {L : Nat} {xs : Nat → Int32} {d : Nat} {Q : xO → Prop} (x1 : Int32) (x2 : Int32) (x3 : Int32) (x4 : Int32) (z5 : Option Value) (z6 : Option Value) (I : xI) (J : xJ) {t : Int32 × xI × xJ} (h : f_X6_canTell_12 x1 x2 x3 x4 z5 z6 I J = some t) (hC : (c_X6_canTell Q) t) : Rn L xs (d + 4) 84 103 [some (.ref 32), some (.int x1), some (.int x2), some (.int x3), some (.int x4), z5, z6] [] 94 (I, J, xrf) Q := by
  unfold f_X6_canTell_12 at h
  cases h
  exact Rn.ret 2 (o := ((some (.int 1)), 94, (I, J, xrf))) (fun f => rfl) hC
theorem p_X6_canTell_11 {L : Nat} {xs : Nat → Int32} {d : Nat} {Q : xO → Prop} (x1 : Int32) (x2 : Int32) (x3 : Int32) (x4 : Int32) (x5 : Int32) (z6 : Option Value) (I : xI) (J : xJ) {t : (Int32 × Int32 × Int32 × Int32 × (Option Value) × (Option Value) × xI × xJ) ⊕ (Int32 × xI × xJ)} (h : f_X6_canTell_11 x1 x2 x3 x4 x5 z6 I J = some t) (hC : (c_X6_canTell_1 L xs d Q) t) : Rn L xs (d + 4) 84 97 [some (.ref 32), some (.int x1), some (.int x2), some (.int x3), some (.int x4), some (.int x5), z6] [] 94 (I, J, xrf) Q := by
  unfold f_X6_canTell_11 at h
  refine Rn.go 2 (j' := 84) (pc' := 3) (ls' := [some (.ref 32), some (.int x1), some (.int x2), some (.int x3), some (.int ((x4 + 1))), some (.int x5), z6]) (st' := []) (n' := 94) (M' := (I, J, xrf)) (fun f => rfl) ?_
  cases h; exact hC
theorem p_X6_canTell_10 {L : Nat} {xs : Nat → Int32} {d : Nat} {Q : xO → Prop} (x1 : Int32) (x2 : Int32) (x3 : Int32) (x4 : Int32) (x5 : Int32) (z6 : Option Value) (I : xI) (J : xJ) {t : (Int32 × Int32 × Int32 × Int32 × Int32 × (Option Value) × xI × xJ) ⊕ ((Int32 × Int32 × Int32 × Int32 × (Option Value) × (Option Value) × xI × xJ) ⊕ (Int32 × xI × xJ))} (h : f_X6_canTell_10 x1 x2 x3 x4 x5 z6 I J = some t) (hC : (c_X6_canTell_3 L xs d Q) t) : Rn L xs (d + 4) 84 91 [some (.ref 32), some (.int x1), some (.int x2), some (.int x3), some (.int x4), some (.int x5), z6] [] 94 (I, J, xrf) Q := by
  unfold f_X6_canTell_10 at h
  refine Rn.go 2 (j' := 84) (pc' := 21) (ls' := [some (.ref 32), some (.int x1), some (.int x2), some (.int x3), some (.int x4), some (.int ((x5 + 1))), z6]) (st' := []) (n' := 94) (M' := (I, J, xrf)) (fun f => rfl) ?_
  cases h; exact hC
theorem p_X6_canTell_9 {L : Nat} {xs : Nat → Int32} {d : Nat} {Q : xO → Prop} (x1 : Int32) (x2 : Int32) (x3 : Int32) (x4 : Int32) (x5 : Int32) (x6 : Int32) (I : xI) (J : xJ) {t : Int32 × xI × xJ} (h : f_X6_canTell_9 x1 x2 x3 x4 x5 x6 I J = some t) (hC : (c_X6_canTell Q) t) : Rn L xs (d + 4) 84 89 [some (.ref 32), some (.int x1), some (.int x2), some (.int x3), some (.int x4), some (.int x5), some (.int x6)] [] 94 (I, J, xrf) Q := by
  unfold f_X6_canTell_9 at h
  cases h
  exact Rn.ret 2 (o := ((some (.int 0)), 94, (I, J, xrf))) (fun f => rfl) hC
theorem p_X6_canTell_8 {L : Nat} {xs : Nat → Int32} {d : Nat} {Q : xO → Prop} (x1 : Int32) (x2 : Int32) (x3 : Int32) (x4 : Int32) (x5 : Int32) (x6 : Int32) (I : xI) (J : xJ) {t : (Int32 × Int32 × Int32 × Int32 × Int32 × (Option Value) × xI × xJ) ⊕ ((Int32 × Int32 × Int32 × Int32 × (Option Value) × (Option Value) × xI × xJ) ⊕ (Int32 × xI × xJ))} (h : f_X6_canTell_8 x1 x2 x3 x4 x5 x6 I J = some t) (hC : (c_X6_canTell_3 L xs d Q) t) : Rn L xs (d + 4) 84 83 [some (.ref 32), some (.int x1), some (.int x2), some (.int x3), some (.int x4), some (.int x5), some (.int x6)] [] 94 (I, J, xrf) Q := by
  unfold f_X6_canTell_8 at h
  refine Rn.fi 3 (c := x6 < x3) (p1 := 91) (l1 := [some (.ref 32), some (.int x1), some (.int x2), some (.int x3), some (.int x4), some (.int x5), some (.int x6)]) (s1 := []) (n1 := 94) (M1 := (I, J, xrf)) (p2 := 89) (l2 := [some (.ref 32), some (.int x1), some (.int x2), some (.int x3), some (.int x4), some (.int x5), some (.int x6)]) (s2 := []) (n2 := 94) (M2 := (I, J, xrf)) (fun f => rfl) (fun hc => ?_) (fun hc => ?_)
  · rw [if_pos hc] at h
    exact p_X6_canTell_10 x1 x2 x3 x4 x5 (some (.int x6)) I J h hC
  · rw [if_neg hc] at h
    obtain ⟨t0, h0, rfl⟩ := Option.map_eq_some_iff.mp h
    obtain ⟨t1, h1, rfl⟩ := Option.map_eq_some_iff.mp h0
    exact p_X6_canTell_9 x1 x2 x3 x4 x5 x6 I J h1 hC
theorem p_X6_canTell_7 {L : Nat} {xs : Nat → Int32} {d : Nat} {Q : xO → Prop} (x1 : Int32) (x2 : Int32) (x3 : Int32) (x4 : Int32) (x5 : Int32) (z6 : Option Value) (s0 : Int32) (I : xI) (J : xJ) {t : (Int32 × Int32 × Int32 × Int32 × Int32 × (Option Value) × xI × xJ) ⊕ ((Int32 × Int32 × Int32 × Int32 × (Option Value) × (Option Value) × xI × xJ) ⊕ (Int32 × xI × xJ))} (h : f_X6_canTell_7 x1 x2 x3 x4 x5 z6 s0 I J = some t) (hC : (c_X6_canTell_3 L xs d Q) t) : Rn L xs (d + 4) 84 74 [some (.ref 32), some (.int x1), some (.int x2), some (.int x3), some (.int x4), some (.int x5), z6] [.int s0] 94 (I, J, xrf) Q := by
  unfold f_X6_canTell_7 at h
  refine Rn.fi 4 (c := s0 = (-2)) (p1 := 89) (l1 := [some (.ref 32), some (.int x1), some (.int x2), some (.int x3), some (.int x4), some (.int x5), some (.int s0)]) (s1 := []) (n1 := 94) (M1 := (I, J, xrf)) (p2 := 83) (l2 := [some (.ref 32), some (.int x1), some (.int x2), some (.int x3), some (.int x4), some (.int x5), some (.int s0)]) (s2 := []) (n2 := 94) (M2 := (I, J, xrf)) (fun f => rfl) (fun hc => ?_) (fun hc => ?_)
  · rw [if_pos hc] at h
    obtain ⟨t0, h0, rfl⟩ := Option.map_eq_some_iff.mp h
    obtain ⟨t1, h1, rfl⟩ := Option.map_eq_some_iff.mp h0
    exact p_X6_canTell_9 x1 x2 x3 x4 x5 s0 I J h1 hC
  · rw [if_neg hc] at h
    exact p_X6_canTell_8 x1 x2 x3 x4 x5 s0 I J h hC
theorem p_X6_canTell_6 {L : Nat} {xs : Nat → Int32} {d : Nat} {Q : xO → Prop} (x1 : Int32) (x2 : Int32) (x3 : Int32) (x4 : Int32) (x5 : Int32) (z6 : Option Value) (I : xI) (J : xJ) {t : (Int32 × Int32 × Int32 × Int32 × Int32 × (Option Value) × xI × xJ) ⊕ ((Int32 × Int32 × Int32 × Int32 × (Option Value) × (Option Value) × xI × xJ) ⊕ (Int32 × xI × xJ))} (h : f_X6_canTell_6 x1 x2 x3 x4 x5 z6 I J = some t) (hC : (c_X6_canTell_3 L xs d Q) t) : Rn L xs (d + 4) 84 52 [some (.ref 32), some (.int x1), some (.int x2), some (.int x3), some (.int x4), some (.int x5), z6] [] 94 (I, J, xrf) Q := by
  unfold f_X6_canTell_6 at h
  refine Rn.go 15 (j' := 84) (pc' := 71) (ls' := [some (.ref 32), some (.int x1), some (.int x2), some (.int x3), some (.int x4), some (.int x5), z6]) (st' := [.int (((x1 >>> ((3 * x5) &&& 31)) &&& 7)), .int (((x1 >>> ((3 * x4) &&& 31)) &&& 7)), .ref 32]) (n' := 94) (M' := (I, J, xrf)) (fun f => rfl) ?_
  obtain ⟨o, ho, h⟩ := Option.bind_eq_some_iff.mp h
  refine Rn.call (d1 := d + 3) (j1 := 85) (ls1 := [some (.ref 32), some (.int (((x1 >>> ((3 * x4) &&& 31)) &&& 7))), some (.int (((x1 >>> ((3 * x5) &&& 31)) &&& 7)))]) (rest := []) (fun f => rfl) ?_
  refine p_X6_roundBetween (d := d + 0) (((x1 >>> ((3 * x4) &&& 31)) &&& 7)) (((x1 >>> ((3 * x5) &&& 31)) &&& 7)) I J (t := o) ho ?_
  exact p_X6_canTell_7 x1 x2 x3 x4 x5 z6 o.1 o.2.1 o.2.2 h hC
theorem p_X6_canTell_5 {L : Nat} {xs : Nat → Int32} {d : Nat} {Q : xO → Prop} (x1 : Int32) (x2 : Int32) (x3 : Int32) (x4 : Int32) (x5 : Int32) (z6 : Option Value) (s0 : Int32) (s1 : Int32) (I : xI) (J : xJ) {t : (Int32 × Int32 × Int32 × Int32 × Int32 × (Option Value) × xI × xJ) ⊕ ((Int32 × Int32 × Int32 × Int32 × (Option Value) × (Option Value) × xI × xJ) ⊕ (Int32 × xI × xJ))} (h : f_X6_canTell_5 x1 x2 x3 x4 x5 z6 s0 s1 I J = some t) (hC : (c_X6_canTell_3 L xs d Q) t) : Rn L xs (d + 4) 84 48 [some (.ref 32), some (.int x1), some (.int x2), some (.int x3), some (.int x4), some (.int x5), z6] [.int s1, .int s0] 94 (I, J, xrf) Q := by
  unfold f_X6_canTell_5 at h
  refine Rn.fi 2 (c := (s0 &&& s1) = 0) (p1 := 91) (l1 := [some (.ref 32), some (.int x1), some (.int x2), some (.int x3), some (.int x4), some (.int x5), z6]) (s1 := []) (n1 := 94) (M1 := (I, J, xrf)) (p2 := 52) (l2 := [some (.ref 32), some (.int x1), some (.int x2), some (.int x3), some (.int x4), some (.int x5), z6]) (s2 := []) (n2 := 94) (M2 := (I, J, xrf)) (fun f => rfl) (fun hc => ?_) (fun hc => ?_)
  · rw [if_pos hc] at h
    exact p_X6_canTell_10 x1 x2 x3 x4 x5 z6 I J h hC
  · rw [if_neg hc] at h
    exact p_X6_canTell_6 x1 x2 x3 x4 x5 z6 I J h hC
theorem p_X6_canTell_4 {L : Nat} {xs : Nat → Int32} {d : Nat} {Q : xO → Prop} (x1 : Int32) (x2 : Int32) (x3 : Int32) (x4 : Int32) (x5 : Int32) (z6 : Option Value) (I : xI) (J : xJ) {t : (Int32 × Int32 × Int32 × Int32 × Int32 × (Option Value) × xI × xJ) ⊕ ((Int32 × Int32 × Int32 × Int32 × (Option Value) × (Option Value) × xI × xJ) ⊕ (Int32 × xI × xJ))} (h : f_X6_canTell_4 x1 x2 x3 x4 x5 z6 I J = some t) (hC : (c_X6_canTell_3 L xs d Q) t) : Rn L xs (d + 4) 84 33 [some (.ref 32), some (.int x1), some (.int x2), some (.int x3), some (.int x4), some (.int x5), z6] [] 94 (I, J, xrf) Q := by
  unfold f_X6_canTell_4 at h
  refine Rn.go 8 (j' := 84) (pc' := 45) (ls' := [some (.ref 32), some (.int x1), some (.int x2), some (.int x3), some (.int x4), some (.int x5), z6]) (st' := [.int x5, .int x4, .int (((I 32 3) &&& (x2 ^^^ (-1))))]) (n' := 94) (M' := (I, J, xrf)) (fun f => rfl) ?_
  obtain ⟨o, ho, h⟩ := Option.bind_eq_some_iff.mp h
  refine Rn.call (d1 := d + 3) (j1 := 181) (ls1 := [some (.int x4), some (.int x5), none]) (rest := [.int (((I 32 3) &&& (x2 ^^^ (-1))))]) (fun f => rfl) ?_
  refine p_X11_pairOf (d := d + 2) x4 x5 I J (t := o) ho ?_
  exact p_X6_canTell_5 x1 x2 x3 x4 x5 z6 (((I 32 3) &&& (x2 ^^^ (-1)))) o.1 o.2.1 o.2.2 h hC
theorem q_X6_canTell_3 {L : Nat} {xs : Nat → Int32} {d : Nat} {Q : xO → Prop} (x1 : Int32) (x2 : Int32) (x3 : Int32) (x4 : Int32) (x5 : Int32) (z6 : Option Value) (I : xI) (J : xJ) {t : (Int32 × Int32 × Int32 × Int32 × Int32 × (Option Value) × xI × xJ) ⊕ ((Int32 × Int32 × Int32 × Int32 × (Option Value) × (Option Value) × xI × xJ) ⊕ (Int32 × xI × xJ))} (h : b_X6_canTell_3 x1 x2 x3 x4 x5 z6 I J = some t) (hC : (c_X6_canTell_3 L xs d Q) t) : Rn L xs (d + 4) 84 21 [some (.ref 32), some (.int x1), some (.int x2), some (.int x3), some (.int x4), some (.int x5), z6] [] 94 (I, J, xrf) Q := by
  unfold b_X6_canTell_3 at h
  refine Rn.fi 5 (c := (I 1 0) ≤ x5) (p1 := 97) (l1 := [some (.ref 32), some (.int x1), some (.int x2), some (.int x3), some (.int x4), some (.int x5), z6]) (s1 := []) (n1 := 94) (M1 := (I, J, xrf)) (p2 := 33) (l2 := [some (.ref 32), some (.int x1), some (.int x2), some (.int x3), some (.int x4), some (.int x5), z6]) (s2 := []) (n2 := 94) (M2 := (I, J, xrf)) (fun f => rfl) (fun hc => ?_) (fun hc => ?_)
  · rw [if_pos hc] at h
    obtain ⟨t0, h0, rfl⟩ := Option.map_eq_some_iff.mp h
    exact p_X6_canTell_11 x1 x2 x3 x4 x5 z6 I J h0 hC
  · rw [if_neg hc] at h
    exact p_X6_canTell_4 x1 x2 x3 x4 x5 z6 I J h hC
theorem p_X6_canTell_3 {L : Nat} {xs : Nat → Int32} {d : Nat} {Q : xO → Prop} (x1 : Int32) (x2 : Int32) (x3 : Int32) (x4 : Int32) (x5 : Int32) (z6 : Option Value) (I : xI) (J : xJ) {t : (Int32 × Int32 × Int32 × Int32 × (Option Value) × (Option Value) × xI × xJ) ⊕ (Int32 × xI × xJ)} (h : f_X6_canTell_3 x1 x2 x3 x4 x5 z6 I J = some t) (hC : (c_X6_canTell_1 L xs d Q) t) : Rn L xs (d + 4) 84 21 [some (.ref 32), some (.int x1), some (.int x2), some (.int x3), some (.int x4), some (.int x5), z6] [] 94 (I, J, xrf) Q := by
  unfold f_X6_canTell_3 at h
  exact xloop_some (P := fun s : Int32 × Int32 × Int32 × Int32 × Int32 × (Option Value) × xI × xJ => Rn L xs (d + 4) 84 21 [some (.ref 32), some (.int s.1), some (.int s.2.1), some (.int s.2.2.1), some (.int s.2.2.2.1), some (.int s.2.2.2.2.1), s.2.2.2.2.2.1] [] 94 (s.2.2.2.2.2.2.1, s.2.2.2.2.2.2.2, xrf) Q) t (fun s ⟨s', hb, hp⟩ => q_X6_canTell_3 s.1 s.2.1 s.2.2.1 s.2.2.2.1 s.2.2.2.2.1 s.2.2.2.2.2.1 s.2.2.2.2.2.2.1 s.2.2.2.2.2.2.2 hb hp) (fun s hb => q_X6_canTell_3 s.1 s.2.1 s.2.2.1 s.2.2.2.1 s.2.2.2.2.1 s.2.2.2.2.2.1 s.2.2.2.2.2.2.1 s.2.2.2.2.2.2.2 hb hC) _ _ h
theorem p_X6_canTell_2 {L : Nat} {xs : Nat → Int32} {d : Nat} {Q : xO → Prop} (x1 : Int32) (x2 : Int32) (x3 : Int32) (x4 : Int32) (z5 : Option Value) (z6 : Option Value) (I : xI) (J : xJ) {t : (Int32 × Int32 × Int32 × Int32 × (Option Value) × (Option Value) × xI × xJ) ⊕ (Int32 × xI × xJ)} (h : f_X6_canTell_2 x1 x2 x3 x4 z5 z6 I J = some t) (hC : (c_X6_canTell_1 L xs d Q) t) : Rn L xs (d + 4) 84 15 [some (.ref 32), some (.int x1), some (.int x2), some (.int x3), some (.int x4), z5, z6] [] 94 (I, J, xrf) Q := by
  unfold f_X6_canTell_2 at h
  refine Rn.go 4 (j' := 84) (pc' := 21) (ls' := [some (.ref 32), some (.int x1), some (.int x2), some (.int x3), some (.int x4), some (.int ((x4 + 1))), z6]) (st' := []) (n' := 94) (M' := (I, J, xrf)) (fun f => rfl) ?_
  exact p_X6_canTell_3 x1 x2 x3 x4 ((x4 + 1)) z6 I J h hC
theorem q_X6_canTell_1 {L : Nat} {xs : Nat → Int32} {d : Nat} {Q : xO → Prop} (x1 : Int32) (x2 : Int32) (x3 : Int32) (x4 : Int32) (z5 : Option Value) (z6 : Option Value) (I : xI) (J : xJ) {t : (Int32 × Int32 × Int32 × Int32 × (Option Value) × (Option Value) × xI × xJ) ⊕ (Int32 × xI × xJ)} (h : b_X6_canTell_1 x1 x2 x3 x4 z5 z6 I J = some t) (hC : (c_X6_canTell_1 L xs d Q) t) : Rn L xs (d + 4) 84 3 [some (.ref 32), some (.int x1), some (.int x2), some (.int x3), some (.int x4), z5, z6] [] 94 (I, J, xrf) Q := by
  unfold b_X6_canTell_1 at h
  refine Rn.fi 5 (c := (I 1 0) ≤ x4) (p1 := 103) (l1 := [some (.ref 32), some (.int x1), some (.int x2), some (.int x3), some (.int x4), z5, z6]) (s1 := []) (n1 := 94) (M1 := (I, J, xrf)) (p2 := 15) (l2 := [some (.ref 32), some (.int x1), some (.int x2), some (.int x3), some (.int x4), z5, z6]) (s2 := []) (n2 := 94) (M2 := (I, J, xrf)) (fun f => rfl) (fun hc => ?_) (fun hc => ?_)
  · rw [if_pos hc] at h
    obtain ⟨t0, h0, rfl⟩ := Option.map_eq_some_iff.mp h
    exact p_X6_canTell_12 x1 x2 x3 x4 z5 z6 I J h0 hC
  · rw [if_neg hc] at h
    exact p_X6_canTell_2 x1 x2 x3 x4 z5 z6 I J h hC
theorem p_X6_canTell_1 {L : Nat} {xs : Nat → Int32} {d : Nat} {Q : xO → Prop} (x1 : Int32) (x2 : Int32) (x3 : Int32) (x4 : Int32) (z5 : Option Value) (z6 : Option Value) (I : xI) (J : xJ) {t : Int32 × xI × xJ} (h : f_X6_canTell_1 x1 x2 x3 x4 z5 z6 I J = some t) (hC : (c_X6_canTell Q) t) : Rn L xs (d + 4) 84 3 [some (.ref 32), some (.int x1), some (.int x2), some (.int x3), some (.int x4), z5, z6] [] 94 (I, J, xrf) Q := by
  unfold f_X6_canTell_1 at h
  exact xloop_some (P := fun s : Int32 × Int32 × Int32 × Int32 × (Option Value) × (Option Value) × xI × xJ => Rn L xs (d + 4) 84 3 [some (.ref 32), some (.int s.1), some (.int s.2.1), some (.int s.2.2.1), some (.int s.2.2.2.1), s.2.2.2.2.1, s.2.2.2.2.2.1] [] 94 (s.2.2.2.2.2.2.1, s.2.2.2.2.2.2.2, xrf) Q) t (fun s ⟨s', hb, hp⟩ => q_X6_canTell_1 s.1 s.2.1 s.2.2.1 s.2.2.2.1 s.2.2.2.2.1 s.2.2.2.2.2.1 s.2.2.2.2.2.2.1 s.2.2.2.2.2.2.2 hb hp) (fun s hb => q_X6_canTell_1 s.1 s.2.1 s.2.2.1 s.2.2.2.1 s.2.2.2.2.1 s.2.2.2.2.2.1 s.2.2.2.2.2.2.1 s.2.2.2.2.2.2.2 hb hC) _ _ h
theorem p_X6_canTell_0 {L : Nat} {xs : Nat → Int32} {d : Nat} {Q : xO → Prop} (x1 : Int32) (x2 : Int32) (x3 : Int32) (I : xI) (J : xJ) {t : Int32 × xI × xJ} (h : f_X6_canTell_0 x1 x2 x3 I J = some t) (hC : (c_X6_canTell Q) t) : Rn L xs (d + 4) 84 0 [some (.ref 32), some (.int x1), some (.int x2), some (.int x3), none, none, none] [] 94 (I, J, xrf) Q := by
  unfold f_X6_canTell_0 at h
  refine Rn.go 2 (j' := 84) (pc' := 3) (ls' := [some (.ref 32), some (.int x1), some (.int x2), some (.int x3), some (.int 0), none, none]) (st' := []) (n' := 94) (M' := (I, J, xrf)) (fun f => rfl) ?_
  exact p_X6_canTell_1 x1 x2 x3 0 none none I J h hC
theorem p_X6_canTell {L : Nat} {xs : Nat → Int32} {d : Nat} {Q : xO → Prop} (x1 : Int32) (x2 : Int32) (x3 : Int32) (I : xI) (J : xJ) {t : Int32 × xI × xJ} (h : f_X6_canTell x1 x2 x3 I J = some t) (hC : Q ((some (.int t.1)), 94, (t.2.1, t.2.2, xrf))) : Rn L xs (d + 4) 84 0 [some (.ref 32), some (.int x1), some (.int x2), some (.int x3), none, none, none] [] 94 (I, J, xrf) Q := p_X6_canTell_0 x1 x2 x3 I J h hC
/-! X6_standBehind -/
def c_X6_standBehind (Q : xO → Prop) (t : Int32 × xI × xJ) : Prop := Q ((some (.int t.1)), 94, (t.2.1, t.2.2, xrf))
def c_X6_standBehind_1 (L : Nat) (xs : Nat → Int32) (d : Nat) (Q : xO → Prop) (t : (Int32 × Int32 × Int32 × Int32 × (Option Value) × xI × xJ) ⊕ (Int32 × xI × xJ)) : Prop := match t with
  | .inl s => Rn L xs (d + 2) 86 5 [some (.ref 32), some (.int s.1), some (.int s.2.1), some (.int s.2.2.1), some (.int s.2.2.2.1), s.2.2.2.2.1] [] 94 (s.2.2.2.2.2.1, s.2.2.2.2.2.2, xrf) Q
  | .inr t => (c_X6_standBehind Q) t
def f_X6_standBehind_7 (x1 : Int32) (x2 : Int32) (x3 : Int32) (x4 : Int32) (z5 : Option Value) (I : xI) (J : xJ) : Option (Int32 × xI × xJ) := some (x3, I, J)
def f_X6_standBehind_6 (x1 : Int32) (x2 : Int32) (x3 : Int32) (x4 : Int32) (x5 : Int32) (s0 : Int32) (s1 : Int32) (I : xI) (J : xJ) : Option ((Int32 × Int32 × Int32 × Int32 × (Option Value) × xI × xJ) ⊕ (Int32 × xI × xJ)) := some (.inl (x1, x2, ((s0 ||| (s1 <<< ((3 * x4) &&& 31)))), ((x4 + 1)), (some (.int x5)), I, J))
def f_X6_standBehind_5 (x1 : Int32) (x2 : Int32) (x3 : Int32) (x4 : Int32) (x5 : Int32) (s0 : Int32) (I : xI) (J : xJ) : Option ((Int32 × Int32 × Int32 × Int32 × (Option Value) × xI × xJ) ⊕ (Int32 × xI × xJ)) := f_X6_standBehind_6 x1 x2 x3 x4 x5 s0 x5 I J
def f_X6_standBehind_4 (x1 : Int32) (x2 : Int32) (x3 : Int32) (x4 : Int32) (x5 : Int32) (s0 : Int32) (I : xI) (J : xJ) : Option ((Int32 × Int32 × Int32 × Int32 × (Option Value) × xI × xJ) ⊕ (Int32 × xI × xJ)) := f_X6_standBehind_6 x1 x2 x3 x4 x5 s0 7 I J
def f_X6_standBehind_3 (x1 : Int32) (x2 : Int32) (x3 : Int32) (x4 : Int32) (z5 : Option Value) (s0 : Int32) (I : xI) (J : xJ) : Option ((Int32 × Int32 × Int32 × Int32 × (Option Value) × xI × xJ) ⊕ (Int32 × xI × xJ)) := if 0 ≤ s0 then f_X6_standBehind_5 x1 x2 x3 x4 s0 x3 I J else f_X6_standBehind_4 x1 x2 x3 x4 s0 x3 I J
def f_X6_standBehind_2 (x1 : Int32) (x2 : Int32) (x3 : Int32) (x4 : Int32) (z5 : Option Value) (I : xI) (J : xJ) : Option ((Int32 × Int32 × Int32 × Int32 × (Option Value) × xI × xJ) ⊕ (Int32 × xI × xJ)) := (f_X5_targetOf (((x1 >>> ((3 * x4) &&& 31)) &&& 7)) x2 I J).bind fun o => f_X6_standBehind_3 x1 x2 x3 x4 z5 o.1 o.2.1 o.2.2
def b_X6_standBehind_1 (x1 : Int32) (x2 : Int32) (x3 : Int32) (x4 : Int32) (z5 : Option Value) (I : xI) (J : xJ) : Option ((Int32 × Int32 × Int32 × Int32 × (Option Value) × xI × xJ) ⊕ (Int32 × xI × xJ)) := if (I 1 0) ≤ x4 then ((f_X6_standBehind_7 x1 x2 x3 x4 z5 I J)).map .inr else f_X6_standBehind_2 x1 x2 x3 x4 z5 I J
def f_X6_standBehind_1 (x1 : Int32) (x2 : Int32) (x3 : Int32) (x4 : Int32) (z5 : Option Value) (I : xI) (J : xJ) : Option (Int32 × xI × xJ) := xloop (fun s : Int32 × Int32 × Int32 × Int32 × (Option Value) × xI × xJ => b_X6_standBehind_1 s.1 s.2.1 s.2.2.1 s.2.2.2.1 s.2.2.2.2.1 s.2.2.2.2.2.1 s.2.2.2.2.2.2) 5000 (x1, x2, x3, x4, z5, I, J)
def f_X6_standBehind_0 (x1 : Int32) (x2 : Int32) (I : xI) (J : xJ) : Option (Int32 × xI × xJ) := f_X6_standBehind_1 x1 x2 0 0 none I J
def f_X6_standBehind (x1 : Int32) (x2 : Int32) (I : xI) (J : xJ) : Option (Int32 × xI × xJ) := f_X6_standBehind_0 x1 x2 I J
theorem p_X6_standBehind_7 {L : Nat} {xs : Nat → Int32} {d : Nat} {Q : xO → Prop} (x1 : Int32) (x2 : Int32) (x3 : Int32) (x4 : Int32) (z5 : Option Value) (I : xI) (J : xJ) {t : Int32 × xI × xJ} (h : f_X6_standBehind_7 x1 x2 x3 x4 z5 I J = some t) (hC : (c_X6_standBehind Q) t) : Rn L xs (d + 2) 86 62 [some (.ref 32), some (.int x1), some (.int x2), some (.int x3), some (.int x4), z5] [] 94 (I, J, xrf) Q := by
  unfold f_X6_standBehind_7 at h
  cases h
  exact Rn.ret 2 (o := ((some (.int x3)), 94, (I, J, xrf))) (fun f => rfl) hC
theorem p_X6_standBehind_6 {L : Nat} {xs : Nat → Int32} {d : Nat} {Q : xO → Prop} (x1 : Int32) (x2 : Int32) (x3 : Int32) (x4 : Int32) (x5 : Int32) (s0 : Int32) (s1 : Int32) (I : xI) (J : xJ) {t : (Int32 × Int32 × Int32 × Int32 × (Option Value) × xI × xJ) ⊕ (Int32 × xI × xJ)} (h : f_X6_standBehind_6 x1 x2 x3 x4 x5 s0 s1 I J = some t) (hC : (c_X6_standBehind_1 L xs d Q) t) : Rn L xs (d + 2) 86 49 [some (.ref 32), some (.int x1), some (.int x2), some (.int x3), some (.int x4), some (.int x5)] [.int s1, .int s0] 94 (I, J, xrf) Q := by
  unfold f_X6_standBehind_6 at h
  refine Rn.go 8 (j' := 86) (pc' := 5) (ls' := [some (.ref 32), some (.int x1), some (.int x2), some (.int ((s0 ||| (s1 <<< ((3 * x4) &&& 31))))), some (.int ((x4 + 1))), some (.int x5)]) (st' := []) (n' := 94) (M' := (I, J, xrf)) (fun f => rfl) ?_
  cases h; exact hC
theorem p_X6_standBehind_5 {L : Nat} {xs : Nat → Int32} {d : Nat} {Q : xO → Prop} (x1 : Int32) (x2 : Int32) (x3 : Int32) (x4 : Int32) (x5 : Int32) (s0 : Int32) (I : xI) (J : xJ) {t : (Int32 × Int32 × Int32 × Int32 × (Option Value) × xI × xJ) ⊕ (Int32 × xI × xJ)} (h : f_X6_standBehind_5 x1 x2 x3 x4 x5 s0 I J = some t) (hC : (c_X6_standBehind_1 L xs d Q) t) : Rn L xs (d + 2) 86 47 [some (.ref 32), some (.int x1), some (.int x2), some (.int x3), some (.int x4), some (.int x5)] [.int s0] 94 (I, J, xrf) Q := by
  unfold f_X6_standBehind_5 at h
  refine Rn.go 1 (j' := 86) (pc' := 49) (ls' := [some (.ref 32), some (.int x1), some (.int x2), some (.int x3), some (.int x4), some (.int x5)]) (st' := [.int x5, .int s0]) (n' := 94) (M' := (I, J, xrf)) (fun f => rfl) ?_
  exact p_X6_standBehind_6 x1 x2 x3 x4 x5 s0 x5 I J h hC
theorem p_X6_standBehind_4 {L : Nat} {xs : Nat → Int32} {d : Nat} {Q : xO → Prop} (x1 : Int32) (x2 : Int32) (x3 : Int32) (x4 : Int32) (x5 : Int32) (s0 : Int32) (I : xI) (J : xJ) {t : (Int32 × Int32 × Int32 × Int32 × (Option Value) × xI × xJ) ⊕ (Int32 × xI × xJ)} (h : f_X6_standBehind_4 x1 x2 x3 x4 x5 s0 I J = some t) (hC : (c_X6_standBehind_1 L xs d Q) t) : Rn L xs (d + 2) 86 42 [some (.ref 32), some (.int x1), some (.int x2), some (.int x3), some (.int x4), some (.int x5)] [.int s0] 94 (I, J, xrf) Q := by
  unfold f_X6_standBehind_4 at h
  refine Rn.go 2 (j' := 86) (pc' := 49) (ls' := [some (.ref 32), some (.int x1), some (.int x2), some (.int x3), some (.int x4), some (.int x5)]) (st' := [.int 7, .int s0]) (n' := 94) (M' := (I, J, xrf)) (fun f => rfl) ?_
  exact p_X6_standBehind_6 x1 x2 x3 x4 x5 s0 7 I J h hC
theorem p_X6_standBehind_3 {L : Nat} {xs : Nat → Int32} {d : Nat} {Q : xO → Prop} (x1 : Int32) (x2 : Int32) (x3 : Int32) (x4 : Int32) (z5 : Option Value) (s0 : Int32) (I : xI) (J : xJ) {t : (Int32 × Int32 × Int32 × Int32 × (Option Value) × xI × xJ) ⊕ (Int32 × xI × xJ)} (h : f_X6_standBehind_3 x1 x2 x3 x4 z5 s0 I J = some t) (hC : (c_X6_standBehind_1 L xs d Q) t) : Rn L xs (d + 2) 86 34 [some (.ref 32), some (.int x1), some (.int x2), some (.int x3), some (.int x4), z5] [.int s0] 94 (I, J, xrf) Q := by
  unfold f_X6_standBehind_3 at h
  refine Rn.fi 4 (c := 0 ≤ s0) (p1 := 47) (l1 := [some (.ref 32), some (.int x1), some (.int x2), some (.int x3), some (.int x4), some (.int s0)]) (s1 := [.int x3]) (n1 := 94) (M1 := (I, J, xrf)) (p2 := 42) (l2 := [some (.ref 32), some (.int x1), some (.int x2), some (.int x3), some (.int x4), some (.int s0)]) (s2 := [.int x3]) (n2 := 94) (M2 := (I, J, xrf)) (fun f => rfl) (fun hc => ?_) (fun hc => ?_)
  · rw [if_pos hc] at h
    exact p_X6_standBehind_5 x1 x2 x3 x4 s0 x3 I J h hC
  · rw [if_neg hc] at h
    exact p_X6_standBehind_4 x1 x2 x3 x4 s0 x3 I J h hC
theorem p_X6_standBehind_2 {L : Nat} {xs : Nat → Int32} {d : Nat} {Q : xO → Prop} (x1 : Int32) (x2 : Int32) (x3 : Int32) (x4 : Int32) (z5 : Option Value) (I : xI) (J : xJ) {t : (Int32 × Int32 × Int32 × Int32 × (Option Value) × xI × xJ) ⊕ (Int32 × xI × xJ)} (h : f_X6_standBehind_2 x1 x2 x3 x4 z5 I J = some t) (hC : (c_X6_standBehind_1 L xs d Q) t) : Rn L xs (d + 2) 86 17 [some (.ref 32), some (.int x1), some (.int x2), some (.int x3), some (.int x4), z5] [] 94 (I, J, xrf) Q := by
  unfold f_X6_standBehind_2 at h
  refine Rn.go 10 (j' := 86) (pc' := 31) (ls' := [some (.ref 32), some (.int x1), some (.int x2), some (.int x3), some (.int x4), z5]) (st' := [.int x2, .int (((x1 >>> ((3 * x4) &&& 31)) &&& 7)), .ref 1]) (n' := 94) (M' := (I, J, xrf)) (fun f => rfl) ?_
  obtain ⟨o, ho, h⟩ := Option.bind_eq_some_iff.mp h
  refine Rn.call (d1 := d + 1) (j1 := 57) (ls1 := [some (.ref 1), some (.int (((x1 >>> ((3 * x4) &&& 31)) &&& 7))), some (.int x2)]) (rest := []) (fun f => rfl) ?_
  refine p_X5_targetOf (d := d + 0) (((x1 >>> ((3 * x4) &&& 31)) &&& 7)) x2 I J (t := o) ho ?_
  exact p_X6_standBehind_3 x1 x2 x3 x4 z5 o.1 o.2.1 o.2.2 h hC
theorem q_X6_standBehind_1 {L : Nat} {xs : Nat → Int32} {d : Nat} {Q : xO → Prop} (x1 : Int32) (x2 : Int32) (x3 : Int32) (x4 : Int32) (z5 : Option Value) (I : xI) (J : xJ) {t : (Int32 × Int32 × Int32 × Int32 × (Option Value) × xI × xJ) ⊕ (Int32 × xI × xJ)} (h : b_X6_standBehind_1 x1 x2 x3 x4 z5 I J = some t) (hC : (c_X6_standBehind_1 L xs d Q) t) : Rn L xs (d + 2) 86 5 [some (.ref 32), some (.int x1), some (.int x2), some (.int x3), some (.int x4), z5] [] 94 (I, J, xrf) Q := by
  unfold b_X6_standBehind_1 at h
  refine Rn.fi 5 (c := (I 1 0) ≤ x4) (p1 := 62) (l1 := [some (.ref 32), some (.int x1), some (.int x2), some (.int x3), some (.int x4), z5]) (s1 := []) (n1 := 94) (M1 := (I, J, xrf)) (p2 := 17) (l2 := [some (.ref 32), some (.int x1), some (.int x2), some (.int x3), some (.int x4), z5]) (s2 := []) (n2 := 94) (M2 := (I, J, xrf)) (fun f => rfl) (fun hc => ?_) (fun hc => ?_)
  · rw [if_pos hc] at h
    obtain ⟨t0, h0, rfl⟩ := Option.map_eq_some_iff.mp h
    exact p_X6_standBehind_7 x1 x2 x3 x4 z5 I J h0 hC
  · rw [if_neg hc] at h
    exact p_X6_standBehind_2 x1 x2 x3 x4 z5 I J h hC
theorem p_X6_standBehind_1 {L : Nat} {xs : Nat → Int32} {d : Nat} {Q : xO → Prop} (x1 : Int32) (x2 : Int32) (x3 : Int32) (x4 : Int32) (z5 : Option Value) (I : xI) (J : xJ) {t : Int32 × xI × xJ} (h : f_X6_standBehind_1 x1 x2 x3 x4 z5 I J = some t) (hC : (c_X6_standBehind Q) t) : Rn L xs (d + 2) 86 5 [some (.ref 32), some (.int x1), some (.int x2), some (.int x3), some (.int x4), z5] [] 94 (I, J, xrf) Q := by
  unfold f_X6_standBehind_1 at h
  exact xloop_some (P := fun s : Int32 × Int32 × Int32 × Int32 × (Option Value) × xI × xJ => Rn L xs (d + 2) 86 5 [some (.ref 32), some (.int s.1), some (.int s.2.1), some (.int s.2.2.1), some (.int s.2.2.2.1), s.2.2.2.2.1] [] 94 (s.2.2.2.2.2.1, s.2.2.2.2.2.2, xrf) Q) t (fun s ⟨s', hb, hp⟩ => q_X6_standBehind_1 s.1 s.2.1 s.2.2.1 s.2.2.2.1 s.2.2.2.2.1 s.2.2.2.2.2.1 s.2.2.2.2.2.2 hb hp) (fun s hb => q_X6_standBehind_1 s.1 s.2.1 s.2.2.1 s.2.2.2.1 s.2.2.2.2.1 s.2.2.2.2.2.1 s.2.2.2.2.2.2 hb hC) _ _ h
theorem p_X6_standBehind_0 {L : Nat} {xs : Nat → Int32} {d : Nat} {Q : xO → Prop} (x1 : Int32) (x2 : Int32) (I : xI) (J : xJ) {t : Int32 × xI × xJ} (h : f_X6_standBehind_0 x1 x2 I J = some t) (hC : (c_X6_standBehind Q) t) : Rn L xs (d + 2) 86 0 [some (.ref 32), some (.int x1), some (.int x2), none, none, none] [] 94 (I, J, xrf) Q := by
  unfold f_X6_standBehind_0 at h
  refine Rn.go 4 (j' := 86) (pc' := 5) (ls' := [some (.ref 32), some (.int x1), some (.int x2), some (.int 0), some (.int 0), none]) (st' := []) (n' := 94) (M' := (I, J, xrf)) (fun f => rfl) ?_
  exact p_X6_standBehind_1 x1 x2 0 0 none I J h hC
theorem p_X6_standBehind {L : Nat} {xs : Nat → Int32} {d : Nat} {Q : xO → Prop} (x1 : Int32) (x2 : Int32) (I : xI) (J : xJ) {t : Int32 × xI × xJ} (h : f_X6_standBehind x1 x2 I J = some t) (hC : Q ((some (.int t.1)), 94, (t.2.1, t.2.2, xrf))) : Rn L xs (d + 2) 86 0 [some (.ref 32), some (.int x1), some (.int x2), none, none, none] [] 94 (I, J, xrf) Q := p_X6_standBehind_0 x1 x2 I J h hC
/-! X6_toldBy -/
def c_X6_toldBy (Q : xO → Prop) (t : Int32 × xI × xJ) : Prop := Q ((some (.int t.1)), 94, (t.2.1, t.2.2, xrf))
def c_X6_toldBy_1 (L : Nat) (xs : Nat → Int32) (d : Nat) (Q : xO → Prop) (t : (Int32 × Int32 × Int32 × Int32 × (Option Value) × xI × xJ) ⊕ (Int32 × xI × xJ)) : Prop := match t with
  | .inl s => Rn L xs (d + 3) 87 5 [some (.ref 32), some (.int s.1), some (.int s.2.1), some (.int s.2.2.1), some (.int s.2.2.2.1), s.2.2.2.2.1] [] 94 (s.2.2.2.2.2.1, s.2.2.2.2.2.2, xrf) Q
  | .inr t => (c_X6_toldBy Q) t
def c_X6_toldBy_3 (L : Nat) (xs : Nat → Int32) (d : Nat) (Q : xO → Prop) (t : (Int32 × Int32 × Int32 × Int32 × Int32 × xI × xJ) ⊕ ((Int32 × Int32 × Int32 × Int32 × (Option Value) × xI × xJ) ⊕ (Int32 × xI × xJ))) : Prop := match t with
  | .inl s => Rn L xs (d + 3) 87 23 [some (.ref 32), some (.int s.1), some (.int s.2.1), some (.int s.2.2.1), some (.int s.2.2.2.1), some (.int s.2.2.2.2.1)] [] 94 (s.2.2.2.2.2.1, s.2.2.2.2.2.2, xrf) Q
  | .inr t => (c_X6_toldBy_1 L xs d Q) t
def f_X6_toldBy_10 (x1 : Int32) (x2 : Int32) (x3 : Int32) (x4 : Int32) (z5 : Option Value) (I : xI) (J : xJ) : Option (Int32 × xI × xJ) := some (x3, I, J)
def f_X6_toldBy_9 (x1 : Int32) (x2 : Int32) (x3 : Int32) (x4 : Int32) (x5 : Int32) (I : xI) (J : xJ) : Option ((Int32 × Int32 × Int32 × Int32 × (Option Value) × xI × xJ) ⊕ (Int32 × xI × xJ)) := some (.inl (x1, x2, x3, ((x4 + 1)), (some (.int x5)), I, J))
def f_X6_toldBy_8 (x1 : Int32) (x2 : Int32) (x3 : Int32) (x4 : Int32) (x5 : Int32) (I : xI) (J : xJ) : Option ((Int32 × Int32 × Int32 × Int32 × Int32 × xI × xJ) ⊕ ((Int32 × Int32 × Int32 × Int32 × (Option Value) × xI × xJ) ⊕ (Int32 × xI × xJ))) := some (.inl (x1, x2, x3, x4, ((x5 + 1)), I, J))
def f_X6_toldBy_7 (x1 : Int32) (x2 : Int32) (x3 : Int32) (x4 : Int32) (x5 : Int32) (s0 : Int32) (s1 : Int32) (I : xI) (J : xJ) : Option ((Int32 × Int32 × Int32 × Int32 × Int32 × xI × xJ) ⊕ ((Int32 × Int32 × Int32 × Int32 × (Option Value) × xI × xJ) ⊕ (Int32 × xI × xJ))) := f_X6_toldBy_8 x1 x2 ((s0 ||| s1)) x4 x5 I J
def f_X6_toldBy_6 (x1 : Int32) (x2 : Int32) (x3 : Int32) (x4 : Int32) (x5 : Int32) (I : xI) (J : xJ) : Option ((Int32 × Int32 × Int32 × Int32 × Int32 × xI × xJ) ⊕ ((Int32 × Int32 × Int32 × Int32 × (Option Value) × xI × xJ) ⊕ (Int32 × xI × xJ))) := (f_X11_pairOf x4 x5 I J).bind fun o => f_X6_toldBy_7 x1 x2 x3 x4 x5 x3 o.1 o.2.1 o.2.2
def f_X6_toldBy_5 (x1 : Int32) (x2 : Int32) (x3 : Int32) (x4 : Int32) (x5 : Int32) (s0 : Int32) (I : xI) (J : xJ) : Option ((Int32 × Int32 × Int32 × Int32 × Int32 × xI × xJ) ⊕ ((Int32 × Int32 × Int32 × Int32 × (Option Value) × xI × xJ) ⊕ (Int32 × xI × xJ))) := if s0 = 0 then f_X6_toldBy_8 x1 x2 x3 x4 x5 I J else f_X6_toldBy_6 x1 x2 x3 x4 x5 I J
def f_X6_toldBy_4 (x1 : Int32) (x2 : Int32) (x3 : Int32) (x4 : Int32) (x5 : Int32) (I : xI) (J : xJ) : Option ((Int32 × Int32 × Int32 × Int32 × Int32 × xI × xJ) ⊕ ((Int32 × Int32 × Int32 × Int32 × (Option Value) × xI × xJ) ⊕ (Int32 × xI × xJ))) := (f_X6_isUnlike (((x1 >>> ((3 * x4) &&& 31)) &&& 7)) (((x1 >>> ((3 * x5) &&& 31)) &&& 7)) x2 I J).bind fun o => f_X6_toldBy_5 x1 x2 x3 x4 x5 o.1 o.2.1 o.2.2
def b_X6_toldBy_3 (x1 : Int32) (x2 : Int32) (x3 : Int32) (x4 : Int32) (x5 : Int32) (I : xI) (J : xJ) : Option ((Int32 × Int32 × Int32 × Int32 × Int32 × xI × xJ) ⊕ ((Int32 × Int32 × Int32 × Int32 × (Option Value) × xI × xJ) ⊕ (Int32 × xI × xJ))) := if (I 1 0) ≤ x5 then ((f_X6_toldBy_9 x1 x2 x3 x4 x5 I J)).map .inr else f_X6_toldBy_4 x1 x2 x3 x4 x5 I J
def f_X6_toldBy_3 (x1 : Int32) (x2 : Int32) (x3 : Int32) (x4 : Int32) (x5 : Int32) (I : xI) (J : xJ) : Option ((Int32 × Int32 × Int32 × Int32 × (Option Value) × xI × xJ) ⊕ (Int32 × xI × xJ)) := xloop (fun s : Int32 × Int32 × Int32 × Int32 × Int32 × xI × xJ => b_X6_toldBy_3 s.1 s.2.1 s.2.2.1 s.2.2.2.1 s.2.2.2.2.1 s.2.2.2.2.2.1 s.2.2.2.2.2.2) 5000 (x1, x2, x3, x4, x5, I, J)
def f_X6_toldBy_2 (x1 : Int32) (x2 : Int32) (x3 : Int32) (x4 : Int32) (z5 : Option Value) (I : xI) (J : xJ) : Option ((Int32 × Int32 × Int32 × Int32 × (Option Value) × xI × xJ) ⊕ (Int32 × xI × xJ)) := f_X6_toldBy_3 x1 x2 x3 x4 ((x4 + 1)) I J
def b_X6_toldBy_1 (x1 : Int32) (x2 : Int32) (x3 : Int32) (x4 : Int32) (z5 : Option Value) (I : xI) (J : xJ) : Option ((Int32 × Int32 × Int32 × Int32 × (Option Value) × xI × xJ) ⊕ (Int32 × xI × xJ)) := if (I 1 0) ≤ x4 then ((f_X6_toldBy_10 x1 x2 x3 x4 z5 I J)).map .inr else f_X6_toldBy_2 x1 x2 x3 x4 z5 I J
def f_X6_toldBy_1 (x1 : Int32) (x2 : Int32) (x3 : Int32) (x4 : Int32) (z5 : Option Value) (I : xI) (J : xJ) : Option (Int32 × xI × xJ) := xloop (fun s : Int32 × Int32 × Int32 × Int32 × (Option Value) × xI × xJ => b_X6_toldBy_1 s.1 s.2.1 s.2.2.1 s.2.2.2.1 s.2.2.2.2.1 s.2.2.2.2.2.1 s.2.2.2.2.2.2) 5000 (x1, x2, x3, x4, z5, I, J)
def f_X6_toldBy_0 (x1 : Int32) (x2 : Int32) (I : xI) (J : xJ) : Option (Int32 × xI × xJ) := f_X6_toldBy_1 x1 x2 0 0 none I J
def f_X6_toldBy (x1 : Int32) (x2 : Int32) (I : xI) (J : xJ) : Option (Int32 × xI × xJ) := f_X6_toldBy_0 x1 x2 I J
theorem p_X6_toldBy_10 {L : Nat} {xs : Nat → Int32} {d : Nat} {Q : xO → Prop} (x1 : Int32) (x2 : Int32) (x3 : Int32) (x4 : Int32) (z5 : Option Value) (I : xI) (J : xJ) {t : Int32 × xI × xJ} (h : f_X6_toldBy_10 x1 x2 x3 x4 z5 I J = some t) (hC : (c_X6_toldBy Q) t) : Rn L xs (d + 3) 87 83 [some (.ref 32), some (.int x1), some (.int x2), some (.int x3), some (.int x4), z5] [] 94 (I, J, xrf) Q := by
  unfold f_X6_toldBy_10 at h
  cases h
  exact Rn.ret 2 (o := ((some (.int x3)), 94, (I, J, xrf))) (fun f => rfl) hC
theorem p_X6_toldBy_9 {L : Nat} {xs : Nat → Int32} {d : Nat} {Q : xO → Prop} (x1 : Int32) (x2 : Int32) (x3 : Int32) (x4 : Int32) (x5 : Int32) (I : xI) (J : xJ) {t : (Int32 × Int32 × Int32 × Int32 × (Option Value) × xI × xJ) ⊕ (Int32 × xI × xJ)} (h : f_X6_toldBy_9 x1 x2 x3 x4 x5 I J = some t) (hC : (c_X6_toldBy_1 L xs d Q) t) : Rn L xs (d + 3) 87 77 [some (.ref 32), some (.int x1), some (.int x2), some (.int x3), some (.int x4), some (.int x5)] [] 94 (I, J, xrf) Q := by
  unfold f_X6_toldBy_9 at h
  refine Rn.go 2 (j' := 87) (pc' := 5) (ls' := [some (.ref 32), some (.int x1), some (.int x2), some (.int x3), some (.int ((x4 + 1))), some (.int x5)]) (st' := []) (n' := 94) (M' := (I, J, xrf)) (fun f => rfl) ?_
  cases h; exact hC
theorem p_X6_toldBy_8 {L : Nat} {xs : Nat → Int32} {d : Nat} {Q : xO → Prop} (x1 : Int32) (x2 : Int32) (x3 : Int32) (x4 : Int32) (x5 : Int32) (I : xI) (J : xJ) {t : (Int32 × Int32 × Int32 × Int32 × Int32 × xI × xJ) ⊕ ((Int32 × Int32 × Int32 × Int32 × (Option Value) × xI × xJ) ⊕ (Int32 × xI × xJ))} (h : f_X6_toldBy_8 x1 x2 x3 x4 x5 I J = some t) (hC : (c_X6_toldBy_3 L xs d Q) t) : Rn L xs (d + 3) 87 71 [some (.ref 32), some (.int x1), some (.int x2), some (.int x3), some (.int x4), some (.int x5)] [] 94 (I, J, xrf) Q := by
  unfold f_X6_toldBy_8 at h
  refine Rn.go 2 (j' := 87) (pc' := 23) (ls' := [some (.ref 32), some (.int x1), some (.int x2), some (.int x3), some (.int x4), some (.int ((x5 + 1)))]) (st' := []) (n' := 94) (M' := (I, J, xrf)) (fun f => rfl) ?_
  cases h; exact hC
theorem p_X6_toldBy_7 {L : Nat} {xs : Nat → Int32} {d : Nat} {Q : xO → Prop} (x1 : Int32) (x2 : Int32) (x3 : Int32) (x4 : Int32) (x5 : Int32) (s0 : Int32) (s1 : Int32) (I : xI) (J : xJ) {t : (Int32 × Int32 × Int32 × Int32 × Int32 × xI × xJ) ⊕ ((Int32 × Int32 × Int32 × Int32 × (Option Value) × xI × xJ) ⊕ (Int32 × xI × xJ))} (h : f_X6_toldBy_7 x1 x2 x3 x4 x5 s0 s1 I J = some t) (hC : (c_X6_toldBy_3 L xs d Q) t) : Rn L xs (d + 3) 87 69 [some (.ref 32), some (.int x1), some (.int x2), some (.int x3), some (.int x4), some (.int x5)] [.int s1, .int s0] 94 (I, J, xrf) Q := by
  unfold f_X6_toldBy_7 at h
  refine Rn.go 2 (j' := 87) (pc' := 71) (ls' := [some (.ref 32), some (.int x1), some (.int x2), some (.int ((s0 ||| s1))), some (.int x4), some (.int x5)]) (st' := []) (n' := 94) (M' := (I, J, xrf)) (fun f => rfl) ?_
  exact p_X6_toldBy_8 x1 x2 ((s0 ||| s1)) x4 x5 I J h hC
theorem p_X6_toldBy_6 {L : Nat} {xs : Nat → Int32} {d : Nat} {Q : xO → Prop} (x1 : Int32) (x2 : Int32) (x3 : Int32) (x4 : Int32) (x5 : Int32) (I : xI) (J : xJ) {t : (Int32 × Int32 × Int32 × Int32 × Int32 × xI × xJ) ⊕ ((Int32 × Int32 × Int32 × Int32 × (Option Value) × xI × xJ) ⊕ (Int32 × xI × xJ))} (h : f_X6_toldBy_6 x1 x2 x3 x4 x5 I J = some t) (hC : (c_X6_toldBy_3 L xs d Q) t) : Rn L xs (d + 3) 87 61 [some (.ref 32), some (.int x1), some (.int x2), some (.int x3), some (.int x4), some (.int x5)] [] 94 (I, J, xrf) Q := by
  unfold f_X6_toldBy_6 at h
  refine Rn.go 3 (j' := 87) (pc' := 66) (ls' := [some (.ref 32), some (.int x1), some (.int x2), some (.int x3), some (.int x4), some (.int x5)]) (st' := [.int x5, .int x4, .int x3]) (n' := 94) (M' := (I, J, xrf)) (fun f => rfl) ?_
  obtain ⟨o, ho, h⟩ := Option.bind_eq_some_iff.mp h
  refine Rn.call (d1 := d + 2) (j1 := 181) (ls1 := [some (.int x4), some (.int x5), none]) (rest := [.int x3]) (fun f => rfl) ?_
  refine p_X11_pairOf (d := d + 1) x4 x5 I J (t := o) ho ?_
  exact p_X6_toldBy_7 x1 x2 x3 x4 x5 x3 o.1 o.2.1 o.2.2 h hC
theorem p_X6_toldBy_5 {L : Nat} {xs : Nat → Int32} {d : Nat} {Q : xO → Prop} (x1 : Int32) (x2 : Int32) (x3 : Int32) (x4 : Int32) (x5 : Int32) (s0 : Int32) (I : xI) (J : xJ) {t : (Int32 × Int32 × Int32 × Int32 × Int32 × xI × xJ) ⊕ ((Int32 × Int32 × Int32 × Int32 × (Option Value) × xI × xJ) ⊕ (Int32 × xI × xJ))} (h : f_X6_toldBy_5 x1 x2 x3 x4 x5 s0 I J = some t) (hC : (c_X6_toldBy_3 L xs d Q) t) : Rn L xs (d + 3) 87 58 [some (.ref 32), some (.int x1), some (.int x2), some (.int x3), some (.int x4), some (.int x5)] [.int s0] 94 (I, J, xrf) Q := by
  unfold f_X6_toldBy_5 at h
  refine Rn.fi 1 (c := s0 = 0) (p1 := 71) (l1 := [some (.ref 32), some (.int x1), some (.int x2), some (.int x3), some (.int x4), some (.int x5)]) (s1 := []) (n1 := 94) (M1 := (I, J, xrf)) (p2 := 61) (l2 := [some (.ref 32), some (.int x1), some (.int x2), some (.int x3), some (.int x4), some (.int x5)]) (s2 := []) (n2 := 94) (M2 := (I, J, xrf)) (fun f => rfl) (fun hc => ?_) (fun hc => ?_)
  · rw [if_pos hc] at h
    exact p_X6_toldBy_8 x1 x2 x3 x4 x5 I J h hC
  · rw [if_neg hc] at h
    exact p_X6_toldBy_6 x1 x2 x3 x4 x5 I J h hC
theorem p_X6_toldBy_4 {L : Nat} {xs : Nat → Int32} {d : Nat} {Q : xO → Prop} (x1 : Int32) (x2 : Int32) (x3 : Int32) (x4 : Int32) (x5 : Int32) (I : xI) (J : xJ) {t : (Int32 × Int32 × Int32 × Int32 × Int32 × xI × xJ) ⊕ ((Int32 × Int32 × Int32 × Int32 × (Option Value) × xI × xJ) ⊕ (Int32 × xI × xJ))} (h : f_X6_toldBy_4 x1 x2 x3 x4 x5 I J = some t) (hC : (c_X6_toldBy_3 L xs d Q) t) : Rn L xs (d + 3) 87 35 [some (.ref 32), some (.int x1), some (.int x2), some (.int x3), some (.int x4), some (.int x5)] [] 94 (I, J, xrf) Q := by
  unfold f_X6_toldBy_4 at h
  refine Rn.go 16 (j' := 87) (pc' := 55) (ls' := [some (.ref 32), some (.int x1), some (.int x2), some (.int x3), some (.int x4), some (.int x5)]) (st' := [.int x2, .int (((x1 >>> ((3 * x5) &&& 31)) &&& 7)), .int (((x1 >>> ((3 * x4) &&& 31)) &&& 7)), .ref 32]) (n' := 94) (M' := (I, J, xrf)) (fun f => rfl) ?_
  obtain ⟨o, ho, h⟩ := Option.bind_eq_some_iff.mp h
  refine Rn.call (d1 := d + 2) (j1 := 73) (ls1 := [some (.ref 32), some (.int (((x1 >>> ((3 * x4) &&& 31)) &&& 7))), some (.int (((x1 >>> ((3 * x5) &&& 31)) &&& 7))), some (.int x2), none, none]) (rest := []) (fun f => rfl) ?_
  refine p_X6_isUnlike (d := d + 0) (((x1 >>> ((3 * x4) &&& 31)) &&& 7)) (((x1 >>> ((3 * x5) &&& 31)) &&& 7)) x2 I J (t := o) ho ?_
  exact p_X6_toldBy_5 x1 x2 x3 x4 x5 o.1 o.2.1 o.2.2 h hC
theorem q_X6_toldBy_3 {L : Nat} {xs : Nat → Int32} {d : Nat} {Q : xO → Prop} (x1 : Int32) (x2 : Int32) (x3 : Int32) (x4 : Int32) (x5 : Int32) (I : xI) (J : xJ) {t : (Int32 × Int32 × Int32 × Int32 × Int32 × xI × xJ) ⊕ ((Int32 × Int32 × Int32 × Int32 × (Option Value) × xI × xJ) ⊕ (Int32 × xI × xJ))} (h : b_X6_toldBy_3 x1 x2 x3 x4 x5 I J = some t) (hC : (c_X6_toldBy_3 L xs d Q) t) : Rn L xs (d + 3) 87 23 [some (.ref 32), some (.int x1), some (.int x2), some (.int x3), some (.int x4), some (.int x5)] [] 94 (I, J, xrf) Q := by
  unfold b_X6_toldBy_3 at h
  refine Rn.fi 5 (c := (I 1 0) ≤ x5) (p1 := 77) (l1 := [some (.ref 32), some (.int x1), some (.int x2), some (.int x3), some (.int x4), some (.int x5)]) (s1 := []) (n1 := 94) (M1 := (I, J, xrf)) (p2 := 35) (l2 := [some (.ref 32), some (.int x1), some (.int x2), some (.int x3), some (.int x4), some (.int x5)]) (s2 := []) (n2 := 94) (M2 := (I, J, xrf)) (fun f => rfl) (fun hc => ?_) (fun hc => ?_)
  · rw [if_pos hc] at h
    obtain ⟨t0, h0, rfl⟩ := Option.map_eq_some_iff.mp h
    exact p_X6_toldBy_9 x1 x2 x3 x4 x5 I J h0 hC
  · rw [if_neg hc] at h
    exact p_X6_toldBy_4 x1 x2 x3 x4 x5 I J h hC
theorem p_X6_toldBy_3 {L : Nat} {xs : Nat → Int32} {d : Nat} {Q : xO → Prop} (x1 : Int32) (x2 : Int32) (x3 : Int32) (x4 : Int32) (x5 : Int32) (I : xI) (J : xJ) {t : (Int32 × Int32 × Int32 × Int32 × (Option Value) × xI × xJ) ⊕ (Int32 × xI × xJ)} (h : f_X6_toldBy_3 x1 x2 x3 x4 x5 I J = some t) (hC : (c_X6_toldBy_1 L xs d Q) t) : Rn L xs (d + 3) 87 23 [some (.ref 32), some (.int x1), some (.int x2), some (.int x3), some (.int x4), some (.int x5)] [] 94 (I, J, xrf) Q := by
  unfold f_X6_toldBy_3 at h
  exact xloop_some (P := fun s : Int32 × Int32 × Int32 × Int32 × Int32 × xI × xJ => Rn L xs (d + 3) 87 23 [some (.ref 32), some (.int s.1), some (.int s.2.1), some (.int s.2.2.1), some (.int s.2.2.2.1), some (.int s.2.2.2.2.1)] [] 94 (s.2.2.2.2.2.1, s.2.2.2.2.2.2, xrf) Q) t (fun s ⟨s', hb, hp⟩ => q_X6_toldBy_3 s.1 s.2.1 s.2.2.1 s.2.2.2.1 s.2.2.2.2.1 s.2.2.2.2.2.1 s.2.2.2.2.2.2 hb hp) (fun s hb => q_X6_toldBy_3 s.1 s.2.1 s.2.2.1 s.2.2.2.1 s.2.2.2.2.1 s.2.2.2.2.2.1 s.2.2.2.2.2.2 hb hC) _ _ h
theorem p_X6_toldBy_2 {L : Nat} {xs : Nat → Int32} {d : Nat} {Q : xO → Prop} (x1 : Int32) (x2 : Int32) (x3 : Int32) (x4 : Int32) (z5 : Option Value) (I : xI) (J : xJ) {t : (Int32 × Int32 × Int32 × Int32 × (Option Value) × xI × xJ) ⊕ (Int32 × xI × xJ)} (h : f_X6_toldBy_2 x1 x2 x3 x4 z5 I J = some t) (hC : (c_X6_toldBy_1 L xs d Q) t) : Rn L xs (d + 3) 87 17 [some (.ref 32), some (.int x1), some (.int x2), some (.int x3), some (.int x4), z5] [] 94 (I, J, xrf) Q := by
  unfold f_X6_toldBy_2 at h
  refine Rn.go 4 (j' := 87) (pc' := 23) (ls' := [some (.ref 32), some (.int x1), some (.int x2), some (.int x3), some (.int x4), some (.int ((x4 + 1)))]) (st' := []) (n' := 94) (M' := (I, J, xrf)) (fun f => rfl) ?_
  exact p_X6_toldBy_3 x1 x2 x3 x4 ((x4 + 1)) I J h hC
theorem q_X6_toldBy_1 {L : Nat} {xs : Nat → Int32} {d : Nat} {Q : xO → Prop} (x1 : Int32) (x2 : Int32) (x3 : Int32) (x4 : Int32) (z5 : Option Value) (I : xI) (J : xJ) {t : (Int32 × Int32 × Int32 × Int32 × (Option Value) × xI × xJ) ⊕ (Int32 × xI × xJ)} (h : b_X6_toldBy_1 x1 x2 x3 x4 z5 I J = some t) (hC : (c_X6_toldBy_1 L xs d Q) t) : Rn L xs (d + 3) 87 5 [some (.ref 32), some (.int x1), some (.int x2), some (.int x3), some (.int x4), z5] [] 94 (I, J, xrf) Q := by
  unfold b_X6_toldBy_1 at h
  refine Rn.fi 5 (c := (I 1 0) ≤ x4) (p1 := 83) (l1 := [some (.ref 32), some (.int x1), some (.int x2), some (.int x3), some (.int x4), z5]) (s1 := []) (n1 := 94) (M1 := (I, J, xrf)) (p2 := 17) (l2 := [some (.ref 32), some (.int x1), some (.int x2), some (.int x3), some (.int x4), z5]) (s2 := []) (n2 := 94) (M2 := (I, J, xrf)) (fun f => rfl) (fun hc => ?_) (fun hc => ?_)
  · rw [if_pos hc] at h
    obtain ⟨t0, h0, rfl⟩ := Option.map_eq_some_iff.mp h
    exact p_X6_toldBy_10 x1 x2 x3 x4 z5 I J h0 hC
  · rw [if_neg hc] at h
    exact p_X6_toldBy_2 x1 x2 x3 x4 z5 I J h hC
theorem p_X6_toldBy_1 {L : Nat} {xs : Nat → Int32} {d : Nat} {Q : xO → Prop} (x1 : Int32) (x2 : Int32) (x3 : Int32) (x4 : Int32) (z5 : Option Value) (I : xI) (J : xJ) {t : Int32 × xI × xJ} (h : f_X6_toldBy_1 x1 x2 x3 x4 z5 I J = some t) (hC : (c_X6_toldBy Q) t) : Rn L xs (d + 3) 87 5 [some (.ref 32), some (.int x1), some (.int x2), some (.int x3), some (.int x4), z5] [] 94 (I, J, xrf) Q := by
  unfold f_X6_toldBy_1 at h
  exact xloop_some (P := fun s : Int32 × Int32 × Int32 × Int32 × (Option Value) × xI × xJ => Rn L xs (d + 3) 87 5 [some (.ref 32), some (.int s.1), some (.int s.2.1), some (.int s.2.2.1), some (.int s.2.2.2.1), s.2.2.2.2.1] [] 94 (s.2.2.2.2.2.1, s.2.2.2.2.2.2, xrf) Q) t (fun s ⟨s', hb, hp⟩ => q_X6_toldBy_1 s.1 s.2.1 s.2.2.1 s.2.2.2.1 s.2.2.2.2.1 s.2.2.2.2.2.1 s.2.2.2.2.2.2 hb hp) (fun s hb => q_X6_toldBy_1 s.1 s.2.1 s.2.2.1 s.2.2.2.1 s.2.2.2.2.1 s.2.2.2.2.2.1 s.2.2.2.2.2.2 hb hC) _ _ h
theorem p_X6_toldBy_0 {L : Nat} {xs : Nat → Int32} {d : Nat} {Q : xO → Prop} (x1 : Int32) (x2 : Int32) (I : xI) (J : xJ) {t : Int32 × xI × xJ} (h : f_X6_toldBy_0 x1 x2 I J = some t) (hC : (c_X6_toldBy Q) t) : Rn L xs (d + 3) 87 0 [some (.ref 32), some (.int x1), some (.int x2), none, none, none] [] 94 (I, J, xrf) Q := by
  unfold f_X6_toldBy_0 at h
  refine Rn.go 4 (j' := 87) (pc' := 5) (ls' := [some (.ref 32), some (.int x1), some (.int x2), some (.int 0), some (.int 0), none]) (st' := []) (n' := 94) (M' := (I, J, xrf)) (fun f => rfl) ?_
  exact p_X6_toldBy_1 x1 x2 0 0 none I J h hC
theorem p_X6_toldBy {L : Nat} {xs : Nat → Int32} {d : Nat} {Q : xO → Prop} (x1 : Int32) (x2 : Int32) (I : xI) (J : xJ) {t : Int32 × xI × xJ} (h : f_X6_toldBy x1 x2 I J = some t) (hC : Q ((some (.int t.1)), 94, (t.2.1, t.2.2, xrf))) : Rn L xs (d + 3) 87 0 [some (.ref 32), some (.int x1), some (.int x2), none, none, none] [] 94 (I, J, xrf) Q := p_X6_toldBy_0 x1 x2 I J h hC
/-! X6_seek -/
def c_X6_seek (Q : xO → Prop) (t : Int32 × xI × xJ) : Prop := Q ((some (.int t.1)), 94, (t.2.1, t.2.2, xrf))
def c_X6_seek_6 (L : Nat) (xs : Nat → Int32) (d r : Nat) (Q : xO → Prop) (t : (Int32 × Int32 × Int32 × Int32 × Int32 × xI × xJ) ⊕ (Int32 × xI × xJ)) : Prop := match t with
  | .inl s => Rn L xs (d + r + 5) 83 25 [some (.ref 32), some (.int s.1), some (.int s.2.1), some (.int s.2.2.1), some (.int s.2.2.2.1), some (.int s.2.2.2.2.1)] [] 94 (s.2.2.2.2.2.1, s.2.2.2.2.2.2, xrf) Q
  | .inr t => (c_X6_seek Q) t
def f_X6_seek_13 (self : Int32 → Int32 → Int32 → Int32 → xI → xJ → Option (Int32 × xI × xJ)) (x1 : Int32) (x2 : Int32) (x3 : Int32) (x4 : Int32) (x5 : Int32) (I : xI) (J : xJ) : Option (Int32 × xI × xJ) := some (0, I, J)
def f_X6_seek_12 (self : Int32 → Int32 → Int32 → Int32 → xI → xJ → Option (Int32 × xI × xJ)) (x1 : Int32) (x2 : Int32) (x3 : Int32) (x4 : Int32) (x5 : Int32) (I : xI) (J : xJ) : Option ((Int32 × Int32 × Int32 × Int32 × Int32 × xI × xJ) ⊕ (Int32 × xI × xJ)) := some (.inl (x1, x2, x3, x4, ((x5 + 1)), I, J))
def f_X6_seek_11 (self : Int32 → Int32 → Int32 → Int32 → xI → xJ → Option (Int32 × xI × xJ)) (x1 : Int32) (x2 : Int32) (x3 : Int32) (x4 : Int32) (x5 : Int32) (I : xI) (J : xJ) : Option (Int32 × xI × xJ) := some (1, I, J)
def f_X6_seek_10 (self : Int32 → Int32 → Int32 → Int32 → xI → xJ → Option (Int32 × xI × xJ)) (x1 : Int32) (x2 : Int32) (x3 : Int32) (x4 : Int32) (x5 : Int32) (s0 : Int32) (I : xI) (J : xJ) : Option ((Int32 × Int32 × Int32 × Int32 × Int32 × xI × xJ) ⊕ (Int32 × xI × xJ)) := if s0 = 0 then f_X6_seek_12 self x1 x2 x3 x4 x5 I J else ((f_X6_seek_11 self x1 x2 x3 x4 x5 I J)).map .inr
def f_X6_seek_9 (self : Int32 → Int32 → Int32 → Int32 → xI → xJ → Option (Int32 × xI × xJ)) (x1 : Int32) (x2 : Int32) (x3 : Int32) (x4 : Int32) (x5 : Int32) (s1 : Int32) (s2 : Int32) (s3 : Int32) (s4 : Int32) (s5 : Int32) (I : xI) (J : xJ) : Option ((Int32 × Int32 × Int32 × Int32 × Int32 × xI × xJ) ⊕ (Int32 × xI × xJ)) := (self s1 s2 s3 ((s4 ||| s5)) I J).bind fun o => f_X6_seek_10 self x1 x2 x3 x4 x5 o.1 o.2.1 o.2.2
def f_X6_seek_8 (self : Int32 → Int32 → Int32 → Int32 → xI → xJ → Option (Int32 × xI × xJ)) (x1 : Int32) (x2 : Int32) (x3 : Int32) (x4 : Int32) (x5 : Int32) (s1 : Int32) (s2 : Int32) (s3 : Int32) (I : xI) (J : xJ) : Option ((Int32 × Int32 × Int32 × Int32 × Int32 × xI × xJ) ⊕ (Int32 × xI × xJ)) := (f_X6_toldBy x3 x5 I J).bind fun o => f_X6_seek_9 self x1 x2 x3 x4 x5 s1 s2 s3 x4 o.1 o.2.1 o.2.2
def f_X6_seek_7 (self : Int32 → Int32 → Int32 → Int32 → xI → xJ → Option (Int32 × xI × xJ)) (x1 : Int32) (x2 : Int32) (x3 : Int32) (x4 : Int32) (x5 : Int32) (I : xI) (J : xJ) : Option ((Int32 × Int32 × Int32 × Int32 × Int32 × xI × xJ) ⊕ (Int32 × xI × xJ)) := if x1 < 0 ∨ 6 ≤ x1.toNatClampNeg then none else (f_X6_standBehind x3 x5 ((xup I 35 x1.toNatClampNeg x5)) J).bind fun o => f_X6_seek_8 self x1 x2 x3 x4 x5 ((x1 + 1)) x2 o.1 o.2.1 o.2.2
def b_X6_seek_6 (self : Int32 → Int32 → Int32 → Int32 → xI → xJ → Option (Int32 × xI × xJ)) (x1 : Int32) (x2 : Int32) (x3 : Int32) (x4 : Int32) (x5 : Int32) (I : xI) (J : xJ) : Option ((Int32 × Int32 × Int32 × Int32 × Int32 × xI × xJ) ⊕ (Int32 × xI × xJ)) := if (I 1 1) ≤ x5 then ((f_X6_seek_13 self x1 x2 x3 x4 x5 I J)).map .inr else f_X6_seek_7 self x1 x2 x3 x4 x5 I J
def f_X6_seek_6 (self : Int32 → Int32 → Int32 → Int32 → xI → xJ → Option (Int32 × xI × xJ)) (x1 : Int32) (x2 : Int32) (x3 : Int32) (x4 : Int32) (x5 : Int32) (I : xI) (J : xJ) : Option (Int32 × xI × xJ) := xloop (fun s : Int32 × Int32 × Int32 × Int32 × Int32 × xI × xJ => b_X6_seek_6 self s.1 s.2.1 s.2.2.1 s.2.2.2.1 s.2.2.2.2.1 s.2.2.2.2.2.1 s.2.2.2.2.2.2) 5000 (x1, x2, x3, x4, x5, I, J)
def f_X6_seek_5 (self : Int32 → Int32 → Int32 → Int32 → xI → xJ → Option (Int32 × xI × xJ)) (x1 : Int32) (x2 : Int32) (x3 : Int32) (x4 : Int32) (I : xI) (J : xJ) : Option (Int32 × xI × xJ) := f_X6_seek_6 self x1 x2 x3 x4 0 I J
def f_X6_seek_4 (self : Int32 → Int32 → Int32 → Int32 → xI → xJ → Option (Int32 × xI × xJ)) (x1 : Int32) (x2 : Int32) (x3 : Int32) (x4 : Int32) (I : xI) (J : xJ) : Option (Int32 × xI × xJ) := some (1, I, J)
def f_X6_seek_3 (self : Int32 → Int32 → Int32 → Int32 → xI → xJ → Option (Int32 × xI × xJ)) (x1 : Int32) (x2 : Int32) (x3 : Int32) (x4 : Int32) (I : xI) (J : xJ) : Option (Int32 × xI × xJ) := if x1 < x2 then f_X6_seek_5 self x1 x2 x3 x4 I J else f_X6_seek_4 self x1 x2 x3 x4 I J
def f_X6_seek_2 (self : Int32 → Int32 → Int32 → Int32 → xI → xJ → Option (Int32 × xI × xJ)) (x1 : Int32) (x2 : Int32) (x3 : Int32) (x4 : Int32) (I : xI) (J : xJ) : Option (Int32 × xI × xJ) := some (0, I, J)
def f_X6_seek_1 (self : Int32 → Int32 → Int32 → Int32 → xI → xJ → Option (Int32 × xI × xJ)) (x1 : Int32) (x2 : Int32) (x3 : Int32) (x4 : Int32) (s0 : Int32) (I : xI) (J : xJ) : Option (Int32 × xI × xJ) := if s0 = 0 then f_X6_seek_2 self x1 x2 x3 x4 I J else f_X6_seek_3 self x1 x2 x3 x4 I J
def f_X6_seek_0 (self : Int32 → Int32 → Int32 → Int32 → xI → xJ → Option (Int32 × xI × xJ)) (x1 : Int32) (x2 : Int32) (x3 : Int32) (x4 : Int32) (I : xI) (J : xJ) : Option (Int32 × xI × xJ) := (f_X6_canTell x3 x4 ((x2 - x1)) I J).bind fun o => f_X6_seek_1 self x1 x2 x3 x4 o.1 o.2.1 o.2.2
def f_X6_seek : Nat → Int32 → Int32 → Int32 → Int32 → xI → xJ → Option (Int32 × xI × xJ)
  | 0, _, _, _, _, _, _ => none
  | r + 1, x1, x2, x3, x4, I, J => f_X6_seek_0 (f_X6_seek r) x1 x2 x3 x4 I J
theorem p_X6_seek_13 {L : Nat} {xs : Nat → Int32} {d r : Nat} {Q : xO → Prop} {self : Int32 → Int32 → Int32 → Int32 → xI → xJ → Option (Int32 × xI × xJ)} (hself : ∀ (a1 : Int32) (a2 : Int32) (a3 : Int32) (a4 : Int32) (I : xI) (J : xJ) (o : Int32 × xI × xJ), self a1 a2 a3 a4 I J = some o → ∀ Q : xO → Prop, Q ((some (.int o.1)), 94, (o.2.1, o.2.2, xrf)) → Rn L xs (d + r + 4) 83 0 [some (.ref 32), some (.int a1), some (.int a2), some (.int a3), some (.int a4), none] [] 94 (I, J, xrf) Q) (x1 : Int32) (x2 : Int32) (x3 : Int32) (x4 : Int32) (x5 : Int32) (I : xI) (J : xJ) {t : Int32 × xI × xJ} (h : f_X6_seek_13 self x1 x2 x3 x4 x5 I J = some t) (hC : (c_X6_seek Q) t) : Rn L xs (d + r + 5) 83 81 [some (.ref 32), some (.int x1), some (.int x2), some (.int x3), some (.int x4), some (.int x5)] [] 94 (I, J, xrf) Q := by
  unfold f_X6_seek_13 at h
  cases h
  exact Rn.ret 2 (o := ((some (.int 0)), 94, (I, J, xrf))) (fun f => rfl) hC
theorem p_X6_seek_12 {L : Nat} {xs : Nat → Int32} {d r : Nat} {Q : xO → Prop} {self : Int32 → Int32 → Int32 → Int32 → xI → xJ → Option (Int32 × xI × xJ)} (hself : ∀ (a1 : Int32) (a2 : Int32) (a3 : Int32) (a4 : Int32) (I : xI) (J : xJ) (o : Int32 × xI × xJ), self a1 a2 a3 a4 I J = some o → ∀ Q : xO → Prop, Q ((some (.int o.1)), 94, (o.2.1, o.2.2, xrf)) → Rn L xs (d + r + 4) 83 0 [some (.ref 32), some (.int a1), some (.int a2), some (.int a3), some (.int a4), none] [] 94 (I, J, xrf) Q) (x1 : Int32) (x2 : Int32) (x3 : Int32) (x4 : Int32) (x5 : Int32) (I : xI) (J : xJ) {t : (Int32 × Int32 × Int32 × Int32 × Int32 × xI × xJ) ⊕ (Int32 × xI × xJ)} (h : f_X6_seek_12 self x1 x2 x3 x4 x5 I J = some t) (hC : (c_X6_seek_6 L xs d r Q) t) : Rn L xs (d + r + 5) 83 75 [some (.ref 32), some (.int x1), some (.int x2), some (.int x3), some (.int x4), some (.int x5)] [] 94 (I, J, xrf) Q := by
  unfold f_X6_seek_12 at h
  refine Rn.go 2 (j' := 83) (pc' := 25) (ls' := [some (.ref 32), some (.int x1), some (.int x2), some (.int x3), some (.int x4), some (.int ((x5 + 1)))]) (st' := []) (n' := 94) (M' := (I, J, xrf)) (fun f => rfl) ?_
  cases h; exact hC
theorem p_X6_seek_11 {L : Nat} {xs : Nat → Int32} {d r : Nat} {Q : xO → Prop} {self : Int32 → Int32 → Int32 → Int32 → xI → xJ → Option (Int32 × xI × xJ)} (hself : ∀ (a1 : Int32) (a2 : Int32) (a3 : Int32) (a4 : Int32) (I : xI) (J : xJ) (o : Int32 × xI × xJ), self a1 a2 a3 a4 I J = some o → ∀ Q : xO → Prop, Q ((some (.int o.1)), 94, (o.2.1, o.2.2, xrf)) → Rn L xs (d + r + 4) 83 0 [some (.ref 32), some (.int a1), some (.int a2), some (.int a3), some (.int a4), none] [] 94 (I, J, xrf) Q) (x1 : Int32) (x2 : Int32) (x3 : Int32) (x4 : Int32) (x5 : Int32) (I : xI) (J : xJ) {t : Int32 × xI × xJ} (h : f_X6_seek_11 self x1 x2 x3 x4 x5 I J = some t) (hC : (c_X6_seek Q) t) : Rn L xs (d + r + 5) 83 73 [some (.ref 32), some (.int x1), some (.int x2), some (.int x3), some (.int x4), some (.int x5)] [] 94 (I, J, xrf) Q := by
  unfold f_X6_seek_11 at h
  cases h
  exact Rn.ret 2 (o := ((some (.int 1)), 94, (I, J, xrf))) (fun f => rfl) hC
theorem p_X6_seek_10 {L : Nat} {xs : Nat → Int32} {d r : Nat} {Q : xO → Prop} {self : Int32 → Int32 → Int32 → Int32 → xI → xJ → Option (Int32 × xI × xJ)} (hself : ∀ (a1 : Int32) (a2 : Int32) (a3 : Int32) (a4 : Int32) (I : xI) (J : xJ) (o : Int32 × xI × xJ), self a1 a2 a3 a4 I J = some o → ∀ Q : xO → Prop, Q ((some (.int o.1)), 94, (o.2.1, o.2.2, xrf)) → Rn L xs (d + r + 4) 83 0 [some (.ref 32), some (.int a1), some (.int a2), some (.int a3), some (.int a4), none] [] 94 (I, J, xrf) Q) (x1 : Int32) (x2 : Int32) (x3 : Int32) (x4 : Int32) (x5 : Int32) (s0 : Int32) (I : xI) (J : xJ) {t : (Int32 × Int32 × Int32 × Int32 × Int32 × xI × xJ) ⊕ (Int32 × xI × xJ)} (h : f_X6_seek_10 self x1 x2 x3 x4 x5 s0 I J = some t) (hC : (c_X6_seek_6 L xs d r Q) t) : Rn L xs (d + r + 5) 83 70 [some (.ref 32), some (.int x1), some (.int x2), some (.int x3), some (.int x4), some (.int x5)] [.int s0] 94 (I, J, xrf) Q := by
  unfold f_X6_seek_10 at h
  refine Rn.fi 1 (c := s0 = 0) (p1 := 75) (l1 := [some (.ref 32), some (.int x1), some (.int x2), some (.int x3), some (.int x4), some (.int x5)]) (s1 := []) (n1 := 94) (M1 := (I, J, xrf)) (p2 := 73) (l2 := [some (.ref 32), some (.int x1), some (.int x2), some (.int x3), some (.int x4), some (.int x5)]) (s2 := []) (n2 := 94) (M2 := (I, J, xrf)) (fun f => rfl) (fun hc => ?_) (fun hc => ?_)
  · rw [if_pos hc] at h
    exact p_X6_seek_12 hself x1 x2 x3 x4 x5 I J h hC
  · rw [if_neg hc] at h
    obtain ⟨t0, h0, rfl⟩ := Option.map_eq_some_iff.mp h
    exact p_X6_seek_11 hself x1 x2 x3 x4 x5 I J h0 hC
theorem p_X6_seek_9 {L : Nat} {xs : Nat → Int32} {d r : Nat} {Q : xO → Prop} {self : Int32 → Int32 → Int32 → Int32 → xI → xJ → Option (Int32 × xI × xJ)} (hself : ∀ (a1 : Int32) (a2 : Int32) (a3 : Int32) (a4 : Int32) (I : xI) (J : xJ) (o : Int32 × xI × xJ), self a1 a2 a3 a4 I J = some o → ∀ Q : xO → Prop, Q ((some (.int o.1)), 94, (o.2.1, o.2.2, xrf)) → Rn L xs (d + r + 4) 83 0 [some (.ref 32), some (.int a1), some (.int a2), some (.int a3), some (.int a4), none] [] 94 (I, J, xrf) Q) (x1 : Int32) (x2 : Int32) (x3 : Int32) (x4 : Int32) (x5 : Int32) (s1 : Int32) (s2 : Int32) (s3 : Int32) (s4 : Int32) (s5 : Int32) (I : xI) (J : xJ) {t : (Int32 × Int32 × Int32 × Int32 × Int32 × xI × xJ) ⊕ (Int32 × xI × xJ)} (h : f_X6_seek_9 self x1 x2 x3 x4 x5 s1 s2 s3 s4 s5 I J = some t) (hC : (c_X6_seek_6 L xs d r Q) t) : Rn L xs (d + r + 5) 83 66 [some (.ref 32), some (.int x1), some (.int x2), some (.int x3), some (.int x4), some (.int x5)] [.int s5, .int s4, .int s3, .int s2, .int s1, .ref 32] 94 (I, J, xrf) Q := by
  unfold f_X6_seek_9 at h
  refine Rn.go 1 (j' := 83) (pc' := 67) (ls' := [some (.ref 32), some (.int x1), some (.int x2), some (.int x3), some (.int x4), some (.int x5)]) (st' := [.int ((s4 ||| s5)), .int s3, .int s2, .int s1, .ref 32]) (n' := 94) (M' := (I, J, xrf)) (fun f => rfl) ?_
  obtain ⟨o, ho, h⟩ := Option.bind_eq_some_iff.mp h
  refine Rn.call (d1 := d + r + 4) (j1 := 83) (ls1 := [some (.ref 32), some (.int s1), some (.int s2), some (.int s3), some (.int ((s4 ||| s5))), none]) (rest := []) (fun f => rfl) ?_
  refine hself s1 s2 s3 ((s4 ||| s5)) (I) (J) o ho _ ?_
  exact p_X6_seek_10 hself x1 x2 x3 x4 x5 o.1 o.2.1 o.2.2 h hC
theorem p_X6_seek_8 {L : Nat} {xs : Nat → Int32} {d r : Nat} {Q : xO → Prop} {self : Int32 → Int32 → Int32 → Int32 → xI → xJ → Option (Int32 × xI × xJ)} (hself : ∀ (a1 : Int32) (a2 : Int32) (a3 : Int32) (a4 : Int32) (I : xI) (J : xJ) (o : Int32 × xI × xJ), self a1 a2 a3 a4 I J = some o → ∀ Q : xO → Prop, Q ((some (.int o.1)), 94, (o.2.1, o.2.2, xrf)) → Rn L xs (d + r + 4) 83 0 [some (.ref 32), some (.int a1), some (.int a2), some (.int a3), some (.int a4), none] [] 94 (I, J, xrf) Q) (x1 : Int32) (x2 : Int32) (x3 : Int32) (x4 : Int32) (x5 : Int32) (s1 : Int32) (s2 : Int32) (s3 : Int32) (I : xI) (J : xJ) {t : (Int32 × Int32 × Int32 × Int32 × Int32 × xI × xJ) ⊕ (Int32 × xI × xJ)} (h : f_X6_seek_8 self x1 x2 x3 x4 x5 s1 s2 s3 I J = some t) (hC : (c_X6_seek_6 L xs d r Q) t) : Rn L xs (d + r + 5) 83 57 [some (.ref 32), some (.int x1), some (.int x2), some (.int x3), some (.int x4), some (.int x5)] [.int s3, .int s2, .int s1, .ref 32] 94 (I, J, xrf) Q := by
  unfold f_X6_seek_8 at h
  refine Rn.go 4 (j' := 83) (pc' := 63) (ls' := [some (.ref 32), some (.int x1), some (.int x2), some (.int x3), some (.int x4), some (.int x5)]) (st' := [.int x5, .int x3, .ref 32, .int x4, .int s3, .int s2, .int s1, .ref 32]) (n' := 94) (M' := (I, J, xrf)) (fun f => rfl) ?_
  obtain ⟨o, ho, h⟩ := Option.bind_eq_some_iff.mp h
  refine Rn.call (d1 := d + r + 4) (j1 := 87) (ls1 := [some (.ref 32), some (.int x3), some (.int x5), none, none, none]) (rest := [.int x4, .int s3, .int s2, .int s1, .ref 32]) (fun f => rfl) ?_
  refine p_X6_toldBy (d := d + r + 1) x3 x5 I J (t := o) ho ?_
  exact p_X6_seek_9 hself x1 x2 x3 x4 x5 s1 s2 s3 x4 o.1 o.2.1 o.2.2 h hC
theorem p_X6_seek_7 {L : Nat} {xs : Nat → Int32} {d r : Nat} {Q : xO → Prop} {self : Int32 → Int32 → Int32 → Int32 → xI → xJ → Option (Int32 × xI × xJ)} (hself : ∀ (a1 : Int32) (a2 : Int32) (a3 : Int32) (a4 : Int32) (I : xI) (J : xJ) (o : Int32 × xI × xJ), self a1 a2 a3 a4 I J = some o → ∀ Q : xO → Prop, Q ((some (.int o.1)), 94, (o.2.1, o.2.2, xrf)) → Rn L xs (d + r + 4) 83 0 [some (.ref 32), some (.int a1), some (.int a2), some (.int a3), some (.int a4), none] [] 94 (I, J, xrf) Q) (x1 : Int32) (x2 : Int32) (x3 : Int32) (x4 : Int32) (x5 : Int32) (I : xI) (J : xJ) {t : (Int32 × Int32 × Int32 × Int32 × Int32 × xI × xJ) ⊕ (Int32 × xI × xJ)} (h : f_X6_seek_7 self x1 x2 x3 x4 x5 I J = some t) (hC : (c_X6_seek_6 L xs d r Q) t) : Rn L xs (d + r + 5) 83 37 [some (.ref 32), some (.int x1), some (.int x2), some (.int x3), some (.int x4), some (.int x5)] [] 94 (I, J, xrf) Q := by
  unfold f_X6_seek_7 at h
  obtain ⟨hc, h⟩ := xif h
  refine Rn.ok 5 (c := x1 < 0 ∨ 6 ≤ x1.toNatClampNeg) (p1 := 45) (l1 := [some (.ref 32), some (.int x1), some (.int x2), some (.int x3), some (.int x4), some (.int x5)]) (s1 := []) (n1 := 94) (M1 := ((xup I 35 x1.toNatClampNeg x5), J, xrf)) (fun f => rfl) hc ?_
  refine Rn.go 8 (j' := 83) (pc' := 54) (ls' := [some (.ref 32), some (.int x1), some (.int x2), some (.int x3), some (.int x4), some (.int x5)]) (st' := [.int x5, .int x3, .ref 32, .int x2, .int ((x1 + 1)), .ref 32]) (n' := 94) (M' := ((xup I 35 x1.toNatClampNeg x5), J, xrf)) (fun f => rfl) ?_
  obtain ⟨o, ho, h⟩ := Option.bind_eq_some_iff.mp h
  refine Rn.call (d1 := d + r + 4) (j1 := 86) (ls1 := [some (.ref 32), some (.int x3), some (.int x5), none, none, none]) (rest := [.int x2, .int ((x1 + 1)), .ref 32]) (fun f => rfl) ?_
  refine p_X6_standBehind (d := d + r + 2) x3 x5 ((xup I 35 x1.toNatClampNeg x5)) J (t := o) ho ?_
  exact p_X6_seek_8 hself x1 x2 x3 x4 x5 ((x1 + 1)) x2 o.1 o.2.1 o.2.2 h hC
theorem q_X6_seek_6 {L : Nat} {xs : Nat → Int32} {d r : Nat} {Q : xO → Prop} {self : Int32 → Int32 → Int32 → Int32 → xI → xJ → Option (Int32 × xI × xJ)} (hself : ∀ (a1 : Int32) (a2 : Int32) (a3 : Int32) (a4 : Int32) (I : xI) (J : xJ) (o : Int32 × xI × xJ), self a1 a2 a3 a4 I J = some o → ∀ Q : xO → Prop, Q ((some (.int o.1)), 94, (o.2.1, o.2.2, xrf)) → Rn L xs (d + r + 4) 83 0 [some (.ref 32), some (.int a1), some (.int a2), some (.int a3), some (.int a4), none] [] 94 (I, J, xrf) Q) (x1 : Int32) (x2 : Int32) (x3 : Int32) (x4 : Int32) (x5 : Int32) (I : xI) (J : xJ) {t : (Int32 × Int32 × Int32 × Int32 × Int32 × xI × xJ) ⊕ (Int32 × xI × xJ)} (h : b_X6_seek_6 self x1 x2 x3 x4 x5 I J = some t) (hC : (c_X6_seek_6 L xs d r Q) t) : Rn L xs (d + r + 5) 83 25 [some (.ref 32), some (.int x1), some (.int x2), some (.int x3), some (.int x4), some (.int x5)] [] 94 (I, J, xrf) Q := by
  unfold b_X6_seek_6 at h
  refine Rn.fi 5 (c := (I 1 1) ≤ x5) (p1 := 81) (l1 := [some (.ref 32), some (.int x1), some (.int x2), some (.int x3), some (.int x4), some (.int x5)]) (s1 := []) (n1 := 94) (M1 := (I, J, xrf)) (p2 := 37) (l2 := [some (.ref 32), some (.int x1), some (.int x2), some (.int x3), some (.int x4), some (.int x5)]) (s2 := []) (n2 := 94) (M2 := (I, J, xrf)) (fun f => rfl) (fun hc => ?_) (fun hc => ?_)
  · rw [if_pos hc] at h
    obtain ⟨t0, h0, rfl⟩ := Option.map_eq_some_iff.mp h
    exact p_X6_seek_13 hself x1 x2 x3 x4 x5 I J h0 hC
  · rw [if_neg hc] at h
    exact p_X6_seek_7 hself x1 x2 x3 x4 x5 I J h hC
theorem p_X6_seek_6 {L : Nat} {xs : Nat → Int32} {d r : Nat} {Q : xO → Prop} {self : Int32 → Int32 → Int32 → Int32 → xI → xJ → Option (Int32 × xI × xJ)} (hself : ∀ (a1 : Int32) (a2 : Int32) (a3 : Int32) (a4 : Int32) (I : xI) (J : xJ) (o : Int32 × xI × xJ), self a1 a2 a3 a4 I J = some o → ∀ Q : xO → Prop, Q ((some (.int o.1)), 94, (o.2.1, o.2.2, xrf)) → Rn L xs (d + r + 4) 83 0 [some (.ref 32), some (.int a1), some (.int a2), some (.int a3), some (.int a4), none] [] 94 (I, J, xrf) Q) (x1 : Int32) (x2 : Int32) (x3 : Int32) (x4 : Int32) (x5 : Int32) (I : xI) (J : xJ) {t : Int32 × xI × xJ} (h : f_X6_seek_6 self x1 x2 x3 x4 x5 I J = some t) (hC : (c_X6_seek Q) t) : Rn L xs (d + r + 5) 83 25 [some (.ref 32), some (.int x1), some (.int x2), some (.int x3), some (.int x4), some (.int x5)] [] 94 (I, J, xrf) Q := by
  unfold f_X6_seek_6 at h
  exact xloop_some (P := fun s : Int32 × Int32 × Int32 × Int32 × Int32 × xI × xJ => Rn L xs (d + r + 5) 83 25 [some (.ref 32), some (.int s.1), some (.int s.2.1), some (.int s.2.2.1), some (.int s.2.2.2.1), some (.int s.2.2.2.2.1)] [] 94 (s.2.2.2.2.2.1, s.2.2.2.2.2.2, xrf) Q) t (fun s ⟨s', hb, hp⟩ => q_X6_seek_6 hself s.1 s.2.1 s.2.2.1 s.2.2.2.1 s.2.2.2.2.1 s.2.2.2.2.2.1 s.2.2.2.2.2.2 hb hp) (fun s hb => q_X6_seek_6 hself s.1 s.2.1 s.2.2.1 s.2.2.2.1 s.2.2.2.2.1 s.2.2.2.2.2.1 s.2.2.2.2.2.2 hb hC) _ _ h
theorem p_X6_seek_5 {L : Nat} {xs : Nat → Int32} {d r : Nat} {Q : xO → Prop} {self : Int32 → Int32 → Int32 → Int32 → xI → xJ → Option (Int32 × xI × xJ)} (hself : ∀ (a1 : Int32) (a2 : Int32) (a3 : Int32) (a4 : Int32) (I : xI) (J : xJ) (o : Int32 × xI × xJ), self a1 a2 a3 a4 I J = some o → ∀ Q : xO → Prop, Q ((some (.int o.1)), 94, (o.2.1, o.2.2, xrf)) → Rn L xs (d + r + 4) 83 0 [some (.ref 32), some (.int a1), some (.int a2), some (.int a3), some (.int a4), none] [] 94 (I, J, xrf) Q) (x1 : Int32) (x2 : Int32) (x3 : Int32) (x4 : Int32) (I : xI) (J : xJ) {t : Int32 × xI × xJ} (h : f_X6_seek_5 self x1 x2 x3 x4 I J = some t) (hC : (c_X6_seek Q) t) : Rn L xs (d + r + 5) 83 22 [some (.ref 32), some (.int x1), some (.int x2), some (.int x3), some (.int x4), none] [] 94 (I, J, xrf) Q := by
  unfold f_X6_seek_5 at h
  refine Rn.go 2 (j' := 83) (pc' := 25) (ls' := [some (.ref 32), some (.int x1), some (.int x2), some (.int x3), some (.int x4), some (.int 0)]) (st' := []) (n' := 94) (M' := (I, J, xrf)) (fun f => rfl) ?_
  exact p_X6_seek_6 hself x1 x2 x3 x4 0 I J h hC
theorem p_X6_seek_4 {L : Nat} {xs : Nat → Int32} {d r : Nat} {Q : xO → Prop} {self : Int32 → Int32 → Int32 → Int32 → xI → xJ → Option (Int32 × xI × xJ)} (hself : ∀ (a1 : Int32) (a2 : Int32) (a3 : Int32) (a4 : Int32) (I : xI) (J : xJ) (o : Int32 × xI × xJ), self a1 a2 a3 a4 I J = some o → ∀ Q : xO → Prop, Q ((some (.int o.1)), 94, (o.2.1, o.2.2, xrf)) → Rn L xs (d + r + 4) 83 0 [some (.ref 32), some (.int a1), some (.int a2), some (.int a3), some (.int a4), none] [] 94 (I, J, xrf) Q) (x1 : Int32) (x2 : Int32) (x3 : Int32) (x4 : Int32) (I : xI) (J : xJ) {t : Int32 × xI × xJ} (h : f_X6_seek_4 self x1 x2 x3 x4 I J = some t) (hC : (c_X6_seek Q) t) : Rn L xs (d + r + 5) 83 20 [some (.ref 32), some (.int x1), some (.int x2), some (.int x3), some (.int x4), none] [] 94 (I, J, xrf) Q := by
  unfold f_X6_seek_4 at h
  cases h
  exact Rn.ret 2 (o := ((some (.int 1)), 94, (I, J, xrf))) (fun f => rfl) hC
theorem p_X6_seek_3 {L : Nat} {xs : Nat → Int32} {d r : Nat} {Q : xO → Prop} {self : Int32 → Int32 → Int32 → Int32 → xI → xJ → Option (Int32 × xI × xJ)} (hself : ∀ (a1 : Int32) (a2 : Int32) (a3 : Int32) (a4 : Int32) (I : xI) (J : xJ) (o : Int32 × xI × xJ), self a1 a2 a3 a4 I J = some o → ∀ Q : xO → Prop, Q ((some (.int o.1)), 94, (o.2.1, o.2.2, xrf)) → Rn L xs (d + r + 4) 83 0 [some (.ref 32), some (.int a1), some (.int a2), some (.int a3), some (.int a4), none] [] 94 (I, J, xrf) Q) (x1 : Int32) (x2 : Int32) (x3 : Int32) (x4 : Int32) (I : xI) (J : xJ) {t : Int32 × xI × xJ} (h : f_X6_seek_3 self x1 x2 x3 x4 I J = some t) (hC : (c_X6_seek Q) t) : Rn L xs (d + r + 5) 83 15 [some (.ref 32), some (.int x1), some (.int x2), some (.int x3), some (.int x4), none] [] 94 (I, J, xrf) Q := by
  unfold f_X6_seek_3 at h
  refine Rn.fi 3 (c := x1 < x2) (p1 := 22) (l1 := [some (.ref 32), some (.int x1), some (.int x2), some (.int x3), some (.int x4), none]) (s1 := []) (n1 := 94) (M1 := (I, J, xrf)) (p2 := 20) (l2 := [some (.ref 32), some (.int x1), some (.int x2), some (.int x3), some (.int x4), none]) (s2 := []) (n2 := 94) (M2 := (I, J, xrf)) (fun f => rfl) (fun hc => ?_) (fun hc => ?_)
  · rw [if_pos hc] at h
    exact p_X6_seek_5 hself x1 x2 x3 x4 I J h hC
  · rw [if_neg hc] at h
    exact p_X6_seek_4 hself x1 x2 x3 x4 I J h hC
theorem p_X6_seek_2 {L : Nat} {xs : Nat → Int32} {d r : Nat} {Q : xO → Prop} {self : Int32 → Int32 → Int32 → Int32 → xI → xJ → Option (Int32 × xI × xJ)} (hself : ∀ (a1 : Int32) (a2 : Int32) (a3 : Int32) (a4 : Int32) (I : xI) (J : xJ) (o : Int32 × xI × xJ), self a1 a2 a3 a4 I J = some o → ∀ Q : xO → Prop, Q ((some (.int o.1)), 94, (o.2.1, o.2.2, xrf)) → Rn L xs (d + r + 4) 83 0 [some (.ref 32), some (.int a1), some (.int a2), some (.int a3), some (.int a4), none] [] 94 (I, J, xrf) Q) (x1 : Int32) (x2 : Int32) (x3 : Int32) (x4 : Int32) (I : xI) (J : xJ) {t : Int32 × xI × xJ} (h : f_X6_seek_2 self x1 x2 x3 x4 I J = some t) (hC : (c_X6_seek Q) t) : Rn L xs (d + r + 5) 83 13 [some (.ref 32), some (.int x1), some (.int x2), some (.int x3), some (.int x4), none] [] 94 (I, J, xrf) Q := by
  unfold f_X6_seek_2 at h
  cases h
  exact Rn.ret 2 (o := ((some (.int 0)), 94, (I, J, xrf))) (fun f => rfl) hC
theorem p_X6_seek_1 {L : Nat} {xs : Nat → Int32} {d r : Nat} {Q : xO → Prop} {self : Int32 → Int32 → Int32 → Int32 → xI → xJ → Option (Int32 × xI × xJ)} (hself : ∀ (a1 : Int32) (a2 : Int32) (a3 : Int32) (a4 : Int32) (I : xI) (J : xJ) (o : Int32 × xI × xJ), self a1 a2 a3 a4 I J = some o → ∀ Q : xO → Prop, Q ((some (.int o.1)), 94, (o.2.1, o.2.2, xrf)) → Rn L xs (d + r + 4) 83 0 [some (.ref 32), some (.int a1), some (.int a2), some (.int a3), some (.int a4), none] [] 94 (I, J, xrf) Q) (x1 : Int32) (x2 : Int32) (x3 : Int32) (x4 : Int32) (s0 : Int32) (I : xI) (J : xJ) {t : Int32 × xI × xJ} (h : f_X6_seek_1 self x1 x2 x3 x4 s0 I J = some t) (hC : (c_X6_seek Q) t) : Rn L xs (d + r + 5) 83 10 [some (.ref 32), some (.int x1), some (.int x2), some (.int x3), some (.int x4), none] [.int s0] 94 (I, J, xrf) Q := by
  unfold f_X6_seek_1 at h
  refine Rn.fi 1 (c := s0 = 0) (p1 := 13) (l1 := [some (.ref 32), some (.int x1), some (.int x2), some (.int x3), some (.int x4), none]) (s1 := []) (n1 := 94) (M1 := (I, J, xrf)) (p2 := 15) (l2 := [some (.ref 32), some (.int x1), some (.int x2), some (.int x3), some (.int x4), none]) (s2 := []) (n2 := 94) (M2 := (I, J, xrf)) (fun f => rfl) (fun hc => ?_) (fun hc => ?_)
  · rw [if_pos hc] at h
    exact p_X6_seek_2 hself x1 x2 x3 x4 I J h hC
  · rw [if_neg hc] at h
    exact p_X6_seek_3 hself x1 x2 x3 x4 I J h hC
theorem p_X6_seek_0 {L : Nat} {xs : Nat → Int32} {d r : Nat} {Q : xO → Prop} {self : Int32 → Int32 → Int32 → Int32 → xI → xJ → Option (Int32 × xI × xJ)} (hself : ∀ (a1 : Int32) (a2 : Int32) (a3 : Int32) (a4 : Int32) (I : xI) (J : xJ) (o : Int32 × xI × xJ), self a1 a2 a3 a4 I J = some o → ∀ Q : xO → Prop, Q ((some (.int o.1)), 94, (o.2.1, o.2.2, xrf)) → Rn L xs (d + r + 4) 83 0 [some (.ref 32), some (.int a1), some (.int a2), some (.int a3), some (.int a4), none] [] 94 (I, J, xrf) Q) (x1 : Int32) (x2 : Int32) (x3 : Int32) (x4 : Int32) (I : xI) (J : xJ) {t : Int32 × xI × xJ} (h : f_X6_seek_0 self x1 x2 x3 x4 I J = some t) (hC : (c_X6_seek Q) t) : Rn L xs (d + r + 5) 83 0 [some (.ref 32), some (.int x1), some (.int x2), some (.int x3), some (.int x4), none] [] 94 (I, J, xrf) Q := by
  unfold f_X6_seek_0 at h
  refine Rn.go 6 (j' := 83) (pc' := 7) (ls' := [some (.ref 32), some (.int x1), some (.int x2), some (.int x3), some (.int x4), none]) (st' := [.int ((x2 - x1)), .int x4, .int x3, .ref 32]) (n' := 94) (M' := (I, J, xrf)) (fun f => rfl) ?_
  obtain ⟨o, ho, h⟩ := Option.bind_eq_some_iff.mp h
  refine Rn.call (d1 := d + r + 4) (j1 := 84) (ls1 := [some (.ref 32), some (.int x3), some (.int x4), some (.int ((x2 - x1))), none, none, none]) (rest := []) (fun f => rfl) ?_
  refine p_X6_canTell (d := d + r + 0) x3 x4 ((x2 - x1)) I J (t := o) ho ?_
  exact p_X6_seek_1 hself x1 x2 x3 x4 o.1 o.2.1 o.2.2 h hC
theorem p_X6_seek {L : Nat} {xs : Nat → Int32} {d : Nat} {Q : xO → Prop} (r : Nat) (x1 : Int32) (x2 : Int32) (x3 : Int32) (x4 : Int32) (I : xI) (J : xJ) {t : Int32 × xI × xJ} (h : f_X6_seek r x1 x2 x3 x4 I J = some t) (hC : Q ((some (.int t.1)), 94, (t.2.1, t.2.2, xrf))) : Rn L xs (d + r + 5) 83 0 [some (.ref 32), some (.int x1), some (.int x2), some (.int x3), some (.int x4), none] [] 94 (I, J, xrf) Q := by
  induction r generalizing Q t x1 x2 x3 x4 I J with
  | zero => exact absurd h (by simp [f_X6_seek])
  | succ r ih =>
    have q := p_X6_seek_0 (L := L) (xs := xs) (Q := Q) (d := d + 1) (r := r) (self := f_X6_seek r) (fun a1 a2 a3 a4 I J o ho Q hQ => by have := ih a1 a2 a3 a4 I J ho hQ; rw [show d + 1 + r + 4 = d + r + 5 by omega]; exact this) x1 x2 x3 x4 I J h hC
    rw [show d + 1 + r + 5 = d + (r + 1) + 5 by omega] at q
    exact q
/-! X6_lengthShown -/
def c_X6_lengthShown (Q : xO → Prop) (t : Int32 × xI × xJ) : Prop := Q ((some (.int t.1)), 94, (t.2.1, t.2.2, xrf))
def c_X6_lengthShown_2 (L : Nat) (xs : Nat → Int32) (d : Nat) (Q : xO → Prop) (t : (Int32 × xI × xJ) ⊕ (Int32 × xI × xJ)) : Prop := match t with
  | .inl s => Rn L xs (d + 18) 81 33 [some (.ref 32), some (.int s.1)] [] 94 (s.2.1, s.2.2, xrf) Q
  | .inr t => (c_X6_lengthShown Q) t
def f_X6_lengthShown_9 (z1 : Option Value) (I : xI) (J : xJ) : Option (Int32 × xI × xJ) := some ((I 32 6), I, J)
def f_X6_lengthShown_8 (x1 : Int32) (I : xI) (J : xJ) : Option ((Int32 × xI × xJ) ⊕ (Int32 × xI × xJ)) := some (.inl (((x1 + 1)), I, J))
def f_X6_lengthShown_7 (x1 : Int32) (I : xI) (J : xJ) : Option ((Int32 × xI × xJ) ⊕ (Int32 × xI × xJ)) := f_X6_lengthShown_8 x1 ((xup I 32 6 x1)) J
def f_X6_lengthShown_6 (x1 : Int32) (s0 : Int32) (I : xI) (J : xJ) : Option ((Int32 × xI × xJ) ⊕ (Int32 × xI × xJ)) := if s0 = 0 then f_X6_lengthShown_8 x1 I J else f_X6_lengthShown_7 x1 I J
def f_X6_lengthShown_5 (x1 : Int32) (s1 : Int32) (s2 : Int32) (s3 : Int32) (I : xI) (J : xJ) : Option ((Int32 × xI × xJ) ⊕ (Int32 × xI × xJ)) := (f_X6_seek 12 s1 s2 s3 0 I J).bind fun o => f_X6_lengthShown_6 x1 o.1 o.2.1 o.2.2
def f_X6_lengthShown_4 (x1 : Int32) (I : xI) (J : xJ) : Option ((Int32 × xI × xJ) ⊕ (Int32 × xI × xJ)) := (f_X6_startStand I J).bind fun o => f_X6_lengthShown_5 x1 0 x1 o.1 o.2.1 o.2.2
def f_X6_lengthShown_3 (x1 : Int32) (I : xI) (J : xJ) : Option ((Int32 × xI × xJ) ⊕ (Int32 × xI × xJ)) := if (I 32 6) = (-2) then f_X6_lengthShown_4 x1 I J else ((f_X6_lengthShown_9 (some (.int x1)) I J)).map .inr
def b_X6_lengthShown_2 (x1 : Int32) (I : xI) (J : xJ) : Option ((Int32 × xI × xJ) ⊕ (Int32 × xI × xJ)) := if 6 < x1 then ((f_X6_lengthShown_9 (some (.int x1)) I J)).map .inr else f_X6_lengthShown_3 x1 I J
def f_X6_lengthShown_2 (x1 : Int32) (I : xI) (J : xJ) : Option (Int32 × xI × xJ) := xloop (fun s : Int32 × xI × xJ => b_X6_lengthShown_2 s.1 s.2.1 s.2.2) 5000 (x1, I, J)
def f_X6_lengthShown_1 (I : xI) (J : xJ) : Option (Int32 × xI × xJ) := f_X6_lengthShown_2 0 ((xup ((xup I 32 7 ((I 1 2)))) 32 6 ((-2)))) J
def f_X6_lengthShown_0 (I : xI) (J : xJ) : Option (Int32 × xI × xJ) := if (I 32 7) = (I 1 2) then f_X6_lengthShown_9 none I J else f_X6_lengthShown_1 I J
def f_X6_lengthShown (I : xI) (J : xJ) : Option (Int32 × xI × xJ) := f_X6_lengthShown_0 I J
theorem p_X6_lengthShown_9 {L : Nat} {xs : Nat → Int32} {d : Nat} {Q : xO → Prop} (z1 : Option Value) (I : xI) (J : xJ) {t : Int32 × xI × xJ} (h : f_X6_lengthShown_9 z1 I J = some t) (hC : (c_X6_lengthShown Q) t) : Rn L xs (d + 18) 81 72 [some (.ref 32), z1] [] 94 (I, J, xrf) Q := by
  unfold f_X6_lengthShown_9 at h
  cases h
  exact Rn.ret 3 (o := ((some (.int ((I 32 6)))), 94, (I, J, xrf))) (fun f => rfl) hC
theorem p_X6_lengthShown_8 {L : Nat} {xs : Nat → Int32} {d : Nat} {Q : xO → Prop} (x1 : Int32) (I : xI) (J : xJ) {t : (Int32 × xI × xJ) ⊕ (Int32 × xI × xJ)} (h : f_X6_lengthShown_8 x1 I J = some t) (hC : (c_X6_lengthShown_2 L xs d Q) t) : Rn L xs (d + 18) 81 66 [some (.ref 32), some (.int x1)] [] 94 (I, J, xrf) Q := by
  unfold f_X6_lengthShown_8 at h
  refine Rn.go 2 (j' := 81) (pc' := 33) (ls' := [some (.ref 32), some (.int ((x1 + 1)))]) (st' := []) (n' := 94) (M' := (I, J, xrf)) (fun f => rfl) ?_
  cases h; exact hC
theorem p_X6_lengthShown_7 {L : Nat} {xs : Nat → Int32} {d : Nat} {Q : xO → Prop} (x1 : Int32) (I : xI) (J : xJ) {t : (Int32 × xI × xJ) ⊕ (Int32 × xI × xJ)} (h : f_X6_lengthShown_7 x1 I J = some t) (hC : (c_X6_lengthShown_2 L xs d Q) t) : Rn L xs (d + 18) 81 61 [some (.ref 32), some (.int x1)] [] 94 (I, J, xrf) Q := by
  unfold f_X6_lengthShown_7 at h
  refine Rn.go 3 (j' := 81) (pc' := 66) (ls' := [some (.ref 32), some (.int x1)]) (st' := []) (n' := 94) (M' := ((xup I 32 6 x1), J, xrf)) (fun f => rfl) ?_
  exact p_X6_lengthShown_8 x1 ((xup I 32 6 x1)) J h hC
theorem p_X6_lengthShown_6 {L : Nat} {xs : Nat → Int32} {d : Nat} {Q : xO → Prop} (x1 : Int32) (s0 : Int32) (I : xI) (J : xJ) {t : (Int32 × xI × xJ) ⊕ (Int32 × xI × xJ)} (h : f_X6_lengthShown_6 x1 s0 I J = some t) (hC : (c_X6_lengthShown_2 L xs d Q) t) : Rn L xs (d + 18) 81 58 [some (.ref 32), some (.int x1)] [.int s0] 94 (I, J, xrf) Q := by
  unfold f_X6_lengthShown_6 at h
  refine Rn.fi 1 (c := s0 = 0) (p1 := 66) (l1 := [some (.ref 32), some (.int x1)]) (s1 := []) (n1 := 94) (M1 := (I, J, xrf)) (p2 := 61) (l2 := [some (.ref 32), some (.int x1)]) (s2 := []) (n2 := 94) (M2 := (I, J, xrf)) (fun f => rfl) (fun hc => ?_) (fun hc => ?_)
  · rw [if_pos hc] at h
    exact p_X6_lengthShown_8 x1 I J h hC
  · rw [if_neg hc] at h
    exact p_X6_lengthShown_7 x1 I J h hC
theorem p_X6_lengthShown_5 {L : Nat} {xs : Nat → Int32} {d : Nat} {Q : xO → Prop} (x1 : Int32) (s1 : Int32) (s2 : Int32) (s3 : Int32) (I : xI) (J : xJ) {t : (Int32 × xI × xJ) ⊕ (Int32 × xI × xJ)} (h : f_X6_lengthShown_5 x1 s1 s2 s3 I J = some t) (hC : (c_X6_lengthShown_2 L xs d Q) t) : Rn L xs (d + 18) 81 54 [some (.ref 32), some (.int x1)] [.int s3, .int s2, .int s1, .ref 32] 94 (I, J, xrf) Q := by
  unfold f_X6_lengthShown_5 at h
  refine Rn.go 1 (j' := 81) (pc' := 55) (ls' := [some (.ref 32), some (.int x1)]) (st' := [.int 0, .int s3, .int s2, .int s1, .ref 32]) (n' := 94) (M' := (I, J, xrf)) (fun f => rfl) ?_
  obtain ⟨o, ho, h⟩ := Option.bind_eq_some_iff.mp h
  refine Rn.call (d1 := d + 17) (j1 := 83) (ls1 := [some (.ref 32), some (.int s1), some (.int s2), some (.int s3), some (.int 0), none]) (rest := []) (fun f => rfl) ?_
  refine p_X6_seek (d := d + 0) 12 s1 s2 s3 0 I J (t := o) ho ?_
  exact p_X6_lengthShown_6 x1 o.1 o.2.1 o.2.2 h hC
theorem p_X6_lengthShown_4 {L : Nat} {xs : Nat → Int32} {d : Nat} {Q : xO → Prop} (x1 : Int32) (I : xI) (J : xJ) {t : (Int32 × xI × xJ) ⊕ (Int32 × xI × xJ)} (h : f_X6_lengthShown_4 x1 I J = some t) (hC : (c_X6_lengthShown_2 L xs d Q) t) : Rn L xs (d + 18) 81 48 [some (.ref 32), some (.int x1)] [] 94 (I, J, xrf) Q := by
  unfold f_X6_lengthShown_4 at h
  refine Rn.go 3 (j' := 81) (pc' := 51) (ls' := [some (.ref 32), some (.int x1)]) (st' := [.int x1, .int 0, .ref 32]) (n' := 94) (M' := (I, J, xrf)) (fun f => rfl) ?_
  obtain ⟨o, ho, h⟩ := Option.bind_eq_some_iff.mp h
  refine Rn.call (d1 := d + 17) (j1 := 82) (ls1 := [none, none]) (rest := [.int x1, .int 0, .ref 32]) (fun f => rfl) ?_
  refine p_X6_startStand (d := d + 16) I J (t := o) ho ?_
  exact p_X6_lengthShown_5 x1 0 x1 o.1 o.2.1 o.2.2 h hC
theorem p_X6_lengthShown_3 {L : Nat} {xs : Nat → Int32} {d : Nat} {Q : xO → Prop} (x1 : Int32) (I : xI) (J : xJ) {t : (Int32 × xI × xJ) ⊕ (Int32 × xI × xJ)} (h : f_X6_lengthShown_3 x1 I J = some t) (hC : (c_X6_lengthShown_2 L xs d Q) t) : Rn L xs (d + 18) 81 39 [some (.ref 32), some (.int x1)] [] 94 (I, J, xrf) Q := by
  unfold f_X6_lengthShown_3 at h
  refine Rn.fi 4 (c := (I 32 6) = (-2)) (p1 := 48) (l1 := [some (.ref 32), some (.int x1)]) (s1 := []) (n1 := 94) (M1 := (I, J, xrf)) (p2 := 72) (l2 := [some (.ref 32), some (.int x1)]) (s2 := []) (n2 := 94) (M2 := (I, J, xrf)) (fun f => rfl) (fun hc => ?_) (fun hc => ?_)
  · rw [if_pos hc] at h
    exact p_X6_lengthShown_4 x1 I J h hC
  · rw [if_neg hc] at h
    obtain ⟨t0, h0, rfl⟩ := Option.map_eq_some_iff.mp h
    exact p_X6_lengthShown_9 (some (.int x1)) I J h0 hC
theorem q_X6_lengthShown_2 {L : Nat} {xs : Nat → Int32} {d : Nat} {Q : xO → Prop} (x1 : Int32) (I : xI) (J : xJ) {t : (Int32 × xI × xJ) ⊕ (Int32 × xI × xJ)} (h : b_X6_lengthShown_2 x1 I J = some t) (hC : (c_X6_lengthShown_2 L xs d Q) t) : Rn L xs (d + 18) 81 33 [some (.ref 32), some (.int x1)] [] 94 (I, J, xrf) Q := by
  unfold b_X6_lengthShown_2 at h
  refine Rn.fi 3 (c := 6 < x1) (p1 := 72) (l1 := [some (.ref 32), some (.int x1)]) (s1 := []) (n1 := 94) (M1 := (I, J, xrf)) (p2 := 39) (l2 := [some (.ref 32), some (.int x1)]) (s2 := []) (n2 := 94) (M2 := (I, J, xrf)) (fun f => rfl) (fun hc => ?_) (fun hc => ?_)
  · rw [if_pos hc] at h
    obtain ⟨t0, h0, rfl⟩ := Option.map_eq_some_iff.mp h
    exact p_X6_lengthShown_9 (some (.int x1)) I J h0 hC
  · rw [if_neg hc] at h
    exact p_X6_lengthShown_3 x1 I J h hC
theorem p_X6_lengthShown_2 {L : Nat} {xs : Nat → Int32} {d : Nat} {Q : xO → Prop} (x1 : Int32) (I : xI) (J : xJ) {t : Int32 × xI × xJ} (h : f_X6_lengthShown_2 x1 I J = some t) (hC : (c_X6_lengthShown Q) t) : Rn L xs (d + 18) 81 33 [some (.ref 32), some (.int x1)] [] 94 (I, J, xrf) Q := by
  unfold f_X6_lengthShown_2 at h
  exact xloop_some (P := fun s : Int32 × xI × xJ => Rn L xs (d + 18) 81 33 [some (.ref 32), some (.int s.1)] [] 94 (s.2.1, s.2.2, xrf) Q) t (fun s ⟨s', hb, hp⟩ => q_X6_lengthShown_2 s.1 s.2.1 s.2.2 hb hp) (fun s hb => q_X6_lengthShown_2 s.1 s.2.1 s.2.2 hb hC) _ _ h
theorem p_X6_lengthShown_1 {L : Nat} {xs : Nat → Int32} {d : Nat} {Q : xO → Prop} (I : xI) (J : xJ) {t : Int32 × xI × xJ} (h : f_X6_lengthShown_1 I J = some t) (hC : (c_X6_lengthShown Q) t) : Rn L xs (d + 18) 81 14 [some (.ref 32), none] [] 94 (I, J, xrf) Q := by
  unfold f_X6_lengthShown_1 at h
  refine Rn.go 10 (j' := 81) (pc' := 33) (ls' := [some (.ref 32), some (.int 0)]) (st' := []) (n' := 94) (M' := ((xup ((xup I 32 7 ((I 1 2)))) 32 6 ((-2))), J, xrf)) (fun f => rfl) ?_
  exact p_X6_lengthShown_2 0 ((xup ((xup I 32 7 ((I 1 2)))) 32 6 ((-2)))) J h hC
theorem p_X6_lengthShown_0 {L : Nat} {xs : Nat → Int32} {d : Nat} {Q : xO → Prop} (I : xI) (J : xJ) {t : Int32 × xI × xJ} (h : f_X6_lengthShown_0 I J = some t) (hC : (c_X6_lengthShown Q) t) : Rn L xs (d + 18) 81 0 [some (.ref 32), none] [] 94 (I, J, xrf) Q := by
  unfold f_X6_lengthShown_0 at h
  refine Rn.fi 6 (c := (I 32 7) = (I 1 2)) (p1 := 72) (l1 := [some (.ref 32), none]) (s1 := []) (n1 := 94) (M1 := (I, J, xrf)) (p2 := 14) (l2 := [some (.ref 32), none]) (s2 := []) (n2 := 94) (M2 := (I, J, xrf)) (fun f => rfl) (fun hc => ?_) (fun hc => ?_)
  · rw [if_pos hc] at h
    exact p_X6_lengthShown_9 none I J h hC
  · rw [if_neg hc] at h
    exact p_X6_lengthShown_1 I J h hC
theorem p_X6_lengthShown {L : Nat} {xs : Nat → Int32} {d : Nat} {Q : xO → Prop} (I : xI) (J : xJ) {t : Int32 × xI × xJ} (h : f_X6_lengthShown I J = some t) (hC : Q ((some (.int t.1)), 94, (t.2.1, t.2.2, xrf))) : Rn L xs (d + 18) 81 0 [some (.ref 32), none] [] 94 (I, J, xrf) Q := p_X6_lengthShown_0 I J h hC
