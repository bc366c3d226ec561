/-! X7_tailOf -/
def c_X7_tailOf (Q : xO → Prop) (t : Int32 × xI × xJ) : Prop := Q ((some (.int t.1)), 94, (t.2.1, t.2.2, xrf))
def c_X7_tailOf_1 (L : Nat) (xs : Nat → Int32) (d : Nat) (Q : xO → Prop) (t : (Int32 × Int32 × Int32 × Int32 × xI × xJ) ⊕ (Int32 × xI × xJ)) : Prop := match t with
  | .inl s => Rn L xs (d + 1) 101 8 [some (.ref 43), some (.int s.1), some (.int s.2.1), some (.int s.2.2.1), some (.int s.2.2.2.1)] [] 94 (s.2.2.2.2.1, s.2.2.2.2.2, xrf) Q
  | .inr t => (c_X7_tailOf Q) t
def f_X7_tailOf_6 (x1 : Int32) (x2 : Int32) (x3 : Int32) (x4 : Int32) (I : xI) (J : xJ) : Option (Int32 × xI × xJ) := some (x2, I, J)
def f_X7_tailOf_5 (x1 : Int32) (x2 : Int32) (x3 : Int32) (x4 : Int32) (I : xI) (J : xJ) : Option ((Int32 × Int32 × Int32 × Int32 × xI × xJ) ⊕ (Int32 × xI × xJ)) := some (.inl (x1, x2, x3, ((x4 + 1)), I, J))
def f_X7_tailOf_4 (x1 : Int32) (x2 : Int32) (x3 : Int32) (x4 : Int32) (I : xI) (J : xJ) : Option ((Int32 × Int32 × Int32 × Int32 × xI × xJ) ⊕ (Int32 × xI × xJ)) := if x4 < 0 ∨ 203 ≤ x4.toNatClampNeg then none else f_X7_tailOf_5 x1 x4 ((I 46 x4.toNatClampNeg)) x4 I J
def f_X7_tailOf_3 (x1 : Int32) (x2 : Int32) (x3 : Int32) (x4 : Int32) (I : xI) (J : xJ) : Option ((Int32 × Int32 × Int32 × Int32 × xI × xJ) ⊕ (Int32 × xI × xJ)) := if x4 < 0 ∨ 203 ≤ x4.toNatClampNeg then none else if x3 ≤ (I 46 x4.toNatClampNeg) then f_X7_tailOf_5 x1 x2 x3 x4 I J else f_X7_tailOf_4 x1 x2 x3 x4 I J
def f_X7_tailOf_2 (x1 : Int32) (x2 : Int32) (x3 : Int32) (x4 : Int32) (I : xI) (J : xJ) : Option ((Int32 × Int32 × Int32 × Int32 × xI × xJ) ⊕ (Int32 × xI × xJ)) := if x4 < 0 ∨ 203 ≤ x4.toNatClampNeg then none else if x1 < 0 ∨ 203 ≤ x1.toNatClampNeg then none else if ((I 45 x4.toNatClampNeg) &&& (I 45 x1.toNatClampNeg)) = 0 then f_X7_tailOf_3 x1 x2 x3 x4 I J else f_X7_tailOf_5 x1 x2 x3 x4 I J
def b_X7_tailOf_1 (x1 : Int32) (x2 : Int32) (x3 : Int32) (x4 : Int32) (I : xI) (J : xJ) : Option ((Int32 × Int32 × Int32 × Int32 × xI × xJ) ⊕ (Int32 × xI × xJ)) := if (I 43 5) ≤ x4 then ((f_X7_tailOf_6 x1 x2 x3 x4 I J)).map .inr else f_X7_tailOf_2 x1 x2 x3 x4 I J
def f_X7_tailOf_1 (x1 : Int32) (x2 : Int32) (x3 : Int32) (x4 : Int32) (I : xI) (J : xJ) : Option (Int32 × xI × xJ) := xloop (fun s : Int32 × Int32 × Int32 × Int32 × xI × xJ => b_X7_tailOf_1 s.1 s.2.1 s.2.2.1 s.2.2.2.1 s.2.2.2.2.1 s.2.2.2.2.2) 5000 (x1, x2, x3, x4, I, J)
def f_X7_tailOf_0 (x1 : Int32) (I : xI) (J : xJ) : Option (Int32 × xI × xJ) := f_X7_tailOf_1 x1 x1 7 0 I J
def f_X7_tailOf (x1 : Int32) (I : xI) (J : xJ) : Option (Int32 × xI × xJ) := f_X7_tailOf_0 x1 I J
theorem p_X7_tailOf_6 {L : Nat} {xs : Nat → Int32} {d : Nat} {Q : xO → Prop} (x1 : Int32) (x2 : Int32) (x3 : Int32) (x4 : Int32) (I : xI) (J : xJ) {t : Int32 × xI × xJ} (h : f_X7_tailOf_6 x1 x2 x3 x4 I J = some t) (hC : (c_X7_tailOf Q) t) : Rn L xs (d + 1) 101 62 [some (.ref 43), some (.int x1), some (.int x2), some (.int x3), some (.int x4)] [] 94 (I, J, xrf) Q := by
  unfold f_X7_tailOf_6 at h
  cases h
  exact Rn.ret 2 (o := ((some (.int x2)), 94, (I, J, xrf))) (fun f => rfl) hC
theorem p_X7_tailOf_5 {L : Nat} {xs : Nat → Int32} {d : Nat} {Q : xO → Prop} (x1 : Int32) (x2 : Int32) (x3 : Int32) (x4 : Int32) (I : xI) (J : xJ) {t : (Int32 × Int32 × Int32 × Int32 × xI × xJ) ⊕ (Int32 × xI × xJ)} (h : f_X7_tailOf_5 x1 x2 x3 x4 I J = some t) (hC : (c_X7_tailOf_1 L xs d Q) t) : Rn L xs (d + 1) 101 56 [some (.ref 43), some (.int x1), some (.int x2), some (.int x3), some (.int x4)] [] 94 (I, J, xrf) Q := by
  unfold f_X7_tailOf_5 at h
  refine Rn.go 2 (j' := 101) (pc' := 8) (ls' := [some (.ref 43), some (.int x1), some (.int x2), some (.int x3), some (.int ((x4 + 1)))]) (st' := []) (n' := 94) (M' := (I, J, xrf)) (fun f => rfl) ?_
  cases h; exact hC
theorem p_X7_tailOf_4 {L : Nat} {xs : Nat → Int32} {d : Nat} {Q : xO → Prop} (x1 : Int32) (x2 : Int32) (x3 : Int32) (x4 : Int32) (I : xI) (J : xJ) {t : (Int32 × Int32 × Int32 × Int32 × xI × xJ) ⊕ (Int32 × xI × xJ)} (h : f_X7_tailOf_4 x1 x2 x3 x4 I J = some t) (hC : (c_X7_tailOf_1 L xs d Q) t) : Rn L xs (d + 1) 101 45 [some (.ref 43), some (.int x1), some (.int x2), some (.int x3), some (.int x4)] [] 94 (I, J, xrf) Q := by
  unfold f_X7_tailOf_4 at h
  obtain ⟨hc, h⟩ := xif h
  refine Rn.ok 6 (c := x4 < 0 ∨ 203 ≤ x4.toNatClampNeg) (p1 := 55) (l1 := [some (.ref 43), some (.int x1), some (.int x4), some (.int x3), some (.int x4)]) (s1 := [.int ((I 46 x4.toNatClampNeg))]) (n1 := 94) (M1 := (I, J, xrf)) (fun f => rfl) hc ?_
  refine Rn.go 1 (j' := 101) (pc' := 56) (ls' := [some (.ref 43), some (.int x1), some (.int x4), some (.int ((I 46 x4.toNatClampNeg))), some (.int x4)]) (st' := []) (n' := 94) (M' := (I, J, xrf)) (fun f => rfl) ?_
  exact p_X7_tailOf_5 x1 x4 ((I 46 x4.toNatClampNeg)) x4 I J h hC
theorem p_X7_tailOf_3 {L : Nat} {xs : Nat → Int32} {d : Nat} {Q : xO → Prop} (x1 : Int32) (x2 : Int32) (x3 : Int32) (x4 : Int32) (I : xI) (J : xJ) {t : (Int32 × Int32 × Int32 × Int32 × xI × xJ) ⊕ (Int32 × xI × xJ)} (h : f_X7_tailOf_3 x1 x2 x3 x4 I J = some t) (hC : (c_X7_tailOf_1 L xs d Q) t) : Rn L xs (d + 1) 101 34 [some (.ref 43), some (.int x1), some (.int x2), some (.int x3), some (.int x4)] [] 94 (I, J, xrf) Q := by
  unfold f_X7_tailOf_3 at h
  obtain ⟨hc, h⟩ := xif h
  refine Rn.ok 4 (c := x4 < 0 ∨ 203 ≤ x4.toNatClampNeg) (p1 := 41) (l1 := [some (.ref 43), some (.int x1), some (.int x2), some (.int x3), some (.int x4)]) (s1 := [.int ((I 46 x4.toNatClampNeg))]) (n1 := 94) (M1 := (I, J, xrf)) (fun f => rfl) hc ?_
  refine Rn.fi 2 (c := x3 ≤ (I 46 x4.toNatClampNeg)) (p1 := 56) (l1 := [some (.ref 43), some (.int x1), some (.int x2), some (.int x3), some (.int x4)]) (s1 := []) (n1 := 94) (M1 := (I, J, xrf)) (p2 := 45) (l2 := [some (.ref 43), some (.int x1), some (.int x2), some (.int x3), some (.int x4)]) (s2 := []) (n2 := 94) (M2 := (I, J, xrf)) (fun f => rfl) (fun hc => ?_) (fun hc => ?_)
  · rw [if_pos hc] at h
    exact p_X7_tailOf_5 x1 x2 x3 x4 I J h hC
  · rw [if_neg hc] at h
    exact p_X7_tailOf_4 x1 x2 x3 x4 I J h hC
theorem p_X7_tailOf_2 {L : Nat} {xs : Nat → Int32} {d : Nat} {Q : xO → Prop} (x1 : Int32) (x2 : Int32) (x3 : Int32) (x4 : Int32) (I : xI) (J : xJ) {t : (Int32 × Int32 × Int32 × Int32 × xI × xJ) ⊕ (Int32 × xI × xJ)} (h : f_X7_tailOf_2 x1 x2 x3 x4 I J = some t) (hC : (c_X7_tailOf_1 L xs d Q) t) : Rn L xs (d + 1) 101 17 [some (.ref 43), some (.int x1), some (.int x2), some (.int x3), some (.int x4)] [] 94 (I, J, xrf) Q := by
  unfold f_X7_tailOf_2 at h
  obtain ⟨hc, h⟩ := xif h
  refine Rn.ok 4 (c := x4 < 0 ∨ 203 ≤ x4.toNatClampNeg) (p1 := 24) (l1 := [some (.ref 43), some (.int x1), some (.int x2), some (.int x3), some (.int x4)]) (s1 := [.int ((I 45 x4.toNatClampNeg))]) (n1 := 94) (M1 := (I, J, xrf)) (fun f => rfl) hc ?_
  obtain ⟨hc, h⟩ := xif h
  refine Rn.ok 4 (c := x1 < 0 ∨ 203 ≤ x1.toNatClampNeg) (p1 := 30) (l1 := [some (.ref 43), some (.int x1), some (.int x2), some (.int x3), some (.int x4)]) (s1 := [.int ((I 45 x1.toNatClampNeg)), .int ((I 45 x4.toNatClampNeg))]) (n1 := 94) (M1 := (I, J, xrf)) (fun f => rfl) hc ?_
  refine Rn.fi 2 (c := ((I 45 x4.toNatClampNeg) &&& (I 45 x1.toNatClampNeg)) = 0) (p1 := 34) (l1 := [some (.ref 43), some (.int x1), some (.int x2), some (.int x3), some (.int x4)]) (s1 := []) (n1 := 94) (M1 := (I, J, xrf)) (p2 := 56) (l2 := [some (.ref 43), some (.int x1), some (.int x2), some (.int x3), some (.int x4)]) (s2 := []) (n2 := 94) (M2 := (I, J, xrf)) (fun f => rfl) (fun hc => ?_) (fun hc => ?_)
  · rw [if_pos hc] at h
    exact p_X7_tailOf_3 x1 x2 x3 x4 I J h hC
  · rw [if_neg hc] at h
    exact p_X7_tailOf_5 x1 x2 x3 x4 I J h hC
theorem q_X7_tailOf_1 {L : Nat} {xs : Nat → Int32} {d : Nat} {Q : xO → Prop} (x1 : Int32) (x2 : Int32) (x3 : Int32) (x4 : Int32) (I : xI) (J : xJ) {t : (Int32 × Int32 × Int32 × Int32 × xI × xJ) ⊕ (Int32 × xI × xJ)} (h : b_X7_tailOf_1 x1 x2 x3 x4 I J = some t) (hC : (c_X7_tailOf_1 L xs d Q) t) : Rn L xs (d + 1) 101 8 [some (.ref 43), some (.int x1), some (.int x2), some (.int x3), some (.int x4)] [] 94 (I, J, xrf) Q := by
  unfold b_X7_tailOf_1 at h
  refine Rn.fi 4 (c := (I 43 5) ≤ x4) (p1 := 62) (l1 := [some (.ref 43), some (.int x1), some (.int x2), some (.int x3), some (.int x4)]) (s1 := []) (n1 := 94) (M1 := (I, J, xrf)) (p2 := 17) (l2 := [some (.ref 43), some (.int x1), some (.int x2), some (.int x3), some (.int x4)]) (s2 := []) (n2 := 94) (M2 := (I, J, xrf)) (fun f => rfl) (fun hc => ?_) (fun hc => ?_)
  · rw [if_pos hc] at h
    obtain ⟨t0, h0, rfl⟩ := Option.map_eq_some_iff.mp h
    exact p_X7_tailOf_6 x1 x2 x3 x4 I J h0 hC
  · rw [if_neg hc] at h
    exact p_X7_tailOf_2 x1 x2 x3 x4 I J h hC
theorem p_X7_tailOf_1 {L : Nat} {xs : Nat → Int32} {d : Nat} {Q : xO → Prop} (x1 : Int32) (x2 : Int32) (x3 : Int32) (x4 : Int32) (I : xI) (J : xJ) {t : Int32 × xI × xJ} (h : f_X7_tailOf_1 x1 x2 x3 x4 I J = some t) (hC : (c_X7_tailOf Q) t) : Rn L xs (d + 1) 101 8 [some (.ref 43), some (.int x1), some (.int x2), some (.int x3), some (.int x4)] [] 94 (I, J, xrf) Q := by
  unfold f_X7_tailOf_1 at h
  exact xloop_some (P := fun s : Int32 × Int32 × Int32 × Int32 × xI × xJ => Rn L xs (d + 1) 101 8 [some (.ref 43), some (.int s.1), some (.int s.2.1), some (.int s.2.2.1), some (.int s.2.2.2.1)] [] 94 (s.2.2.2.2.1, s.2.2.2.2.2, xrf) Q) t (fun s ⟨s', hb, hp⟩ => q_X7_tailOf_1 s.1 s.2.1 s.2.2.1 s.2.2.2.1 s.2.2.2.2.1 s.2.2.2.2.2 hb hp) (fun s hb => q_X7_tailOf_1 s.1 s.2.1 s.2.2.1 s.2.2.2.1 s.2.2.2.2.1 s.2.2.2.2.2 hb hC) _ _ h
theorem p_X7_tailOf_0 {L : Nat} {xs : Nat → Int32} {d : Nat} {Q : xO → Prop} (x1 : Int32) (I : xI) (J : xJ) {t : Int32 × xI × xJ} (h : f_X7_tailOf_0 x1 I J = some t) (hC : (c_X7_tailOf Q) t) : Rn L xs (d + 1) 101 0 [some (.ref 43), some (.int x1), none, none, none] [] 94 (I, J, xrf) Q := by
  unfold f_X7_tailOf_0 at h
  refine Rn.go 6 (j' := 101) (pc' := 8) (ls' := [some (.ref 43), some (.int x1), some (.int x1), some (.int 7), some (.int 0)]) (st' := []) (n' := 94) (M' := (I, J, xrf)) (fun f => rfl) ?_
  exact p_X7_tailOf_1 x1 x1 7 0 I J h hC
theorem p_X7_tailOf {L : Nat} {xs : Nat → Int32} {d : Nat} {Q : xO → Prop} (x1 : Int32) (I : xI) (J : xJ) {t : Int32 × xI × xJ} (h : f_X7_tailOf x1 I J = some t) (hC : Q ((some (.int t.1)), 94, (t.2.1, t.2.2, xrf))) : Rn L xs (d + 1) 101 0 [some (.ref 43), some (.int x1), none, none, none] [] 94 (I, J, xrf) Q := p_X7_tailOf_0 x1 I J h hC
/-! X11_tail -/
def c_X11_tail (Q : xO → Prop) (t : Int32 × xI × xJ) : Prop := Q ((some (.int t.1)), 94, (t.2.1, t.2.2, xrf))
def f_X11_tail_6 (x1 : Int32) (x2 : Int32) (s0 : Int32) (I : xI) (J : xJ) : Option (Int32 × xI × xJ) := some (s0, I, J)
def f_X11_tail_5 (x1 : Int32) (x2 : Int32) (s1 : Int32) (I : xI) (J : xJ) : Option (Int32 × xI × xJ) := if s1 < 0 ∨ 203 ≤ s1.toNatClampNeg then none else f_X11_tail_6 x1 x2 ((I 44 s1.toNatClampNeg)) I J
def f_X11_tail_4 (x1 : Int32) (x2 : Int32) (I : xI) (J : xJ) : Option (Int32 × xI × xJ) := (f_X7_tailOf x2 I J).bind fun o => f_X11_tail_5 x1 x2 o.1 o.2.1 o.2.2
def f_X11_tail_3 (x1 : Int32) (x2 : Int32) (I : xI) (J : xJ) : Option (Int32 × xI × xJ) := f_X11_tail_6 x1 x2 ((-1)) I J
def f_X11_tail_2 (x1 : Int32) (s0 : Int32) (I : xI) (J : xJ) : Option (Int32 × xI × xJ) := if s0 = (-1) then f_X11_tail_3 x1 s0 I J else f_X11_tail_4 x1 s0 I J
def f_X11_tail_1 (x1 : Int32) (I : xI) (J : xJ) : Option (Int32 × xI × xJ) := (f_X7_goingIndexOf x1 I J).bind fun o => f_X11_tail_2 x1 o.1 o.2.1 o.2.2
def f_X11_tail_0 (x1 : Int32) (I : xI) (J : xJ) : Option (Int32 × xI × xJ) := (f_X11_partitionsNow I J).bind fun o => f_X11_tail_1 x1 o.2.1 o.2.2
def f_X11_tail (x1 : Int32) (I : xI) (J : xJ) : Option (Int32 × xI × xJ) := f_X11_tail_0 x1 I J
theorem p_X11_tail_6 {L : Nat} {xs : Nat → Int32} {d : Nat} {Q : xO → Prop} (x1 : Int32) (x2 : Int32) (s0 : Int32) (I : xI) (J : xJ) {t : Int32 × xI × xJ} (h : f_X11_tail_6 x1 x2 s0 I J = some t) (hC : (c_X11_tail Q) t) : Rn L xs (d + 18) 163 34 [some (.ref 0), some (.int x1), some (.int x2)] [.int s0] 94 (I, J, xrf) Q := by
  unfold f_X11_tail_6 at h
  cases h
  exact Rn.ret 1 (o := ((some (.int s0)), 94, (I, J, xrf))) (fun f => rfl) hC
theorem p_X11_tail_5 {L : Nat} {xs : Nat → Int32} {d : Nat} {Q : xO → Prop} (x1 : Int32) (x2 : Int32) (s1 : Int32) (I : xI) (J : xJ) {t : Int32 × xI × xJ} (h : f_X11_tail_5 x1 x2 s1 I J = some t) (hC : (c_X11_tail Q) t) : Rn L xs (d + 18) 163 33 [some (.ref 0), some (.int x1), some (.int x2)] [.int s1, .ref 44] 94 (I, J, xrf) Q := by
  unfold f_X11_tail_5 at h
  obtain ⟨hc, h⟩ := xif h
  refine Rn.ok 1 (c := s1 < 0 ∨ 203 ≤ s1.toNatClampNeg) (p1 := 34) (l1 := [some (.ref 0), some (.int x1), some (.int x2)]) (s1 := [.int ((I 44 s1.toNatClampNeg))]) (n1 := 94) (M1 := (I, J, xrf)) (fun f => rfl) hc ?_
  exact p_X11_tail_6 x1 x2 ((I 44 s1.toNatClampNeg)) I J h hC
theorem p_X11_tail_4 {L : Nat} {xs : Nat → Int32} {d : Nat} {Q : xO → Prop} (x1 : Int32) (x2 : Int32) (I : xI) (J : xJ) {t : Int32 × xI × xJ} (h : f_X11_tail_4 x1 x2 I J = some t) (hC : (c_X11_tail Q) t) : Rn L xs (d + 18) 163 18 [some (.ref 0), some (.int x1), some (.int x2)] [] 94 (I, J, xrf) Q := by
  unfold f_X11_tail_4 at h
  refine Rn.go 6 (j' := 163) (pc' := 30) (ls' := [some (.ref 0), some (.int x1), some (.int x2)]) (st' := [.int x2, .ref 43, .ref 44]) (n' := 94) (M' := (I, J, xrf)) (fun f => rfl) ?_
  obtain ⟨o, ho, h⟩ := Option.bind_eq_some_iff.mp h
  refine Rn.call (d1 := d + 17) (j1 := 101) (ls1 := [some (.ref 43), some (.int x2), none, none, none]) (rest := [.ref 44]) (fun f => rfl) ?_
  refine p_X7_tailOf (d := d + 16) x2 I J (t := o) ho ?_
  exact p_X11_tail_5 x1 x2 o.1 o.2.1 o.2.2 h hC
theorem p_X11_tail_3 {L : Nat} {xs : Nat → Int32} {d : Nat} {Q : xO → Prop} (x1 : Int32) (x2 : Int32) (I : xI) (J : xJ) {t : Int32 × xI × xJ} (h : f_X11_tail_3 x1 x2 I J = some t) (hC : (c_X11_tail Q) t) : Rn L xs (d + 18) 163 14 [some (.ref 0), some (.int x1), some (.int x2)] [] 94 (I, J, xrf) Q := by
  unfold f_X11_tail_3 at h
  refine Rn.go 2 (j' := 163) (pc' := 34) (ls' := [some (.ref 0), some (.int x1), some (.int x2)]) (st' := [.int ((-1))]) (n' := 94) (M' := (I, J, xrf)) (fun f => rfl) ?_
  exact p_X11_tail_6 x1 x2 ((-1)) I J h hC
theorem p_X11_tail_2 {L : Nat} {xs : Nat → Int32} {d : Nat} {Q : xO → Prop} (x1 : Int32) (s0 : Int32) (I : xI) (J : xJ) {t : Int32 × xI × xJ} (h : f_X11_tail_2 x1 s0 I J = some t) (hC : (c_X11_tail Q) t) : Rn L xs (d + 18) 163 8 [some (.ref 0), some (.int x1), none] [.int s0] 94 (I, J, xrf) Q := by
  unfold f_X11_tail_2 at h
  refine Rn.fi 4 (c := s0 = (-1)) (p1 := 14) (l1 := [some (.ref 0), some (.int x1), some (.int s0)]) (s1 := []) (n1 := 94) (M1 := (I, J, xrf)) (p2 := 18) (l2 := [some (.ref 0), some (.int x1), some (.int s0)]) (s2 := []) (n2 := 94) (M2 := (I, J, xrf)) (fun f => rfl) (fun hc => ?_) (fun hc => ?_)
  · rw [if_pos hc] at h
    exact p_X11_tail_3 x1 s0 I J h hC
  · rw [if_neg hc] at h
    exact p_X11_tail_4 x1 s0 I J h hC
theorem p_X11_tail_1 {L : Nat} {xs : Nat → Int32} {d : Nat} {Q : xO → Prop} (x1 : Int32) (I : xI) (J : xJ) {t : Int32 × xI × xJ} (h : f_X11_tail_1 x1 I J = some t) (hC : (c_X11_tail Q) t) : Rn L xs (d + 18) 163 4 [some (.ref 0), some (.int x1), none] [.ref 43] 94 (I, J, xrf) Q := by
  unfold f_X11_tail_1 at h
  refine Rn.go 1 (j' := 163) (pc' := 5) (ls' := [some (.ref 0), some (.int x1), none]) (st' := [.int x1, .ref 43]) (n' := 94) (M' := (I, J, xrf)) (fun f => rfl) ?_
  obtain ⟨o, ho, h⟩ := Option.bind_eq_some_iff.mp h
  refine Rn.call (d1 := d + 17) (j1 := 94) (ls1 := [some (.ref 43), some (.int x1), none]) (rest := []) (fun f => rfl) ?_
  refine p_X7_goingIndexOf (d := d + 14) x1 I J (t := o) ho ?_
  exact p_X11_tail_2 x1 o.1 o.2.1 o.2.2 h hC
theorem p_X11_tail_0 {L : Nat} {xs : Nat → Int32} {d : Nat} {Q : xO → Prop} (x1 : Int32) (I : xI) (J : xJ) {t : Int32 × xI × xJ} (h : f_X11_tail_0 x1 I J = some t) (hC : (c_X11_tail Q) t) : Rn L xs (d + 18) 163 0 [some (.ref 0), some (.int x1), none] [] 94 (I, J, xrf) Q := by
  unfold f_X11_tail_0 at h
  refine Rn.go 1 (j' := 163) (pc' := 1) (ls' := [some (.ref 0), some (.int x1), none]) (st' := [.ref 0]) (n' := 94) (M' := (I, J, xrf)) (fun f => rfl) ?_
  obtain ⟨o, ho, h⟩ := Option.bind_eq_some_iff.mp h
  refine Rn.call (d1 := d + 17) (j1 := 179) (ls1 := [some (.ref 0)]) (rest := []) (fun f => rfl) ?_
  refine p_X11_partitionsNow (d := d + 0) I J (t := o) ho ?_
  exact p_X11_tail_1 x1 o.2.1 o.2.2 h hC
theorem p_X11_tail {L : Nat} {xs : Nat → Int32} {d : Nat} {Q : xO → Prop} (x1 : Int32) (I : xI) (J : xJ) {t : Int32 × xI × xJ} (h : f_X11_tail x1 I J = some t) (hC : Q ((some (.int t.1)), 94, (t.2.1, t.2.2, xrf))) : Rn L xs (d + 18) 163 0 [some (.ref 0), some (.int x1), none] [] 94 (I, J, xrf) Q := p_X11_tail_0 x1 I J h hC
/-! X7_hasBlock -/
def c_X7_hasBlock (Q : xO → Prop) (t : Int32 × xI × xJ) : Prop := Q ((some (.int t.1)), 94, (t.2.1, t.2.2, xrf))
def f_X7_hasBlock_4 (x1 : Int32) (x2 : Int32) (s0 : Int32) (I : xI) (J : xJ) : Option (Int32 × xI × xJ) := if s0 = 0 ∨ s0 = 1 then some (s0, I, J) else none
def f_X7_hasBlock_3 (x1 : Int32) (x2 : Int32) (I : xI) (J : xJ) : Option (Int32 × xI × xJ) := f_X7_hasBlock_4 x1 x2 0 I J
def f_X7_hasBlock_2 (x1 : Int32) (x2 : Int32) (I : xI) (J : xJ) : Option (Int32 × xI × xJ) := f_X7_hasBlock_4 x1 x2 1 I J
def f_X7_hasBlock_1 (x1 : Int32) (x2 : Int32) (I : xI) (J : xJ) : Option (Int32 × xI × xJ) := if x1 < 0 ∨ 203 ≤ x1.toNatClampNeg then none else if (I 46 x1.toNatClampNeg) ≤ x2 then f_X7_hasBlock_3 x1 x2 I J else f_X7_hasBlock_2 x1 x2 I J
def f_X7_hasBlock_0 (x1 : Int32) (x2 : Int32) (I : xI) (J : xJ) : Option (Int32 × xI × xJ) := if x2 < 0 then f_X7_hasBlock_3 x1 x2 I J else f_X7_hasBlock_1 x1 x2 I J
def f_X7_hasBlock (x1 : Int32) (x2 : Int32) (I : xI) (J : xJ) : Option (Int32 × xI × xJ) := f_X7_hasBlock_0 x1 x2 I J
theorem p_X7_hasBlock_4 {L : Nat} {xs : Nat → Int32} {d : Nat} {Q : xO → Prop} (x1 : Int32) (x2 : Int32) (s0 : Int32) (I : xI) (J : xJ) {t : Int32 × xI × xJ} (h : f_X7_hasBlock_4 x1 x2 s0 I J = some t) (hC : (c_X7_hasBlock Q) t) : Rn L xs (d + 1) 96 19 [some (.ref 43), some (.int x1), some (.int x2)] [.int s0] 94 (I, J, xrf) Q := by
  unfold f_X7_hasBlock_4 at h
  obtain ⟨hc, h⟩ := xifT h
  cases h
  exact Rn.retT 1 (c := s0 = 0 ∨ s0 = 1) (o := ((some (.int s0)), 94, (I, J, xrf))) (fun f => rfl) hc hC
theorem p_X7_hasBlock_3 {L : Nat} {xs : Nat → Int32} {d : Nat} {Q : xO → Prop} (x1 : Int32) (x2 : Int32) (I : xI) (J : xJ) {t : Int32 × xI × xJ} (h : f_X7_hasBlock_3 x1 x2 I J = some t) (hC : (c_X7_hasBlock Q) t) : Rn L xs (d + 1) 96 18 [some (.ref 43), some (.int x1), some (.int x2)] [] 94 (I, J, xrf) Q := by
  unfold f_X7_hasBlock_3 at h
  refine Rn.go 1 (j' := 96) (pc' := 19) (ls' := [some (.ref 43), some (.int x1), some (.int x2)]) (st' := [.int 0]) (n' := 94) (M' := (I, J, xrf)) (fun f => rfl) ?_
  exact p_X7_hasBlock_4 x1 x2 0 I J h hC
theorem p_X7_hasBlock_2 {L : Nat} {xs : Nat → Int32} {d : Nat} {Q : xO → Prop} (x1 : Int32) (x2 : Int32) (I : xI) (J : xJ) {t : Int32 × xI × xJ} (h : f_X7_hasBlock_2 x1 x2 I J = some t) (hC : (c_X7_hasBlock Q) t) : Rn L xs (d + 1) 96 14 [some (.ref 43), some (.int x1), some (.int x2)] [] 94 (I, J, xrf) Q := by
  unfold f_X7_hasBlock_2 at h
  refine Rn.go 2 (j' := 96) (pc' := 19) (ls' := [some (.ref 43), some (.int x1), some (.int x2)]) (st' := [.int 1]) (n' := 94) (M' := (I, J, xrf)) (fun f => rfl) ?_
  exact p_X7_hasBlock_4 x1 x2 1 I J h hC
theorem p_X7_hasBlock_1 {L : Nat} {xs : Nat → Int32} {d : Nat} {Q : xO → Prop} (x1 : Int32) (x2 : Int32) (I : xI) (J : xJ) {t : Int32 × xI × xJ} (h : f_X7_hasBlock_1 x1 x2 I J = some t) (hC : (c_X7_hasBlock Q) t) : Rn L xs (d + 1) 96 4 [some (.ref 43), some (.int x1), some (.int x2)] [] 94 (I, J, xrf) Q := by
  unfold f_X7_hasBlock_1 at h
  obtain ⟨hc, h⟩ := xif h
  refine Rn.ok 5 (c := x1 < 0 ∨ 203 ≤ x1.toNatClampNeg) (p1 := 11) (l1 := [some (.ref 43), some (.int x1), some (.int x2)]) (s1 := [.int ((I 46 x1.toNatClampNeg)), .int x2]) (n1 := 94) (M1 := (I, J, xrf)) (fun f => rfl) hc ?_
  refine Rn.fi 1 (c := (I 46 x1.toNatClampNeg) ≤ x2) (p1 := 18) (l1 := [some (.ref 43), some (.int x1), some (.int x2)]) (s1 := []) (n1 := 94) (M1 := (I, J, xrf)) (p2 := 14) (l2 := [some (.ref 43), some (.int x1), some (.int x2)]) (s2 := []) (n2 := 94) (M2 := (I, J, xrf)) (fun f => rfl) (fun hc => ?_) (fun hc => ?_)
  · rw [if_pos hc] at h
    exact p_X7_hasBlock_3 x1 x2 I J h hC
  · rw [if_neg hc] at h
    exact p_X7_hasBlock_2 x1 x2 I J h hC
theorem p_X7_hasBlock_0 {L : Nat} {xs : Nat → Int32} {d : Nat} {Q : xO → Prop} (x1 : Int32) (x2 : Int32) (I : xI) (J : xJ) {t : Int32 × xI × xJ} (h : f_X7_hasBlock_0 x1 x2 I J = some t) (hC : (c_X7_hasBlock Q) t) : Rn L xs (d + 1) 96 0 [some (.ref 43), some (.int x1), some (.int x2)] [] 94 (I, J, xrf) Q := by
  unfold f_X7_hasBlock_0 at h
  refine Rn.fi 2 (c := x2 < 0) (p1 := 18) (l1 := [some (.ref 43), some (.int x1), some (.int x2)]) (s1 := []) (n1 := 94) (M1 := (I, J, xrf)) (p2 := 4) (l2 := [some (.ref 43), some (.int x1), some (.int x2)]) (s2 := []) (n2 := 94) (M2 := (I, J, xrf)) (fun f => rfl) (fun hc => ?_) (fun hc => ?_)
  · rw [if_pos hc] at h
    exact p_X7_hasBlock_3 x1 x2 I J h hC
  · rw [if_neg hc] at h
    exact p_X7_hasBlock_1 x1 x2 I J h hC
theorem p_X7_hasBlock {L : Nat} {xs : Nat → Int32} {d : Nat} {Q : xO → Prop} (x1 : Int32) (x2 : Int32) (I : xI) (J : xJ) {t : Int32 × xI × xJ} (h : f_X7_hasBlock x1 x2 I J = some t) (hC : Q ((some (.int t.1)), 94, (t.2.1, t.2.2, xrf))) : Rn L xs (d + 1) 96 0 [some (.ref 43), some (.int x1), some (.int x2)] [] 94 (I, J, xrf) Q := p_X7_hasBlock_0 x1 x2 I J h hC
/-! X7_statesOf -/
def c_X7_statesOf (Q : xO → Prop) (t : Int32 × xI × xJ) : Prop := Q ((some (.int t.1)), 94, (t.2.1, t.2.2, xrf))
def c_X7_statesOf_1 (L : Nat) (xs : Nat → Int32) (d : Nat) (Q : xO → Prop) (t : (Int32 × Int32 × Int32 × Int32 × xI × xJ) ⊕ (Int32 × xI × xJ)) : Prop := match t with
  | .inl s => Rn L xs (d + 2) 97 5 [some (.ref 43), some (.int s.1), some (.int s.2.1), some (.int s.2.2.1), some (.int s.2.2.2.1)] [] 94 (s.2.2.2.2.1, s.2.2.2.2.2, xrf) Q
  | .inr t => (c_X7_statesOf Q) t
def f_X7_statesOf_6 (x1 : Int32) (x2 : Int32) (x3 : Int32) (x4 : Int32) (I : xI) (J : xJ) : Option (Int32 × xI × xJ) := some (x3, I, J)
def f_X7_statesOf_5 (x1 : Int32) (x2 : Int32) (x3 : Int32) (x4 : Int32) (I : xI) (J : xJ) : Option ((Int32 × Int32 × Int32 × Int32 × xI × xJ) ⊕ (Int32 × xI × xJ)) := some (.inl (x1, x2, x3, ((x4 + 1)), I, J))
def f_X7_statesOf_4 (x1 : Int32) (x2 : Int32) (x3 : Int32) (x4 : Int32) (I : xI) (J : xJ) : Option ((Int32 × Int32 × Int32 × Int32 × xI × xJ) ⊕ (Int32 × xI × xJ)) := f_X7_statesOf_5 x1 x2 ((x3 ||| (1 <<< (x4 &&& 31)))) x4 I J
def f_X7_statesOf_3 (x1 : Int32) (x2 : Int32) (x3 : Int32) (x4 : Int32) (s0 : Int32) (I : xI) (J : xJ) : Option ((Int32 × Int32 × Int32 × Int32 × xI × xJ) ⊕ (Int32 × xI × xJ)) := if s0 = x2 then f_X7_statesOf_4 x1 x2 x3 x4 I J else f_X7_statesOf_5 x1 x2 x3 x4 I J
def f_X7_statesOf_2 (x1 : Int32) (x2 : Int32) (x3 : Int32) (x4 : Int32) (I : xI) (J : xJ) : Option ((Int32 × Int32 × Int32 × Int32 × xI × xJ) ⊕ (Int32 × xI × xJ)) := (f_X7_blockOf x1 x4 I J).bind fun o => f_X7_statesOf_3 x1 x2 x3 x4 o.1 o.2.1 o.2.2
def b_X7_statesOf_1 (x1 : Int32) (x2 : Int32) (x3 : Int32) (x4 : Int32) (I : xI) (J : xJ) : Option ((Int32 × Int32 × Int32 × Int32 × xI × xJ) ⊕ (Int32 × xI × xJ)) := if (I 43 6) ≤ x4 then ((f_X7_statesOf_6 x1 x2 x3 x4 I J)).map .inr else f_X7_statesOf_2 x1 x2 x3 x4 I J
def f_X7_statesOf_1 (x1 : Int32) (x2 : Int32) (x3 : Int32) (x4 : Int32) (I : xI) (J : xJ) : Option (Int32 × xI × xJ) := xloop (fun s : Int32 × Int32 × Int32 × Int32 × xI × xJ => b_X7_statesOf_1 s.1 s.2.1 s.2.2.1 s.2.2.2.1 s.2.2.2.2.1 s.2.2.2.2.2) 5000 (x1, x2, x3, x4, I, J)
def f_X7_statesOf_0 (x1 : Int32) (x2 : Int32) (I : xI) (J : xJ) : Option (Int32 × xI × xJ) := f_X7_statesOf_1 x1 x2 0 0 I J
def f_X7_statesOf (x1 : Int32) (x2 : Int32) (I : xI) (J : xJ) : Option (Int32 × xI × xJ) := f_X7_statesOf_0 x1 x2 I J
theorem p_X7_statesOf_6 {L : Nat} {xs : Nat → Int32} {d : Nat} {Q : xO → Prop} (x1 : Int32) (x2 : Int32) (x3 : Int32) (x4 : Int32) (I : xI) (J : xJ) {t : Int32 × xI × xJ} (h : f_X7_statesOf_6 x1 x2 x3 x4 I J = some t) (hC : (c_X7_statesOf Q) t) : Rn L xs (d + 2) 97 38 [some (.ref 43), some (.int x1), some (.int x2), some (.int x3), some (.int x4)] [] 94 (I, J, xrf) Q := by
  unfold f_X7_statesOf_6 at h
  cases h
  exact Rn.ret 2 (o := ((some (.int x3)), 94, (I, J, xrf))) (fun f => rfl) hC
theorem p_X7_statesOf_5 {L : Nat} {xs : Nat → Int32} {d : Nat} {Q : xO → Prop} (x1 : Int32) (x2 : Int32) (x3 : Int32) (x4 : Int32) (I : xI) (J : xJ) {t : (Int32 × Int32 × Int32 × Int32 × xI × xJ) ⊕ (Int32 × xI × xJ)} (h : f_X7_statesOf_5 x1 x2 x3 x4 I J = some t) (hC : (c_X7_statesOf_1 L xs d Q) t) : Rn L xs (d + 2) 97 32 [some (.ref 43), some (.int x1), some (.int x2), some (.int x3), some (.int x4)] [] 94 (I, J, xrf) Q := by
  unfold f_X7_statesOf_5 at h
  refine Rn.go 2 (j' := 97) (pc' := 5) (ls' := [some (.ref 43), some (.int x1), some (.int x2), some (.int x3), some (.int ((x4 + 1)))]) (st' := []) (n' := 94) (M' := (I, J, xrf)) (fun f => rfl) ?_
  cases h; exact hC
theorem p_X7_statesOf_4 {L : Nat} {xs : Nat → Int32} {d : Nat} {Q : xO → Prop} (x1 : Int32) (x2 : Int32) (x3 : Int32) (x4 : Int32) (I : xI) (J : xJ) {t : (Int32 × Int32 × Int32 × Int32 × xI × xJ) ⊕ (Int32 × xI × xJ)} (h : f_X7_statesOf_4 x1 x2 x3 x4 I J = some t) (hC : (c_X7_statesOf_1 L xs d Q) t) : Rn L xs (d + 2) 97 25 [some (.ref 43), some (.int x1), some (.int x2), some (.int x3), some (.int x4)] [] 94 (I, J, xrf) Q := by
  unfold f_X7_statesOf_4 at h
  refine Rn.go 6 (j' := 97) (pc' := 32) (ls' := [some (.ref 43), some (.int x1), some (.int x2), some (.int ((x3 ||| (1 <<< (x4 &&& 31))))), some (.int x4)]) (st' := []) (n' := 94) (M' := (I, J, xrf)) (fun f => rfl) ?_
  exact p_X7_statesOf_5 x1 x2 ((x3 ||| (1 <<< (x4 &&& 31)))) x4 I J h hC
theorem p_X7_statesOf_3 {L : Nat} {xs : Nat → Int32} {d : Nat} {Q : xO → Prop} (x1 : Int32) (x2 : Int32) (x3 : Int32) (x4 : Int32) (s0 : Int32) (I : xI) (J : xJ) {t : (Int32 × Int32 × Int32 × Int32 × xI × xJ) ⊕ (Int32 × xI × xJ)} (h : f_X7_statesOf_3 x1 x2 x3 x4 s0 I J = some t) (hC : (c_X7_statesOf_1 L xs d Q) t) : Rn L xs (d + 2) 97 21 [some (.ref 43), some (.int x1), some (.int x2), some (.int x3), some (.int x4)] [.int s0] 94 (I, J, xrf) Q := by
  unfold f_X7_statesOf_3 at h
  refine Rn.fi 2 (c := s0 = x2) (p1 := 25) (l1 := [some (.ref 43), some (.int x1), some (.int x2), some (.int x3), some (.int x4)]) (s1 := []) (n1 := 94) (M1 := (I, J, xrf)) (p2 := 32) (l2 := [some (.ref 43), some (.int x1), some (.int x2), some (.int x3), some (.int x4)]) (s2 := []) (n2 := 94) (M2 := (I, J, xrf)) (fun f => rfl) (fun hc => ?_) (fun hc => ?_)
  · rw [if_pos hc] at h
    exact p_X7_statesOf_4 x1 x2 x3 x4 I J h hC
  · rw [if_neg hc] at h
    exact p_X7_statesOf_5 x1 x2 x3 x4 I J h hC
theorem p_X7_statesOf_2 {L : Nat} {xs : Nat → Int32} {d : Nat} {Q : xO → Prop} (x1 : Int32) (x2 : Int32) (x3 : Int32) (x4 : Int32) (I : xI) (J : xJ) {t : (Int32 × Int32 × Int32 × Int32 × xI × xJ) ⊕ (Int32 × xI × xJ)} (h : f_X7_statesOf_2 x1 x2 x3 x4 I J = some t) (hC : (c_X7_statesOf_1 L xs d Q) t) : Rn L xs (d + 2) 97 14 [some (.ref 43), some (.int x1), some (.int x2), some (.int x3), some (.int x4)] [] 94 (I, J, xrf) Q := by
  unfold f_X7_statesOf_2 at h
  refine Rn.go 3 (j' := 97) (pc' := 18) (ls' := [some (.ref 43), some (.int x1), some (.int x2), some (.int x3), some (.int x4)]) (st' := [.int x4, .int x1, .ref 43]) (n' := 94) (M' := (I, J, xrf)) (fun f => rfl) ?_
  obtain ⟨o, ho, h⟩ := Option.bind_eq_some_iff.mp h
  refine Rn.call (d1 := d + 1) (j1 := 92) (ls1 := [some (.ref 43), some (.int x1), some (.int x4), none]) (rest := []) (fun f => rfl) ?_
  refine p_X7_blockOf (d := d + 0) x1 x4 I J (t := o) ho ?_
  exact p_X7_statesOf_3 x1 x2 x3 x4 o.1 o.2.1 o.2.2 h hC
theorem q_X7_statesOf_1 {L : Nat} {xs : Nat → Int32} {d : Nat} {Q : xO → Prop} (x1 : Int32) (x2 : Int32) (x3 : Int32) (x4 : Int32) (I : xI) (J : xJ) {t : (Int32 × Int32 × Int32 × Int32 × xI × xJ) ⊕ (Int32 × xI × xJ)} (h : b_X7_statesOf_1 x1 x2 x3 x4 I J = some t) (hC : (c_X7_statesOf_1 L xs d Q) t) : Rn L xs (d + 2) 97 5 [some (.ref 43), some (.int x1), some (.int x2), some (.int x3), some (.int x4)] [] 94 (I, J, xrf) Q := by
  unfold b_X7_statesOf_1 at h
  refine Rn.fi 4 (c := (I 43 6) ≤ x4) (p1 := 38) (l1 := [some (.ref 43), some (.int x1), some (.int x2), some (.int x3), some (.int x4)]) (s1 := []) (n1 := 94) (M1 := (I, J, xrf)) (p2 := 14) (l2 := [some (.ref 43), some (.int x1), some (.int x2), some (.int x3), some (.int x4)]) (s2 := []) (n2 := 94) (M2 := (I, J, xrf)) (fun f => rfl) (fun hc => ?_) (fun hc => ?_)
  · rw [if_pos hc] at h
    obtain ⟨t0, h0, rfl⟩ := Option.map_eq_some_iff.mp h
    exact p_X7_statesOf_6 x1 x2 x3 x4 I J h0 hC
  · rw [if_neg hc] at h
    exact p_X7_statesOf_2 x1 x2 x3 x4 I J h hC
theorem p_X7_statesOf_1 {L : Nat} {xs : Nat → Int32} {d : Nat} {Q : xO → Prop} (x1 : Int32) (x2 : Int32) (x3 : Int32) (x4 : Int32) (I : xI) (J : xJ) {t : Int32 × xI × xJ} (h : f_X7_statesOf_1 x1 x2 x3 x4 I J = some t) (hC : (c_X7_statesOf Q) t) : Rn L xs (d + 2) 97 5 [some (.ref 43), some (.int x1), some (.int x2), some (.int x3), some (.int x4)] [] 94 (I, J, xrf) Q := by
  unfold f_X7_statesOf_1 at h
  exact xloop_some (P := fun s : Int32 × Int32 × Int32 × Int32 × xI × xJ => Rn L xs (d + 2) 97 5 [some (.ref 43), some (.int s.1), some (.int s.2.1), some (.int s.2.2.1), some (.int s.2.2.2.1)] [] 94 (s.2.2.2.2.1, s.2.2.2.2.2, xrf) Q) t (fun s ⟨s', hb, hp⟩ => q_X7_statesOf_1 s.1 s.2.1 s.2.2.1 s.2.2.2.1 s.2.2.2.2.1 s.2.2.2.2.2 hb hp) (fun s hb => q_X7_statesOf_1 s.1 s.2.1 s.2.2.1 s.2.2.2.1 s.2.2.2.2.1 s.2.2.2.2.2 hb hC) _ _ h
theorem p_X7_statesOf_0 {L : Nat} {xs : Nat → Int32} {d : Nat} {Q : xO → Prop} (x1 : Int32) (x2 : Int32) (I : xI) (J : xJ) {t : Int32 × xI × xJ} (h : f_X7_statesOf_0 x1 x2 I J = some t) (hC : (c_X7_statesOf Q) t) : Rn L xs (d + 2) 97 0 [some (.ref 43), some (.int x1), some (.int x2), none, none] [] 94 (I, J, xrf) Q := by
  unfold f_X7_statesOf_0 at h
  refine Rn.go 4 (j' := 97) (pc' := 5) (ls' := [some (.ref 43), some (.int x1), some (.int x2), some (.int 0), some (.int 0)]) (st' := []) (n' := 94) (M' := (I, J, xrf)) (fun f => rfl) ?_
  exact p_X7_statesOf_1 x1 x2 0 0 I J h hC
theorem p_X7_statesOf {L : Nat} {xs : Nat → Int32} {d : Nat} {Q : xO → Prop} (x1 : Int32) (x2 : Int32) (I : xI) (J : xJ) {t : Int32 × xI × xJ} (h : f_X7_statesOf x1 x2 I J = some t) (hC : Q ((some (.int t.1)), 94, (t.2.1, t.2.2, xrf))) : Rn L xs (d + 2) 97 0 [some (.ref 43), some (.int x1), some (.int x2), none, none] [] 94 (I, J, xrf) Q := p_X7_statesOf_0 x1 x2 I J h hC
/-! X7_blockBehind -/
def c_X7_blockBehind (Q : xO → Prop) (t : Int32 × xI × xJ) : Prop := Q ((some (.int t.1)), 94, (t.2.1, t.2.2, xrf))
def f_X7_blockBehind_6 (x1 : Int32) (x2 : Int32) (x3 : Int32) (x4 : Int32) (s0 : Int32) (I : xI) (J : xJ) : Option (Int32 × xI × xJ) := some (s0, I, J)
def f_X7_blockBehind_5 (x1 : Int32) (x2 : Int32) (x3 : Int32) (x4 : Int32) (s1 : Int32) (s2 : Int32) (I : xI) (J : xJ) : Option (Int32 × xI × xJ) := (f_X7_blockOf s1 s2 I J).bind fun o => f_X7_blockBehind_6 x1 x2 x3 x4 o.1 o.2.1 o.2.2
def f_X7_blockBehind_4 (x1 : Int32) (x2 : Int32) (x3 : Int32) (x4 : Int32) (I : xI) (J : xJ) : Option (Int32 × xI × xJ) := (f_J6_numberOfTrailingZeros_0f7a4 x4 I J).bind fun o => f_X7_blockBehind_5 x1 x2 x3 x4 x1 o.1 o.2.1 o.2.2
def f_X7_blockBehind_3 (x1 : Int32) (x2 : Int32) (x3 : Int32) (x4 : Int32) (I : xI) (J : xJ) : Option (Int32 × xI × xJ) := f_X7_blockBehind_6 x1 x2 x3 x4 ((-2)) I J
def f_X7_blockBehind_2 (x1 : Int32) (x2 : Int32) (x3 : Int32) (s0 : Int32) (I : xI) (J : xJ) : Option (Int32 × xI × xJ) := if s0 = 0 then f_X7_blockBehind_3 x1 x2 x3 s0 I J else f_X7_blockBehind_4 x1 x2 x3 s0 I J
def f_X7_blockBehind_1 (x1 : Int32) (x2 : Int32) (x3 : Int32) (s1 : Int32) (I : xI) (J : xJ) : Option (Int32 × xI × xJ) := (f_X5_leadOf s1 x3 I J).bind fun o => f_X7_blockBehind_2 x1 x2 x3 o.1 o.2.1 o.2.2
def f_X7_blockBehind_0 (x1 : Int32) (x2 : Int32) (x3 : Int32) (I : xI) (J : xJ) : Option (Int32 × xI × xJ) := (f_X7_statesOf x1 x2 I J).bind fun o => f_X7_blockBehind_1 x1 x2 x3 o.1 o.2.1 o.2.2
def f_X7_blockBehind (x1 : Int32) (x2 : Int32) (x3 : Int32) (I : xI) (J : xJ) : Option (Int32 × xI × xJ) := f_X7_blockBehind_0 x1 x2 x3 I J
theorem p_X7_blockBehind_6 {L : Nat} {xs : Nat → Int32} {d : Nat} {Q : xO → Prop} (x1 : Int32) (x2 : Int32) (x3 : Int32) (x4 : Int32) (s0 : Int32) (I : xI) (J : xJ) {t : Int32 × xI × xJ} (h : f_X7_blockBehind_6 x1 x2 x3 x4 s0 I J = some t) (hC : (c_X7_blockBehind Q) t) : Rn L xs (d + 3) 98 36 [some (.ref 43), some (.int x1), some (.int x2), some (.int x3), some (.int x4)] [.int s0] 94 (I, J, xrf) Q := by
  unfold f_X7_blockBehind_6 at h
  cases h
  exact Rn.ret 1 (o := ((some (.int s0)), 94, (I, J, xrf))) (fun f => rfl) hC
theorem p_X7_blockBehind_5 {L : Nat} {xs : Nat → Int32} {d : Nat} {Q : xO → Prop} (x1 : Int32) (x2 : Int32) (x3 : Int32) (x4 : Int32) (s1 : Int32) (s2 : Int32) (I : xI) (J : xJ) {t : Int32 × xI × xJ} (h : f_X7_blockBehind_5 x1 x2 x3 x4 s1 s2 I J = some t) (hC : (c_X7_blockBehind Q) t) : Rn L xs (d + 3) 98 33 [some (.ref 43), some (.int x1), some (.int x2), some (.int x3), some (.int x4)] [.int s2, .int s1, .ref 43] 94 (I, J, xrf) Q := by
  unfold f_X7_blockBehind_5 at h
  obtain ⟨o, ho, h⟩ := Option.bind_eq_some_iff.mp h
  refine Rn.call (d1 := d + 2) (j1 := 92) (ls1 := [some (.ref 43), some (.int s1), some (.int s2), none]) (rest := []) (fun f => rfl) ?_
  refine p_X7_blockOf (d := d + 1) s1 s2 I J (t := o) ho ?_
  exact p_X7_blockBehind_6 x1 x2 x3 x4 o.1 o.2.1 o.2.2 h hC
theorem p_X7_blockBehind_4 {L : Nat} {xs : Nat → Int32} {d : Nat} {Q : xO → Prop} (x1 : Int32) (x2 : Int32) (x3 : Int32) (x4 : Int32) (I : xI) (J : xJ) {t : Int32 × xI × xJ} (h : f_X7_blockBehind_4 x1 x2 x3 x4 I J = some t) (hC : (c_X7_blockBehind Q) t) : Rn L xs (d + 3) 98 26 [some (.ref 43), some (.int x1), some (.int x2), some (.int x3), some (.int x4)] [] 94 (I, J, xrf) Q := by
  unfold f_X7_blockBehind_4 at h
  refine Rn.go 3 (j' := 98) (pc' := 30) (ls' := [some (.ref 43), some (.int x1), some (.int x2), some (.int x3), some (.int x4)]) (st' := [.int x4, .int x1, .ref 43]) (n' := 94) (M' := (I, J, xrf)) (fun f => rfl) ?_
  obtain ⟨o, ho, h⟩ := Option.bind_eq_some_iff.mp h
  refine Rn.call (d1 := d + 2) (j1 := 298) (ls1 := [some (.int x4), none]) (rest := [.int x1, .ref 43]) (fun f => rfl) ?_
  refine p_J6_numberOfTrailingZeros_0f7a4 (d := d + 1) x4 I J (t := o) ho ?_
  exact p_X7_blockBehind_5 x1 x2 x3 x4 x1 o.1 o.2.1 o.2.2 h hC
theorem p_X7_blockBehind_3 {L : Nat} {xs : Nat → Int32} {d : Nat} {Q : xO → Prop} (x1 : Int32) (x2 : Int32) (x3 : Int32) (x4 : Int32) (I : xI) (J : xJ) {t : Int32 × xI × xJ} (h : f_X7_blockBehind_3 x1 x2 x3 x4 I J = some t) (hC : (c_X7_blockBehind Q) t) : Rn L xs (d + 3) 98 21 [some (.ref 43), some (.int x1), some (.int x2), some (.int x3), some (.int x4)] [] 94 (I, J, xrf) Q := by
  unfold f_X7_blockBehind_3 at h
  refine Rn.go 2 (j' := 98) (pc' := 36) (ls' := [some (.ref 43), some (.int x1), some (.int x2), some (.int x3), some (.int x4)]) (st' := [.int ((-2))]) (n' := 94) (M' := (I, J, xrf)) (fun f => rfl) ?_
  exact p_X7_blockBehind_6 x1 x2 x3 x4 ((-2)) I J h hC
theorem p_X7_blockBehind_2 {L : Nat} {xs : Nat → Int32} {d : Nat} {Q : xO → Prop} (x1 : Int32) (x2 : Int32) (x3 : Int32) (s0 : Int32) (I : xI) (J : xJ) {t : Int32 × xI × xJ} (h : f_X7_blockBehind_2 x1 x2 x3 s0 I J = some t) (hC : (c_X7_blockBehind Q) t) : Rn L xs (d + 3) 98 14 [some (.ref 43), some (.int x1), some (.int x2), some (.int x3), none] [.int s0] 94 (I, J, xrf) Q := by
  unfold f_X7_blockBehind_2 at h
  refine Rn.fi 3 (c := s0 = 0) (p1 := 21) (l1 := [some (.ref 43), some (.int x1), some (.int x2), some (.int x3), some (.int s0)]) (s1 := []) (n1 := 94) (M1 := (I, J, xrf)) (p2 := 26) (l2 := [some (.ref 43), some (.int x1), some (.int x2), some (.int x3), some (.int s0)]) (s2 := []) (n2 := 94) (M2 := (I, J, xrf)) (fun f => rfl) (fun hc => ?_) (fun hc => ?_)
  · rw [if_pos hc] at h
    exact p_X7_blockBehind_3 x1 x2 x3 s0 I J h hC
  · rw [if_neg hc] at h
    exact p_X7_blockBehind_4 x1 x2 x3 s0 I J h hC
theorem p_X7_blockBehind_1 {L : Nat} {xs : Nat → Int32} {d : Nat} {Q : xO → Prop} (x1 : Int32) (x2 : Int32) (x3 : Int32) (s1 : Int32) (I : xI) (J : xJ) {t : Int32 × xI × xJ} (h : f_X7_blockBehind_1 x1 x2 x3 s1 I J = some t) (hC : (c_X7_blockBehind Q) t) : Rn L xs (d + 3) 98 10 [some (.ref 43), some (.int x1), some (.int x2), some (.int x3), none] [.int s1, .ref 1] 94 (I, J, xrf) Q := by
  unfold f_X7_blockBehind_1 at h
  refine Rn.go 1 (j' := 98) (pc' := 11) (ls' := [some (.ref 43), some (.int x1), some (.int x2), some (.int x3), none]) (st' := [.int x3, .int s1, .ref 1]) (n' := 94) (M' := (I, J, xrf)) (fun f => rfl) ?_
  obtain ⟨o, ho, h⟩ := Option.bind_eq_some_iff.mp h
  refine Rn.call (d1 := d + 2) (j1 := 61) (ls1 := [some (.ref 1), some (.int s1), some (.int x3), none, none, none]) (rest := []) (fun f => rfl) ?_
  refine p_X5_leadOf (d := d + 0) s1 x3 I J (t := o) ho ?_
  exact p_X7_blockBehind_2 x1 x2 x3 o.1 o.2.1 o.2.2 h hC
theorem p_X7_blockBehind_0 {L : Nat} {xs : Nat → Int32} {d : Nat} {Q : xO → Prop} (x1 : Int32) (x2 : Int32) (x3 : Int32) (I : xI) (J : xJ) {t : Int32 × xI × xJ} (h : f_X7_blockBehind_0 x1 x2 x3 I J = some t) (hC : (c_X7_blockBehind Q) t) : Rn L xs (d + 3) 98 0 [some (.ref 43), some (.int x1), some (.int x2), some (.int x3), none] [] 94 (I, J, xrf) Q := by
  unfold f_X7_blockBehind_0 at h
  refine Rn.go 5 (j' := 98) (pc' := 7) (ls' := [some (.ref 43), some (.int x1), some (.int x2), some (.int x3), none]) (st' := [.int x2, .int x1, .ref 43, .ref 1]) (n' := 94) (M' := (I, J, xrf)) (fun f => rfl) ?_
  obtain ⟨o, ho, h⟩ := Option.bind_eq_some_iff.mp h
  refine Rn.call (d1 := d + 2) (j1 := 97) (ls1 := [some (.ref 43), some (.int x1), some (.int x2), none, none]) (rest := [.ref 1]) (fun f => rfl) ?_
  refine p_X7_statesOf (d := d + 0) x1 x2 I J (t := o) ho ?_
  exact p_X7_blockBehind_1 x1 x2 x3 o.1 o.2.1 o.2.2 h hC
theorem p_X7_blockBehind {L : Nat} {xs : Nat → Int32} {d : Nat} {Q : xO → Prop} (x1 : Int32) (x2 : Int32) (x3 : Int32) (I : xI) (J : xJ) {t : Int32 × xI × xJ} (h : f_X7_blockBehind x1 x2 x3 I J = some t) (hC : Q ((some (.int t.1)), 94, (t.2.1, t.2.2, xrf))) : Rn L xs (d + 3) 98 0 [some (.ref 43), some (.int x1), some (.int x2), some (.int x3), none] [] 94 (I, J, xrf) Q := p_X7_blockBehind_0 x1 x2 x3 I J h hC
/-! X11_part -/
def c_X11_part (Q : xO → Prop) (t : Int32 × xI × xJ) : Prop := Q ((some (.int t.1)), 94, (t.2.1, t.2.2, xrf))
def f_X11_part_7 (x1 : Int32) (x2 : Int32) (x3 : Int32) (x4 : Int32) (I : xI) (J : xJ) : Option (Int32 × xI × xJ) := some ((-1), I, J)
def f_X11_part_9 (x1 : Int32) (x2 : Int32) (x3 : Int32) (x4 : Int32) (s0 : Int32) (I : xI) (J : xJ) : Option (Int32 × xI × xJ) := some (s0, I, J)
def f_X11_part_8 (x1 : Int32) (x2 : Int32) (x3 : Int32) (x4 : Int32) (I : xI) (J : xJ) : Option (Int32 × xI × xJ) := (f_X7_blockBehind x4 x2 x3 I J).bind fun o => f_X11_part_9 x1 x2 x3 x4 o.1 o.2.1 o.2.2
def f_X11_part_6 (x1 : Int32) (x2 : Int32) (x3 : Int32) (x4 : Int32) (s0 : Int32) (I : xI) (J : xJ) : Option (Int32 × xI × xJ) := if s0 = 0 then f_X11_part_7 x1 x2 x3 x4 I J else f_X11_part_8 x1 x2 x3 x4 I J
def f_X11_part_5 (x1 : Int32) (x2 : Int32) (x3 : Int32) (x4 : Int32) (I : xI) (J : xJ) : Option (Int32 × xI × xJ) := (f_X5_hasInput x3 I J).bind fun o => f_X11_part_6 x1 x2 x3 x4 o.1 o.2.1 o.2.2
def f_X11_part_4 (x1 : Int32) (x2 : Int32) (x3 : Int32) (x4 : Int32) (s0 : Int32) (I : xI) (J : xJ) : Option (Int32 × xI × xJ) := if s0 = 0 then f_X11_part_7 x1 x2 x3 x4 I J else f_X11_part_5 x1 x2 x3 x4 I J
def f_X11_part_3 (x1 : Int32) (x2 : Int32) (x3 : Int32) (x4 : Int32) (I : xI) (J : xJ) : Option (Int32 × xI × xJ) := (f_X7_hasBlock x4 x2 I J).bind fun o => f_X11_part_4 x1 x2 x3 x4 o.1 o.2.1 o.2.2
def f_X11_part_2 (x1 : Int32) (x2 : Int32) (x3 : Int32) (s0 : Int32) (I : xI) (J : xJ) : Option (Int32 × xI × xJ) := if s0 = (-1) then f_X11_part_7 x1 x2 x3 s0 I J else f_X11_part_3 x1 x2 x3 s0 I J
def f_X11_part_1 (x1 : Int32) (x2 : Int32) (x3 : Int32) (I : xI) (J : xJ) : Option (Int32 × xI × xJ) := (f_X7_goingIndexOf x1 I J).bind fun o => f_X11_part_2 x1 x2 x3 o.1 o.2.1 o.2.2
def f_X11_part_0 (x1 : Int32) (x2 : Int32) (x3 : Int32) (I : xI) (J : xJ) : Option (Int32 × xI × xJ) := (f_X11_partitionsNow I J).bind fun o => f_X11_part_1 x1 x2 x3 o.2.1 o.2.2
def f_X11_part (x1 : Int32) (x2 : Int32) (x3 : Int32) (I : xI) (J : xJ) : Option (Int32 × xI × xJ) := f_X11_part_0 x1 x2 x3 I J
theorem p_X11_part_7 {L : Nat} {xs : Nat → Int32} {d : Nat} {Q : xO → Prop} (x1 : Int32) (x2 : Int32) (x3 : Int32) (x4 : Int32) (I : xI) (J : xJ) {t : Int32 × xI × xJ} (h : f_X11_part_7 x1 x2 x3 x4 I J = some t) (hC : (c_X11_part Q) t) : Rn L xs (d + 18) 164 40 [some (.ref 0), some (.int x1), some (.int x2), some (.int x3), some (.int x4)] [] 94 (I, J, xrf) Q := by
  unfold f_X11_part_7 at h
  cases h
  exact Rn.ret 2 (o := ((some (.int ((-1)))), 94, (I, J, xrf))) (fun f => rfl) hC
theorem p_X11_part_9 {L : Nat} {xs : Nat → Int32} {d : Nat} {Q : xO → Prop} (x1 : Int32) (x2 : Int32) (x3 : Int32) (x4 : Int32) (s0 : Int32) (I : xI) (J : xJ) {t : Int32 × xI × xJ} (h : f_X11_part_9 x1 x2 x3 x4 s0 I J = some t) (hC : (c_X11_part Q) t) : Rn L xs (d + 18) 164 53 [some (.ref 0), some (.int x1), some (.int x2), some (.int x3), some (.int x4)] [.int s0] 94 (I, J, xrf) Q := by
  unfold f_X11_part_9 at h
  cases h
  exact Rn.ret 1 (o := ((some (.int s0)), 94, (I, J, xrf))) (fun f => rfl) hC
theorem p_X11_part_8 {L : Nat} {xs : Nat → Int32} {d : Nat} {Q : xO → Prop} (x1 : Int32) (x2 : Int32) (x3 : Int32) (x4 : Int32) (I : xI) (J : xJ) {t : Int32 × xI × xJ} (h : f_X11_part_8 x1 x2 x3 x4 I J = some t) (hC : (c_X11_part Q) t) : Rn L xs (d + 18) 164 42 [some (.ref 0), some (.int x1), some (.int x2), some (.int x3), some (.int x4)] [] 94 (I, J, xrf) Q := by
  unfold f_X11_part_8 at h
  refine Rn.go 5 (j' := 164) (pc' := 50) (ls' := [some (.ref 0), some (.int x1), some (.int x2), some (.int x3), some (.int x4)]) (st' := [.int x3, .int x2, .int x4, .ref 43]) (n' := 94) (M' := (I, J, xrf)) (fun f => rfl) ?_
  obtain ⟨o, ho, h⟩ := Option.bind_eq_some_iff.mp h
  refine Rn.call (d1 := d + 17) (j1 := 98) (ls1 := [some (.ref 43), some (.int x4), some (.int x2), some (.int x3), none]) (rest := []) (fun f => rfl) ?_
  refine p_X7_blockBehind (d := d + 14) x4 x2 x3 I J (t := o) ho ?_
  exact p_X11_part_9 x1 x2 x3 x4 o.1 o.2.1 o.2.2 h hC
theorem p_X11_part_6 {L : Nat} {xs : Nat → Int32} {d : Nat} {Q : xO → Prop} (x1 : Int32) (x2 : Int32) (x3 : Int32) (x4 : Int32) (s0 : Int32) (I : xI) (J : xJ) {t : Int32 × xI × xJ} (h : f_X11_part_6 x1 x2 x3 x4 s0 I J = some t) (hC : (c_X11_part Q) t) : Rn L xs (d + 18) 164 37 [some (.ref 0), some (.int x1), some (.int x2), some (.int x3), some (.int x4)] [.int s0] 94 (I, J, xrf) Q := by
  unfold f_X11_part_6 at h
  refine Rn.fi 1 (c := s0 = 0) (p1 := 40) (l1 := [some (.ref 0), some (.int x1), some (.int x2), some (.int x3), some (.int x4)]) (s1 := []) (n1 := 94) (M1 := (I, J, xrf)) (p2 := 42) (l2 := [some (.ref 0), some (.int x1), some (.int x2), some (.int x3), some (.int x4)]) (s2 := []) (n2 := 94) (M2 := (I, J, xrf)) (fun f => rfl) (fun hc => ?_) (fun hc => ?_)
  · rw [if_pos hc] at h
    exact p_X11_part_7 x1 x2 x3 x4 I J h hC
  · rw [if_neg hc] at h
    exact p_X11_part_8 x1 x2 x3 x4 I J h hC
theorem p_X11_part_5 {L : Nat} {xs : Nat → Int32} {d : Nat} {Q : xO → Prop} (x1 : Int32) (x2 : Int32) (x3 : Int32) (x4 : Int32) (I : xI) (J : xJ) {t : Int32 × xI × xJ} (h : f_X11_part_5 x1 x2 x3 x4 I J = some t) (hC : (c_X11_part Q) t) : Rn L xs (d + 18) 164 29 [some (.ref 0), some (.int x1), some (.int x2), some (.int x3), some (.int x4)] [] 94 (I, J, xrf) Q := by
  unfold f_X11_part_5 at h
  refine Rn.go 3 (j' := 164) (pc' := 34) (ls' := [some (.ref 0), some (.int x1), some (.int x2), some (.int x3), some (.int x4)]) (st' := [.int x3, .ref 1]) (n' := 94) (M' := (I, J, xrf)) (fun f => rfl) ?_
  obtain ⟨o, ho, h⟩ := Option.bind_eq_some_iff.mp h
  refine Rn.call (d1 := d + 17) (j1 := 52) (ls1 := [some (.ref 1), some (.int x3)]) (rest := []) (fun f => rfl) ?_
  refine p_X5_hasInput (d := d + 16) x3 I J (t := o) ho ?_
  exact p_X11_part_6 x1 x2 x3 x4 o.1 o.2.1 o.2.2 h hC
theorem p_X11_part_4 {L : Nat} {xs : Nat → Int32} {d : Nat} {Q : xO → Prop} (x1 : Int32) (x2 : Int32) (x3 : Int32) (x4 : Int32) (s0 : Int32) (I : xI) (J : xJ) {t : Int32 × xI × xJ} (h : f_X11_part_4 x1 x2 x3 x4 s0 I J = some t) (hC : (c_X11_part Q) t) : Rn L xs (d + 18) 164 26 [some (.ref 0), some (.int x1), some (.int x2), some (.int x3), some (.int x4)] [.int s0] 94 (I, J, xrf) Q := by
  unfold f_X11_part_4 at h
  refine Rn.fi 1 (c := s0 = 0) (p1 := 40) (l1 := [some (.ref 0), some (.int x1), some (.int x2), some (.int x3), some (.int x4)]) (s1 := []) (n1 := 94) (M1 := (I, J, xrf)) (p2 := 29) (l2 := [some (.ref 0), some (.int x1), some (.int x2), some (.int x3), some (.int x4)]) (s2 := []) (n2 := 94) (M2 := (I, J, xrf)) (fun f => rfl) (fun hc => ?_) (fun hc => ?_)
  · rw [if_pos hc] at h
    exact p_X11_part_7 x1 x2 x3 x4 I J h hC
  · rw [if_neg hc] at h
    exact p_X11_part_5 x1 x2 x3 x4 I J h hC
theorem p_X11_part_3 {L : Nat} {xs : Nat → Int32} {d : Nat} {Q : xO → Prop} (x1 : Int32) (x2 : Int32) (x3 : Int32) (x4 : Int32) (I : xI) (J : xJ) {t : Int32 × xI × xJ} (h : f_X11_part_3 x1 x2 x3 x4 I J = some t) (hC : (c_X11_part Q) t) : Rn L xs (d + 18) 164 16 [some (.ref 0), some (.int x1), some (.int x2), some (.int x3), some (.int x4)] [] 94 (I, J, xrf) Q := by
  unfold f_X11_part_3 at h
  refine Rn.go 4 (j' := 164) (pc' := 23) (ls' := [some (.ref 0), some (.int x1), some (.int x2), some (.int x3), some (.int x4)]) (st' := [.int x2, .int x4, .ref 43]) (n' := 94) (M' := (I, J, xrf)) (fun f => rfl) ?_
  obtain ⟨o, ho, h⟩ := Option.bind_eq_some_iff.mp h
  refine Rn.call (d1 := d + 17) (j1 := 96) (ls1 := [some (.ref 43), some (.int x4), some (.int x2)]) (rest := []) (fun f => rfl) ?_
  refine p_X7_hasBlock (d := d + 16) x4 x2 I J (t := o) ho ?_
  exact p_X11_part_4 x1 x2 x3 x4 o.1 o.2.1 o.2.2 h hC
theorem p_X11_part_2 {L : Nat} {xs : Nat → Int32} {d : Nat} {Q : xO → Prop} (x1 : Int32) (x2 : Int32) (x3 : Int32) (s0 : Int32) (I : xI) (J : xJ) {t : Int32 × xI × xJ} (h : f_X11_part_2 x1 x2 x3 s0 I J = some t) (hC : (c_X11_part Q) t) : Rn L xs (d + 18) 164 8 [some (.ref 0), some (.int x1), some (.int x2), some (.int x3), none] [.int s0] 94 (I, J, xrf) Q := by
  unfold f_X11_part_2 at h
  refine Rn.fi 4 (c := s0 = (-1)) (p1 := 40) (l1 := [some (.ref 0), some (.int x1), some (.int x2), some (.int x3), some (.int s0)]) (s1 := []) (n1 := 94) (M1 := (I, J, xrf)) (p2 := 16) (l2 := [some (.ref 0), some (.int x1), some (.int x2), some (.int x3), some (.int s0)]) (s2 := []) (n2 := 94) (M2 := (I, J, xrf)) (fun f => rfl) (fun hc => ?_) (fun hc => ?_)
  · rw [if_pos hc] at h
    exact p_X11_part_7 x1 x2 x3 s0 I J h hC
  · rw [if_neg hc] at h
    exact p_X11_part_3 x1 x2 x3 s0 I J h hC
theorem p_X11_part_1 {L : Nat} {xs : Nat → Int32} {d : Nat} {Q : xO → Prop} (x1 : Int32) (x2 : Int32) (x3 : Int32) (I : xI) (J : xJ) {t : Int32 × xI × xJ} (h : f_X11_part_1 x1 x2 x3 I J = some t) (hC : (c_X11_part Q) t) : Rn L xs (d + 18) 164 4 [some (.ref 0), some (.int x1), some (.int x2), some (.int x3), none] [.ref 43] 94 (I, J, xrf) Q := by
  unfold f_X11_part_1 at h
  refine Rn.go 1 (j' := 164) (pc' := 5) (ls' := [some (.ref 0), some (.int x1), some (.int x2), some (.int x3), none]) (st' := [.int x1, .ref 43]) (n' := 94) (M' := (I, J, xrf)) (fun f => rfl) ?_
  obtain ⟨o, ho, h⟩ := Option.bind_eq_some_iff.mp h
  refine Rn.call (d1 := d + 17) (j1 := 94) (ls1 := [some (.ref 43), some (.int x1), none]) (rest := []) (fun f => rfl) ?_
  refine p_X7_goingIndexOf (d := d + 14) x1 I J (t := o) ho ?_
  exact p_X11_part_2 x1 x2 x3 o.1 o.2.1 o.2.2 h hC
theorem p_X11_part_0 {L : Nat} {xs : Nat → Int32} {d : Nat} {Q : xO → Prop} (x1 : Int32) (x2 : Int32) (x3 : Int32) (I : xI) (J : xJ) {t : Int32 × xI × xJ} (h : f_X11_part_0 x1 x2 x3 I J = some t) (hC : (c_X11_part Q) t) : Rn L xs (d + 18) 164 0 [some (.ref 0), some (.int x1), some (.int x2), some (.int x3), none] [] 94 (I, J, xrf) Q := by
  unfold f_X11_part_0 at h
  refine Rn.go 1 (j' := 164) (pc' := 1) (ls' := [some (.ref 0), some (.int x1), some (.int x2), some (.int x3), none]) (st' := [.ref 0]) (n' := 94) (M' := (I, J, xrf)) (fun f => rfl) ?_
  obtain ⟨o, ho, h⟩ := Option.bind_eq_some_iff.mp h
  refine Rn.call (d1 := d + 17) (j1 := 179) (ls1 := [some (.ref 0)]) (rest := []) (fun f => rfl) ?_
  refine p_X11_partitionsNow (d := d + 0) I J (t := o) ho ?_
  exact p_X11_part_1 x1 x2 x3 o.2.1 o.2.2 h hC
theorem p_X11_part {L : Nat} {xs : Nat → Int32} {d : Nat} {Q : xO → Prop} (x1 : Int32) (x2 : Int32) (x3 : Int32) (I : xI) (J : xJ) {t : Int32 × xI × xJ} (h : f_X11_part x1 x2 x3 I J = some t) (hC : Q ((some (.int t.1)), 94, (t.2.1, t.2.2, xrf))) : Rn L xs (d + 18) 164 0 [some (.ref 0), some (.int x1), some (.int x2), some (.int x3), none] [] 94 (I, J, xrf) Q := p_X11_part_0 x1 x2 x3 I J h hC
/-! X11_series -/
def c_X11_series (Q : xO → Prop) (t : Int32 × xI × xJ) : Prop := Q ((some (.int t.1)), 94, (t.2.1, t.2.2, xrf))
def f_X11_series_9 (x1 : Int32) (x2 : Int32) (x3 : Int32) (x4 : Int32) (x5 : Int32) (x6 : Int32) (I : xI) (J : xJ) : Option (Int32 × xI × xJ) := some ((-1), I, J)
def f_X11_series_26 (x1 : Int32) (x2 : Int32) (x3 : Int32) (x4 : Int32) (x5 : Int32) (x6 : Int32) (x7 : Int32) (x8 : Int32) (x9 : Int32) (s0 : Int32) (I : xI) (J : xJ) : Option (Int32 × xI × xJ) := some (s0, I, J)
def f_X11_series_25 (x1 : Int32) (x2 : Int32) (x3 : Int32) (x4 : Int32) (x5 : Int32) (x6 : Int32) (x7 : Int32) (x8 : Int32) (x9 : Int32) (s1 : Int32) (s2 : Int32) (I : xI) (J : xJ) : Option (Int32 × xI × xJ) := (f_X7_blockOf s1 s2 I J).bind fun o => f_X11_series_26 x1 x2 x3 x4 x5 x6 x7 x8 x9 o.1 o.2.1 o.2.2
def f_X11_series_24 (x1 : Int32) (x2 : Int32) (x3 : Int32) (x4 : Int32) (x5 : Int32) (x6 : Int32) (x7 : Int32) (x8 : Int32) (x9 : Int32) (I : xI) (J : xJ) : Option (Int32 × xI × xJ) := (f_J6_numberOfTrailingZeros_0f7a4 x9 I J).bind fun o => f_X11_series_25 x1 x2 x3 x4 x5 x6 x7 x8 x9 x7 o.1 o.2.1 o.2.2
def f_X11_series_23 (x1 : Int32) (x2 : Int32) (x3 : Int32) (x4 : Int32) (x5 : Int32) (x6 : Int32) (x7 : Int32) (x8 : Int32) (x9 : Int32) (I : xI) (J : xJ) : Option (Int32 × xI × xJ) := f_X11_series_26 x1 x2 x3 x4 x5 x6 x7 x8 x9 ((-2)) I J
def f_X11_series_22 (x1 : Int32) (x2 : Int32) (x3 : Int32) (x4 : Int32) (x5 : Int32) (x6 : Int32) (x7 : Int32) (x8 : Int32) (s0 : Int32) (I : xI) (J : xJ) : Option (Int32 × xI × xJ) := if s0 = 0 then f_X11_series_23 x1 x2 x3 x4 x5 x6 x7 x8 s0 I J else f_X11_series_24 x1 x2 x3 x4 x5 x6 x7 x8 s0 I J
def f_X11_series_21 (x1 : Int32) (x2 : Int32) (x3 : Int32) (x4 : Int32) (x5 : Int32) (x6 : Int32) (x7 : Int32) (x8 : Int32) (I : xI) (J : xJ) : Option (Int32 × xI × xJ) := (f_X5_leadOf x8 x4 I J).bind fun o => f_X11_series_22 x1 x2 x3 x4 x5 x6 x7 x8 o.1 o.2.1 o.2.2
def f_X11_series_20 (x1 : Int32) (x2 : Int32) (x3 : Int32) (x4 : Int32) (x5 : Int32) (x6 : Int32) (x7 : Int32) (x8 : Int32) (I : xI) (J : xJ) : Option (Int32 × xI × xJ) := f_X11_series_22 x1 x2 x3 x4 x5 x6 x7 x8 0 I J
def f_X11_series_19 (x1 : Int32) (x2 : Int32) (x3 : Int32) (x4 : Int32) (x5 : Int32) (x6 : Int32) (x7 : Int32) (s0 : Int32) (s1 : Int32) (I : xI) (J : xJ) : Option (Int32 × xI × xJ) := if (s0 &&& s1) = 0 then f_X11_series_20 x1 x2 x3 x4 x5 x6 x7 ((s0 &&& s1)) I J else f_X11_series_21 x1 x2 x3 x4 x5 x6 x7 ((s0 &&& s1)) I J
def f_X11_series_18 (x1 : Int32) (x2 : Int32) (x3 : Int32) (x4 : Int32) (x5 : Int32) (x6 : Int32) (x7 : Int32) (s0 : Int32) (I : xI) (J : xJ) : Option (Int32 × xI × xJ) := (f_X7_statesOf x7 x3 I J).bind fun o => f_X11_series_19 x1 x2 x3 x4 x5 x6 x7 s0 o.1 o.2.1 o.2.2
def f_X11_series_17 (x1 : Int32) (x2 : Int32) (x3 : Int32) (x4 : Int32) (x5 : Int32) (x6 : Int32) (x7 : Int32) (I : xI) (J : xJ) : Option (Int32 × xI × xJ) := (f_X7_statesOf x6 x2 I J).bind fun o => f_X11_series_18 x1 x2 x3 x4 x5 x6 x7 o.1 o.2.1 o.2.2
def f_X11_series_16 (x1 : Int32) (x2 : Int32) (x3 : Int32) (x4 : Int32) (x5 : Int32) (x6 : Int32) (x7 : Int32) (s0 : Int32) (I : xI) (J : xJ) : Option (Int32 × xI × xJ) := some (s0, I, J)
def f_X11_series_15 (x1 : Int32) (x2 : Int32) (x3 : Int32) (x4 : Int32) (x5 : Int32) (x6 : Int32) (x7 : Int32) (I : xI) (J : xJ) : Option (Int32 × xI × xJ) := (f_X7_blockBehind x6 x2 x4 I J).bind fun o => f_X11_series_16 x1 x2 x3 x4 x5 x6 x7 o.1 o.2.1 o.2.2
def f_X11_series_14 (x1 : Int32) (x2 : Int32) (x3 : Int32) (x4 : Int32) (x5 : Int32) (x6 : Int32) (x7 : Int32) (I : xI) (J : xJ) : Option (Int32 × xI × xJ) := if x5 = 0 then f_X11_series_15 x1 x2 x3 x4 x5 x6 x7 I J else f_X11_series_17 x1 x2 x3 x4 x5 x6 x7 I J
def f_X11_series_13 (x1 : Int32) (x2 : Int32) (x3 : Int32) (x4 : Int32) (x5 : Int32) (x6 : Int32) (x7 : Int32) (I : xI) (J : xJ) : Option (Int32 × xI × xJ) := some ((-1), I, J)
def f_X11_series_12 (x1 : Int32) (x2 : Int32) (x3 : Int32) (x4 : Int32) (x5 : Int32) (x6 : Int32) (x7 : Int32) (s0 : Int32) (I : xI) (J : xJ) : Option (Int32 × xI × xJ) := if s0 = 0 then f_X11_series_13 x1 x2 x3 x4 x5 x6 x7 I J else f_X11_series_14 x1 x2 x3 x4 x5 x6 x7 I J
def f_X11_series_11 (x1 : Int32) (x2 : Int32) (x3 : Int32) (x4 : Int32) (x5 : Int32) (x6 : Int32) (s0 : Int32) (I : xI) (J : xJ) : Option (Int32 × xI × xJ) := (f_X7_hasBlock s0 x3 I J).bind fun o => f_X11_series_12 x1 x2 x3 x4 x5 x6 s0 o.1 o.2.1 o.2.2
def f_X11_series_10 (x1 : Int32) (x2 : Int32) (x3 : Int32) (x4 : Int32) (x5 : Int32) (x6 : Int32) (I : xI) (J : xJ) : Option (Int32 × xI × xJ) := (f_X7_tailOf x6 I J).bind fun o => f_X11_series_11 x1 x2 x3 x4 x5 x6 o.1 o.2.1 o.2.2
def f_X11_series_8 (x1 : Int32) (x2 : Int32) (x3 : Int32) (x4 : Int32) (x5 : Int32) (x6 : Int32) (I : xI) (J : xJ) : Option (Int32 × xI × xJ) := if x5 ≤ 1 then f_X11_series_10 x1 x2 x3 x4 x5 x6 I J else f_X11_series_9 x1 x2 x3 x4 x5 x6 I J
def f_X11_series_7 (x1 : Int32) (x2 : Int32) (x3 : Int32) (x4 : Int32) (x5 : Int32) (x6 : Int32) (I : xI) (J : xJ) : Option (Int32 × xI × xJ) := if x5 < 0 then f_X11_series_9 x1 x2 x3 x4 x5 x6 I J else f_X11_series_8 x1 x2 x3 x4 x5 x6 I J
def f_X11_series_6 (x1 : Int32) (x2 : Int32) (x3 : Int32) (x4 : Int32) (x5 : Int32) (x6 : Int32) (s0 : Int32) (I : xI) (J : xJ) : Option (Int32 × xI × xJ) := if s0 = 0 then f_X11_series_9 x1 x2 x3 x4 x5 x6 I J else f_X11_series_7 x1 x2 x3 x4 x5 x6 I J
def f_X11_series_5 (x1 : Int32) (x2 : Int32) (x3 : Int32) (x4 : Int32) (x5 : Int32) (x6 : Int32) (I : xI) (J : xJ) : Option (Int32 × xI × xJ) := (f_X5_hasInput x4 I J).bind fun o => f_X11_series_6 x1 x2 x3 x4 x5 x6 o.1 o.2.1 o.2.2
def f_X11_series_4 (x1 : Int32) (x2 : Int32) (x3 : Int32) (x4 : Int32) (x5 : Int32) (x6 : Int32) (s0 : Int32) (I : xI) (J : xJ) : Option (Int32 × xI × xJ) := if s0 = 0 then f_X11_series_9 x1 x2 x3 x4 x5 x6 I J else f_X11_series_5 x1 x2 x3 x4 x5 x6 I J
def f_X11_series_3 (x1 : Int32) (x2 : Int32) (x3 : Int32) (x4 : Int32) (x5 : Int32) (x6 : Int32) (I : xI) (J : xJ) : Option (Int32 × xI × xJ) := (f_X7_hasBlock x6 x2 I J).bind fun o => f_X11_series_4 x1 x2 x3 x4 x5 x6 o.1 o.2.1 o.2.2
def f_X11_series_2 (x1 : Int32) (x2 : Int32) (x3 : Int32) (x4 : Int32) (x5 : Int32) (s0 : Int32) (I : xI) (J : xJ) : Option (Int32 × xI × xJ) := if s0 = (-1) then f_X11_series_9 x1 x2 x3 x4 x5 s0 I J else f_X11_series_3 x1 x2 x3 x4 x5 s0 I J
def f_X11_series_1 (x1 : Int32) (x2 : Int32) (x3 : Int32) (x4 : Int32) (x5 : Int32) (I : xI) (J : xJ) : Option (Int32 × xI × xJ) := (f_X7_goingIndexOf x1 I J).bind fun o => f_X11_series_2 x1 x2 x3 x4 x5 o.1 o.2.1 o.2.2
def f_X11_series_0 (x1 : Int32) (x2 : Int32) (x3 : Int32) (x4 : Int32) (x5 : Int32) (I : xI) (J : xJ) : Option (Int32 × xI × xJ) := (f_X11_partitionsNow I J).bind fun o => f_X11_series_1 x1 x2 x3 x4 x5 o.2.1 o.2.2
def f_X11_series (x1 : Int32) (x2 : Int32) (x3 : Int32) (x4 : Int32) (x5 : Int32) (I : xI) (J : xJ) : Option (Int32 × xI × xJ) := f_X11_series_0 x1 x2 x3 x4 x5 I J
theorem p_X11_series_9 {L : Nat} {xs : Nat → Int32} {d : Nat} {Q : xO → Prop} (x1 : Int32) (x2 : Int32) (x3 : Int32) (x4 : Int32) (x5 : Int32) (x6 : Int32) (I : xI) (J : xJ) {t : Int32 × xI × xJ} (h : f_X11_series_9 x1 x2 x3 x4 x5 x6 I J = some t) (hC : (c_X11_series Q) t) : Rn L xs (d + 18) 165 52 [some (.ref 0), some (.int x1), some (.int x2), some (.int x3), some (.int x4), some (.int x5), some (.int x6), none, none, none] [] 94 (I, J, xrf) Q := by
  unfold f_X11_series_9 at h
  cases h
  exact Rn.ret 2 (o := ((some (.int ((-1)))), 94, (I, J, xrf))) (fun f => rfl) hC
theorem p_X11_series_26 {L : Nat} {xs : Nat → Int32} {d : Nat} {Q : xO → Prop} (x1 : Int32) (x2 : Int32) (x3 : Int32) (x4 : Int32) (x5 : Int32) (x6 : Int32) (x7 : Int32) (x8 : Int32) (x9 : Int32) (s0 : Int32) (I : xI) (J : xJ) {t : Int32 × xI × xJ} (h : f_X11_series_26 x1 x2 x3 x4 x5 x6 x7 x8 x9 s0 I J = some t) (hC : (c_X11_series Q) t) : Rn L xs (d + 18) 165 167 [some (.ref 0), some (.int x1), some (.int x2), some (.int x3), some (.int x4), some (.int x5), some (.int x6), some (.int x7), some (.int x8), some (.int x9)] [.int s0] 94 (I, J, xrf) Q := by
  unfold f_X11_series_26 at h
  cases h
  exact Rn.ret 1 (o := ((some (.int s0)), 94, (I, J, xrf))) (fun f => rfl) hC
theorem p_X11_series_25 {L : Nat} {xs : Nat → Int32} {d : Nat} {Q : xO → Prop} (x1 : Int32) (x2 : Int32) (x3 : Int32) (x4 : Int32) (x5 : Int32) (x6 : Int32) (x7 : Int32) (x8 : Int32) (x9 : Int32) (s1 : Int32) (s2 : Int32) (I : xI) (J : xJ) {t : Int32 × xI × xJ} (h : f_X11_series_25 x1 x2 x3 x4 x5 x6 x7 x8 x9 s1 s2 I J = some t) (hC : (c_X11_series Q) t) : Rn L xs (d + 18) 165 164 [some (.ref 0), some (.int x1), some (.int x2), some (.int x3), some (.int x4), some (.int x5), some (.int x6), some (.int x7), some (.int x8), some (.int x9)] [.int s2, .int s1, .ref 43] 94 (I, J, xrf) Q := by
  unfold f_X11_series_25 at h
  obtain ⟨o, ho, h⟩ := Option.bind_eq_some_iff.mp h
  refine Rn.call (d1 := d + 17) (j1 := 92) (ls1 := [some (.ref 43), some (.int s1), some (.int s2), none]) (rest := []) (fun f => rfl) ?_
  refine p_X7_blockOf (d := d + 16) s1 s2 I J (t := o) ho ?_
  exact p_X11_series_26 x1 x2 x3 x4 x5 x6 x7 x8 x9 o.1 o.2.1 o.2.2 h hC
theorem p_X11_series_24 {L : Nat} {xs : Nat → Int32} {d : Nat} {Q : xO → Prop} (x1 : Int32) (x2 : Int32) (x3 : Int32) (x4 : Int32) (x5 : Int32) (x6 : Int32) (x7 : Int32) (x8 : Int32) (x9 : Int32) (I : xI) (J : xJ) {t : Int32 × xI × xJ} (h : f_X11_series_24 x1 x2 x3 x4 x5 x6 x7 x8 x9 I J = some t) (hC : (c_X11_series Q) t) : Rn L xs (d + 18) 165 153 [some (.ref 0), some (.int x1), some (.int x2), some (.int x3), some (.int x4), some (.int x5), some (.int x6), some (.int x7), some (.int x8), some (.int x9)] [] 94 (I, J, xrf) Q := by
  unfold f_X11_series_24 at h
  refine Rn.go 4 (j' := 165) (pc' := 161) (ls' := [some (.ref 0), some (.int x1), some (.int x2), some (.int x3), some (.int x4), some (.int x5), some (.int x6), some (.int x7), some (.int x8), some (.int x9)]) (st' := [.int x9, .int x7, .ref 43]) (n' := 94) (M' := (I, J, xrf)) (fun f => rfl) ?_
  obtain ⟨o, ho, h⟩ := Option.bind_eq_some_iff.mp h
  refine Rn.call (d1 := d + 17) (j1 := 298) (ls1 := [some (.int x9), none]) (rest := [.int x7, .ref 43]) (fun f => rfl) ?_
  refine p_J6_numberOfTrailingZeros_0f7a4 (d := d + 16) x9 I J (t := o) ho ?_
  exact p_X11_series_25 x1 x2 x3 x4 x5 x6 x7 x8 x9 x7 o.1 o.2.1 o.2.2 h hC
theorem p_X11_series_23 {L : Nat} {xs : Nat → Int32} {d : Nat} {Q : xO → Prop} (x1 : Int32) (x2 : Int32) (x3 : Int32) (x4 : Int32) (x5 : Int32) (x6 : Int32) (x7 : Int32) (x8 : Int32) (x9 : Int32) (I : xI) (J : xJ) {t : Int32 × xI × xJ} (h : f_X11_series_23 x1 x2 x3 x4 x5 x6 x7 x8 x9 I J = some t) (hC : (c_X11_series Q) t) : Rn L xs (d + 18) 165 148 [some (.ref 0), some (.int x1), some (.int x2), some (.int x3), some (.int x4), some (.int x5), some (.int x6), some (.int x7), some (.int x8), some (.int x9)] [] 94 (I, J, xrf) Q := by
  unfold f_X11_series_23 at h
  refine Rn.go 2 (j' := 165) (pc' := 167) (ls' := [some (.ref 0), some (.int x1), some (.int x2), some (.int x3), some (.int x4), some (.int x5), some (.int x6), some (.int x7), some (.int x8), some (.int x9)]) (st' := [.int ((-2))]) (n' := 94) (M' := (I, J, xrf)) (fun f => rfl) ?_
  exact p_X11_series_26 x1 x2 x3 x4 x5 x6 x7 x8 x9 ((-2)) I J h hC
theorem p_X11_series_22 {L : Nat} {xs : Nat → Int32} {d : Nat} {Q : xO → Prop} (x1 : Int32) (x2 : Int32) (x3 : Int32) (x4 : Int32) (x5 : Int32) (x6 : Int32) (x7 : Int32) (x8 : Int32) (s0 : Int32) (I : xI) (J : xJ) {t : Int32 × xI × xJ} (h : f_X11_series_22 x1 x2 x3 x4 x5 x6 x7 x8 s0 I J = some t) (hC : (c_X11_series Q) t) : Rn L xs (d + 18) 165 141 [some (.ref 0), some (.int x1), some (.int x2), some (.int x3), some (.int x4), some (.int x5), some (.int x6), some (.int x7), some (.int x8), none] [.int s0] 94 (I, J, xrf) Q := by
  unfold f_X11_series_22 at h
  refine Rn.fi 3 (c := s0 = 0) (p1 := 148) (l1 := [some (.ref 0), some (.int x1), some (.int x2), some (.int x3), some (.int x4), some (.int x5), some (.int x6), some (.int x7), some (.int x8), some (.int s0)]) (s1 := []) (n1 := 94) (M1 := (I, J, xrf)) (p2 := 153) (l2 := [some (.ref 0), some (.int x1), some (.int x2), some (.int x3), some (.int x4), some (.int x5), some (.int x6), some (.int x7), some (.int x8), some (.int s0)]) (s2 := []) (n2 := 94) (M2 := (I, J, xrf)) (fun f => rfl) (fun hc => ?_) (fun hc => ?_)
  · rw [if_pos hc] at h
    exact p_X11_series_23 x1 x2 x3 x4 x5 x6 x7 x8 s0 I J h hC
  · rw [if_neg hc] at h
    exact p_X11_series_24 x1 x2 x3 x4 x5 x6 x7 x8 s0 I J h hC
theorem p_X11_series_21 {L : Nat} {xs : Nat → Int32} {d : Nat} {Q : xO → Prop} (x1 : Int32) (x2 : Int32) (x3 : Int32) (x4 : Int32) (x5 : Int32) (x6 : Int32) (x7 : Int32) (x8 : Int32) (I : xI) (J : xJ) {t : Int32 × xI × xJ} (h : f_X11_series_21 x1 x2 x3 x4 x5 x6 x7 x8 I J = some t) (hC : (c_X11_series Q) t) : Rn L xs (d + 18) 165 130 [some (.ref 0), some (.int x1), some (.int x2), some (.int x3), some (.int x4), some (.int x5), some (.int x6), some (.int x7), some (.int x8), none] [] 94 (I, J, xrf) Q := by
  unfold f_X11_series_21 at h
  refine Rn.go 4 (j' := 165) (pc' := 138) (ls' := [some (.ref 0), some (.int x1), some (.int x2), some (.int x3), some (.int x4), some (.int x5), some (.int x6), some (.int x7), some (.int x8), none]) (st' := [.int x4, .int x8, .ref 1]) (n' := 94) (M' := (I, J, xrf)) (fun f => rfl) ?_
  obtain ⟨o, ho, h⟩ := Option.bind_eq_some_iff.mp h
  refine Rn.call (d1 := d + 17) (j1 := 61) (ls1 := [some (.ref 1), some (.int x8), some (.int x4), none, none, none]) (rest := []) (fun f => rfl) ?_
  refine p_X5_leadOf (d := d + 15) x8 x4 I J (t := o) ho ?_
  exact p_X11_series_22 x1 x2 x3 x4 x5 x6 x7 x8 o.1 o.2.1 o.2.2 h hC
theorem p_X11_series_20 {L : Nat} {xs : Nat → Int32} {d : Nat} {Q : xO → Prop} (x1 : Int32) (x2 : Int32) (x3 : Int32) (x4 : Int32) (x5 : Int32) (x6 : Int32) (x7 : Int32) (x8 : Int32) (I : xI) (J : xJ) {t : Int32 × xI × xJ} (h : f_X11_series_20 x1 x2 x3 x4 x5 x6 x7 x8 I J = some t) (hC : (c_X11_series Q) t) : Rn L xs (d + 18) 165 126 [some (.ref 0), some (.int x1), some (.int x2), some (.int x3), some (.int x4), some (.int x5), some (.int x6), some (.int x7), some (.int x8), none] [] 94 (I, J, xrf) Q := by
  unfold f_X11_series_20 at h
  refine Rn.go 2 (j' := 165) (pc' := 141) (ls' := [some (.ref 0), some (.int x1), some (.int x2), some (.int x3), some (.int x4), some (.int x5), some (.int x6), some (.int x7), some (.int x8), none]) (st' := [.int 0]) (n' := 94) (M' := (I, J, xrf)) (fun f => rfl) ?_
  exact p_X11_series_22 x1 x2 x3 x4 x5 x6 x7 x8 0 I J h hC
theorem p_X11_series_19 {L : Nat} {xs : Nat → Int32} {d : Nat} {Q : xO → Prop} (x1 : Int32) (x2 : Int32) (x3 : Int32) (x4 : Int32) (x5 : Int32) (x6 : Int32) (x7 : Int32) (s0 : Int32) (s1 : Int32) (I : xI) (J : xJ) {t : Int32 × xI × xJ} (h : f_X11_series_19 x1 x2 x3 x4 x5 x6 x7 s0 s1 I J = some t) (hC : (c_X11_series Q) t) : Rn L xs (d + 18) 165 118 [some (.ref 0), some (.int x1), some (.int x2), some (.int x3), some (.int x4), some (.int x5), some (.int x6), some (.int x7), none, none] [.int s1, .int s0] 94 (I, J, xrf) Q := by
  unfold f_X11_series_19 at h
  refine Rn.fi 4 (c := (s0 &&& s1) = 0) (p1 := 126) (l1 := [some (.ref 0), some (.int x1), some (.int x2), some (.int x3), some (.int x4), some (.int x5), some (.int x6), some (.int x7), some (.int ((s0 &&& s1))), none]) (s1 := []) (n1 := 94) (M1 := (I, J, xrf)) (p2 := 130) (l2 := [some (.ref 0), some (.int x1), some (.int x2), some (.int x3), some (.int x4), some (.int x5), some (.int x6), some (.int x7), some (.int ((s0 &&& s1))), none]) (s2 := []) (n2 := 94) (M2 := (I, J, xrf)) (fun f => rfl) (fun hc => ?_) (fun hc => ?_)
  · rw [if_pos hc] at h
    exact p_X11_series_20 x1 x2 x3 x4 x5 x6 x7 ((s0 &&& s1)) I J h hC
  · rw [if_neg hc] at h
    exact p_X11_series_21 x1 x2 x3 x4 x5 x6 x7 ((s0 &&& s1)) I J h hC
theorem p_X11_series_18 {L : Nat} {xs : Nat → Int32} {d : Nat} {Q : xO → Prop} (x1 : Int32) (x2 : Int32) (x3 : Int32) (x4 : Int32) (x5 : Int32) (x6 : Int32) (x7 : Int32) (s0 : Int32) (I : xI) (J : xJ) {t : Int32 × xI × xJ} (h : f_X11_series_18 x1 x2 x3 x4 x5 x6 x7 s0 I J = some t) (hC : (c_X11_series Q) t) : Rn L xs (d + 18) 165 108 [some (.ref 0), some (.int x1), some (.int x2), some (.int x3), some (.int x4), some (.int x5), some (.int x6), some (.int x7), none, none] [.int s0] 94 (I, J, xrf) Q := by
  unfold f_X11_series_18 at h
  refine Rn.go 4 (j' := 165) (pc' := 115) (ls' := [some (.ref 0), some (.int x1), some (.int x2), some (.int x3), some (.int x4), some (.int x5), some (.int x6), some (.int x7), none, none]) (st' := [.int x3, .int x7, .ref 43, .int s0]) (n' := 94) (M' := (I, J, xrf)) (fun f => rfl) ?_
  obtain ⟨o, ho, h⟩ := Option.bind_eq_some_iff.mp h
  refine Rn.call (d1 := d + 17) (j1 := 97) (ls1 := [some (.ref 43), some (.int x7), some (.int x3), none, none]) (rest := [.int s0]) (fun f => rfl) ?_
  refine p_X7_statesOf (d := d + 15) x7 x3 I J (t := o) ho ?_
  exact p_X11_series_19 x1 x2 x3 x4 x5 x6 x7 s0 o.1 o.2.1 o.2.2 h hC
theorem p_X11_series_17 {L : Nat} {xs : Nat → Int32} {d : Nat} {Q : xO → Prop} (x1 : Int32) (x2 : Int32) (x3 : Int32) (x4 : Int32) (x5 : Int32) (x6 : Int32) (x7 : Int32) (I : xI) (J : xJ) {t : Int32 × xI × xJ} (h : f_X11_series_17 x1 x2 x3 x4 x5 x6 x7 I J = some t) (hC : (c_X11_series Q) t) : Rn L xs (d + 18) 165 98 [some (.ref 0), some (.int x1), some (.int x2), some (.int x3), some (.int x4), some (.int x5), some (.int x6), some (.int x7), none, none] [] 94 (I, J, xrf) Q := by
  unfold f_X11_series_17 at h
  refine Rn.go 4 (j' := 165) (pc' := 105) (ls' := [some (.ref 0), some (.int x1), some (.int x2), some (.int x3), some (.int x4), some (.int x5), some (.int x6), some (.int x7), none, none]) (st' := [.int x2, .int x6, .ref 43]) (n' := 94) (M' := (I, J, xrf)) (fun f => rfl) ?_
  obtain ⟨o, ho, h⟩ := Option.bind_eq_some_iff.mp h
  refine Rn.call (d1 := d + 17) (j1 := 97) (ls1 := [some (.ref 43), some (.int x6), some (.int x2), none, none]) (rest := []) (fun f => rfl) ?_
  refine p_X7_statesOf (d := d + 15) x6 x2 I J (t := o) ho ?_
  exact p_X11_series_18 x1 x2 x3 x4 x5 x6 x7 o.1 o.2.1 o.2.2 h hC
theorem p_X11_series_16 {L : Nat} {xs : Nat → Int32} {d : Nat} {Q : xO → Prop} (x1 : Int32) (x2 : Int32) (x3 : Int32) (x4 : Int32) (x5 : Int32) (x6 : Int32) (x7 : Int32) (s0 : Int32) (I : xI) (J : xJ) {t : Int32 × xI × xJ} (h : f_X11_series_16 x1 x2 x3 x4 x5 x6 x7 s0 I J = some t) (hC : (c_X11_series Q) t) : Rn L xs (d + 18) 165 97 [some (.ref 0), some (.int x1), some (.int x2), some (.int x3), some (.int x4), some (.int x5), some (.int x6), some (.int x7), none, none] [.int s0] 94 (I, J, xrf) Q := by
  unfold f_X11_series_16 at h
  cases h
  exact Rn.ret 1 (o := ((some (.int s0)), 94, (I, J, xrf))) (fun f => rfl) hC
theorem p_X11_series_15 {L : Nat} {xs : Nat → Int32} {d : Nat} {Q : xO → Prop} (x1 : Int32) (x2 : Int32) (x3 : Int32) (x4 : Int32) (x5 : Int32) (x6 : Int32) (x7 : Int32) (I : xI) (J : xJ) {t : Int32 × xI × xJ} (h : f_X11_series_15 x1 x2 x3 x4 x5 x6 x7 I J = some t) (hC : (c_X11_series Q) t) : Rn L xs (d + 18) 165 85 [some (.ref 0), some (.int x1), some (.int x2), some (.int x3), some (.int x4), some (.int x5), some (.int x6), some (.int x7), none, none] [] 94 (I, J, xrf) Q := by
  unfold f_X11_series_15 at h
  refine Rn.go 5 (j' := 165) (pc' := 94) (ls' := [some (.ref 0), some (.int x1), some (.int x2), some (.int x3), some (.int x4), some (.int x5), some (.int x6), some (.int x7), none, none]) (st' := [.int x4, .int x2, .int x6, .ref 43]) (n' := 94) (M' := (I, J, xrf)) (fun f => rfl) ?_
  obtain ⟨o, ho, h⟩ := Option.bind_eq_some_iff.mp h
  refine Rn.call (d1 := d + 17) (j1 := 98) (ls1 := [some (.ref 43), some (.int x6), some (.int x2), some (.int x4), none]) (rest := []) (fun f => rfl) ?_
  refine p_X7_blockBehind (d := d + 14) x6 x2 x4 I J (t := o) ho ?_
  exact p_X11_series_16 x1 x2 x3 x4 x5 x6 x7 o.1 o.2.1 o.2.2 h hC
theorem p_X11_series_14 {L : Nat} {xs : Nat → Int32} {d : Nat} {Q : xO → Prop} (x1 : Int32) (x2 : Int32) (x3 : Int32) (x4 : Int32) (x5 : Int32) (x6 : Int32) (x7 : Int32) (I : xI) (J : xJ) {t : Int32 × xI × xJ} (h : f_X11_series_14 x1 x2 x3 x4 x5 x6 x7 I J = some t) (hC : (c_X11_series Q) t) : Rn L xs (d + 18) 165 80 [some (.ref 0), some (.int x1), some (.int x2), some (.int x3), some (.int x4), some (.int x5), some (.int x6), some (.int x7), none, none] [] 94 (I, J, xrf) Q := by
  unfold f_X11_series_14 at h
  refine Rn.fi 2 (c := x5 = 0) (p1 := 85) (l1 := [some (.ref 0), some (.int x1), some (.int x2), some (.int x3), some (.int x4), some (.int x5), some (.int x6), some (.int x7), none, none]) (s1 := []) (n1 := 94) (M1 := (I, J, xrf)) (p2 := 98) (l2 := [some (.ref 0), some (.int x1), some (.int x2), some (.int x3), some (.int x4), some (.int x5), some (.int x6), some (.int x7), none, none]) (s2 := []) (n2 := 94) (M2 := (I, J, xrf)) (fun f => rfl) (fun hc => ?_) (fun hc => ?_)
  · rw [if_pos hc] at h
    exact p_X11_series_15 x1 x2 x3 x4 x5 x6 x7 I J h hC
  · rw [if_neg hc] at h
    exact p_X11_series_17 x1 x2 x3 x4 x5 x6 x7 I J h hC
theorem p_X11_series_13 {L : Nat} {xs : Nat → Int32} {d : Nat} {Q : xO → Prop} (x1 : Int32) (x2 : Int32) (x3 : Int32) (x4 : Int32) (x5 : Int32) (x6 : Int32) (x7 : Int32) (I : xI) (J : xJ) {t : Int32 × xI × xJ} (h : f_X11_series_13 x1 x2 x3 x4 x5 x6 x7 I J = some t) (hC : (c_X11_series Q) t) : Rn L xs (d + 18) 165 78 [some (.ref 0), some (.int x1), some (.int x2), some (.int x3), some (.int x4), some (.int x5), some (.int x6), some (.int x7), none, none] [] 94 (I, J, xrf) Q := by
  unfold f_X11_series_13 at h
  cases h
  exact Rn.ret 2 (o := ((some (.int ((-1)))), 94, (I, J, xrf))) (fun f => rfl) hC
theorem p_X11_series_12 {L : Nat} {xs : Nat → Int32} {d : Nat} {Q : xO → Prop} (x1 : Int32) (x2 : Int32) (x3 : Int32) (x4 : Int32) (x5 : Int32) (x6 : Int32) (x7 : Int32) (s0 : Int32) (I : xI) (J : xJ) {t : Int32 × xI × xJ} (h : f_X11_series_12 x1 x2 x3 x4 x5 x6 x7 s0 I J = some t) (hC : (c_X11_series Q) t) : Rn L xs (d + 18) 165 75 [some (.ref 0), some (.int x1), some (.int x2), some (.int x3), some (.int x4), some (.int x5), some (.int x6), some (.int x7), none, none] [.int s0] 94 (I, J, xrf) Q := by
  unfold f_X11_series_12 at h
  refine Rn.fi 1 (c := s0 = 0) (p1 := 78) (l1 := [some (.ref 0), some (.int x1), some (.int x2), some (.int x3), some (.int x4), some (.int x5), some (.int x6), some (.int x7), none, none]) (s1 := []) (n1 := 94) (M1 := (I, J, xrf)) (p2 := 80) (l2 := [some (.ref 0), some (.int x1), some (.int x2), some (.int x3), some (.int x4), some (.int x5), some (.int x6), some (.int x7), none, none]) (s2 := []) (n2 := 94) (M2 := (I, J, xrf)) (fun f => rfl) (fun hc => ?_) (fun hc => ?_)
  · rw [if_pos hc] at h
    exact p_X11_series_13 x1 x2 x3 x4 x5 x6 x7 I J h hC
  · rw [if_neg hc] at h
    exact p_X11_series_14 x1 x2 x3 x4 x5 x6 x7 I J h hC
theorem p_X11_series_11 {L : Nat} {xs : Nat → Int32} {d : Nat} {Q : xO → Prop} (x1 : Int32) (x2 : Int32) (x3 : Int32) (x4 : Int32) (x5 : Int32) (x6 : Int32) (s0 : Int32) (I : xI) (J : xJ) {t : Int32 × xI × xJ} (h : f_X11_series_11 x1 x2 x3 x4 x5 x6 s0 I J = some t) (hC : (c_X11_series Q) t) : Rn L xs (d + 18) 165 63 [some (.ref 0), some (.int x1), some (.int x2), some (.int x3), some (.int x4), some (.int x5), some (.int x6), none, none, none] [.int s0] 94 (I, J, xrf) Q := by
  unfold f_X11_series_11 at h
  refine Rn.go 5 (j' := 165) (pc' := 72) (ls' := [some (.ref 0), some (.int x1), some (.int x2), some (.int x3), some (.int x4), some (.int x5), some (.int x6), some (.int s0), none, none]) (st' := [.int x3, .int s0, .ref 43]) (n' := 94) (M' := (I, J, xrf)) (fun f => rfl) ?_
  obtain ⟨o, ho, h⟩ := Option.bind_eq_some_iff.mp h
  refine Rn.call (d1 := d + 17) (j1 := 96) (ls1 := [some (.ref 43), some (.int s0), some (.int x3)]) (rest := []) (fun f => rfl) ?_
  refine p_X7_hasBlock (d := d + 16) s0 x3 I J (t := o) ho ?_
  exact p_X11_series_12 x1 x2 x3 x4 x5 x6 s0 o.1 o.2.1 o.2.2 h hC
theorem p_X11_series_10 {L : Nat} {xs : Nat → Int32} {d : Nat} {Q : xO → Prop} (x1 : Int32) (x2 : Int32) (x3 : Int32) (x4 : Int32) (x5 : Int32) (x6 : Int32) (I : xI) (J : xJ) {t : Int32 × xI × xJ} (h : f_X11_series_10 x1 x2 x3 x4 x5 x6 I J = some t) (hC : (c_X11_series Q) t) : Rn L xs (d + 18) 165 54 [some (.ref 0), some (.int x1), some (.int x2), some (.int x3), some (.int x4), some (.int x5), some (.int x6), none, none, none] [] 94 (I, J, xrf) Q := by
  unfold f_X11_series_10 at h
  refine Rn.go 3 (j' := 165) (pc' := 60) (ls' := [some (.ref 0), some (.int x1), some (.int x2), some (.int x3), some (.int x4), some (.int x5), some (.int x6), none, none, none]) (st' := [.int x6, .ref 43]) (n' := 94) (M' := (I, J, xrf)) (fun f => rfl) ?_
  obtain ⟨o, ho, h⟩ := Option.bind_eq_some_iff.mp h
  refine Rn.call (d1 := d + 17) (j1 := 101) (ls1 := [some (.ref 43), some (.int x6), none, none, none]) (rest := []) (fun f => rfl) ?_
  refine p_X7_tailOf (d := d + 16) x6 I J (t := o) ho ?_
  exact p_X11_series_11 x1 x2 x3 x4 x5 x6 o.1 o.2.1 o.2.2 h hC
theorem p_X11_series_8 {L : Nat} {xs : Nat → Int32} {d : Nat} {Q : xO → Prop} (x1 : Int32) (x2 : Int32) (x3 : Int32) (x4 : Int32) (x5 : Int32) (x6 : Int32) (I : xI) (J : xJ) {t : Int32 × xI × xJ} (h : f_X11_series_8 x1 x2 x3 x4 x5 x6 I J = some t) (hC : (c_X11_series Q) t) : Rn L xs (d + 18) 165 46 [some (.ref 0), some (.int x1), some (.int x2), some (.int x3), some (.int x4), some (.int x5), some (.int x6), none, none, none] [] 94 (I, J, xrf) Q := by
  unfold f_X11_series_8 at h
  refine Rn.fi 3 (c := x5 ≤ 1) (p1 := 54) (l1 := [some (.ref 0), some (.int x1), some (.int x2), some (.int x3), some (.int x4), some (.int x5), some (.int x6), none, none, none]) (s1 := []) (n1 := 94) (M1 := (I, J, xrf)) (p2 := 52) (l2 := [some (.ref 0), some (.int x1), some (.int x2), some (.int x3), some (.int x4), some (.int x5), some (.int x6), none, none, none]) (s2 := []) (n2 := 94) (M2 := (I, J, xrf)) (fun f => rfl) (fun hc => ?_) (fun hc => ?_)
  · rw [if_pos hc] at h
    exact p_X11_series_10 x1 x2 x3 x4 x5 x6 I J h hC
  · rw [if_neg hc] at h
    exact p_X11_series_9 x1 x2 x3 x4 x5 x6 I J h hC
theorem p_X11_series_7 {L : Nat} {xs : Nat → Int32} {d : Nat} {Q : xO → Prop} (x1 : Int32) (x2 : Int32) (x3 : Int32) (x4 : Int32) (x5 : Int32) (x6 : Int32) (I : xI) (J : xJ) {t : Int32 × xI × xJ} (h : f_X11_series_7 x1 x2 x3 x4 x5 x6 I J = some t) (hC : (c_X11_series Q) t) : Rn L xs (d + 18) 165 41 [some (.ref 0), some (.int x1), some (.int x2), some (.int x3), some (.int x4), some (.int x5), some (.int x6), none, none, none] [] 94 (I, J, xrf) Q := by
  unfold f_X11_series_7 at h
  refine Rn.fi 2 (c := x5 < 0) (p1 := 52) (l1 := [some (.ref 0), some (.int x1), some (.int x2), some (.int x3), some (.int x4), some (.int x5), some (.int x6), none, none, none]) (s1 := []) (n1 := 94) (M1 := (I, J, xrf)) (p2 := 46) (l2 := [some (.ref 0), some (.int x1), some (.int x2), some (.int x3), some (.int x4), some (.int x5), some (.int x6), none, none, none]) (s2 := []) (n2 := 94) (M2 := (I, J, xrf)) (fun f => rfl) (fun hc => ?_) (fun hc => ?_)
  · rw [if_pos hc] at h
    exact p_X11_series_9 x1 x2 x3 x4 x5 x6 I J h hC
  · rw [if_neg hc] at h
    exact p_X11_series_8 x1 x2 x3 x4 x5 x6 I J h hC
theorem p_X11_series_6 {L : Nat} {xs : Nat → Int32} {d : Nat} {Q : xO → Prop} (x1 : Int32) (x2 : Int32) (x3 : Int32) (x4 : Int32) (x5 : Int32) (x6 : Int32) (s0 : Int32) (I : xI) (J : xJ) {t : Int32 × xI × xJ} (h : f_X11_series_6 x1 x2 x3 x4 x5 x6 s0 I J = some t) (hC : (c_X11_series Q) t) : Rn L xs (d + 18) 165 38 [some (.ref 0), some (.int x1), some (.int x2), some (.int x3), some (.int x4), some (.int x5), some (.int x6), none, none, none] [.int s0] 94 (I, J, xrf) Q := by
  unfold f_X11_series_6 at h
  refine Rn.fi 1 (c := s0 = 0) (p1 := 52) (l1 := [some (.ref 0), some (.int x1), some (.int x2), some (.int x3), some (.int x4), some (.int x5), some (.int x6), none, none, none]) (s1 := []) (n1 := 94) (M1 := (I, J, xrf)) (p2 := 41) (l2 := [some (.ref 0), some (.int x1), some (.int x2), some (.int x3), some (.int x4), some (.int x5), some (.int x6), none, none, none]) (s2 := []) (n2 := 94) (M2 := (I, J, xrf)) (fun f => rfl) (fun hc => ?_) (fun hc => ?_)
  · rw [if_pos hc] at h
    exact p_X11_series_9 x1 x2 x3 x4 x5 x6 I J h hC
  · rw [if_neg hc] at h
    exact p_X11_series_7 x1 x2 x3 x4 x5 x6 I J h hC
theorem p_X11_series_5 {L : Nat} {xs : Nat → Int32} {d : Nat} {Q : xO → Prop} (x1 : Int32) (x2 : Int32) (x3 : Int32) (x4 : Int32) (x5 : Int32) (x6 : Int32) (I : xI) (J : xJ) {t : Int32 × xI × xJ} (h : f_X11_series_5 x1 x2 x3 x4 x5 x6 I J = some t) (hC : (c_X11_series Q) t) : Rn L xs (d + 18) 165 29 [some (.ref 0), some (.int x1), some (.int x2), some (.int x3), some (.int x4), some (.int x5), some (.int x6), none, none, none] [] 94 (I, J, xrf) Q := by
  unfold f_X11_series_5 at h
  refine Rn.go 3 (j' := 165) (pc' := 35) (ls' := [some (.ref 0), some (.int x1), some (.int x2), some (.int x3), some (.int x4), some (.int x5), some (.int x6), none, none, none]) (st' := [.int x4, .ref 1]) (n' := 94) (M' := (I, J, xrf)) (fun f => rfl) ?_
  obtain ⟨o, ho, h⟩ := Option.bind_eq_some_iff.mp h
  refine Rn.call (d1 := d + 17) (j1 := 52) (ls1 := [some (.ref 1), some (.int x4)]) (rest := []) (fun f => rfl) ?_
  refine p_X5_hasInput (d := d + 16) x4 I J (t := o) ho ?_
  exact p_X11_series_6 x1 x2 x3 x4 x5 x6 o.1 o.2.1 o.2.2 h hC
theorem p_X11_series_4 {L : Nat} {xs : Nat → Int32} {d : Nat} {Q : xO → Prop} (x1 : Int32) (x2 : Int32) (x3 : Int32) (x4 : Int32) (x5 : Int32) (x6 : Int32) (s0 : Int32) (I : xI) (J : xJ) {t : Int32 × xI × xJ} (h : f_X11_series_4 x1 x2 x3 x4 x5 x6 s0 I J = some t) (hC : (c_X11_series Q) t) : Rn L xs (d + 18) 165 26 [some (.ref 0), some (.int x1), some (.int x2), some (.int x3), some (.int x4), some (.int x5), some (.int x6), none, none, none] [.int s0] 94 (I, J, xrf) Q := by
  unfold f_X11_series_4 at h
  refine Rn.fi 1 (c := s0 = 0) (p1 := 52) (l1 := [some (.ref 0), some (.int x1), some (.int x2), some (.int x3), some (.int x4), some (.int x5), some (.int x6), none, none, none]) (s1 := []) (n1 := 94) (M1 := (I, J, xrf)) (p2 := 29) (l2 := [some (.ref 0), some (.int x1), some (.int x2), some (.int x3), some (.int x4), some (.int x5), some (.int x6), none, none, none]) (s2 := []) (n2 := 94) (M2 := (I, J, xrf)) (fun f => rfl) (fun hc => ?_) (fun hc => ?_)
  · rw [if_pos hc] at h
    exact p_X11_series_9 x1 x2 x3 x4 x5 x6 I J h hC
  · rw [if_neg hc] at h
    exact p_X11_series_5 x1 x2 x3 x4 x5 x6 I J h hC
theorem p_X11_series_3 {L : Nat} {xs : Nat → Int32} {d : Nat} {Q : xO → Prop} (x1 : Int32) (x2 : Int32) (x3 : Int32) (x4 : Int32) (x5 : Int32) (x6 : Int32) (I : xI) (J : xJ) {t : Int32 × xI × xJ} (h : f_X11_series_3 x1 x2 x3 x4 x5 x6 I J = some t) (hC : (c_X11_series Q) t) : Rn L xs (d + 18) 165 16 [some (.ref 0), some (.int x1), some (.int x2), some (.int x3), some (.int x4), some (.int x5), some (.int x6), none, none, none] [] 94 (I, J, xrf) Q := by
  unfold f_X11_series_3 at h
  refine Rn.go 4 (j' := 165) (pc' := 23) (ls' := [some (.ref 0), some (.int x1), some (.int x2), some (.int x3), some (.int x4), some (.int x5), some (.int x6), none, none, none]) (st' := [.int x2, .int x6, .ref 43]) (n' := 94) (M' := (I, J, xrf)) (fun f => rfl) ?_
  obtain ⟨o, ho, h⟩ := Option.bind_eq_some_iff.mp h
  refine Rn.call (d1 := d + 17) (j1 := 96) (ls1 := [some (.ref 43), some (.int x6), some (.int x2)]) (rest := []) (fun f => rfl) ?_
  refine p_X7_hasBlock (d := d + 16) x6 x2 I J (t := o) ho ?_
  exact p_X11_series_4 x1 x2 x3 x4 x5 x6 o.1 o.2.1 o.2.2 h hC
theorem p_X11_series_2 {L : Nat} {xs : Nat → Int32} {d : Nat} {Q : xO → Prop} (x1 : Int32) (x2 : Int32) (x3 : Int32) (x4 : Int32) (x5 : Int32) (s0 : Int32) (I : xI) (J : xJ) {t : Int32 × xI × xJ} (h : f_X11_series_2 x1 x2 x3 x4 x5 s0 I J = some t) (hC : (c_X11_series Q) t) : Rn L xs (d + 18) 165 8 [some (.ref 0), some (.int x1), some (.int x2), some (.int x3), some (.int x4), some (.int x5), none, none, none, none] [.int s0] 94 (I, J, xrf) Q := by
  unfold f_X11_series_2 at h
  refine Rn.fi 4 (c := s0 = (-1)) (p1 := 52) (l1 := [some (.ref 0), some (.int x1), some (.int x2), some (.int x3), some (.int x4), some (.int x5), some (.int s0), none, none, none]) (s1 := []) (n1 := 94) (M1 := (I, J, xrf)) (p2 := 16) (l2 := [some (.ref 0), some (.int x1), some (.int x2), some (.int x3), some (.int x4), some (.int x5), some (.int s0), none, none, none]) (s2 := []) (n2 := 94) (M2 := (I, J, xrf)) (fun f => rfl) (fun hc => ?_) (fun hc => ?_)
  · rw [if_pos hc] at h
    exact p_X11_series_9 x1 x2 x3 x4 x5 s0 I J h hC
  · rw [if_neg hc] at h
    exact p_X11_series_3 x1 x2 x3 x4 x5 s0 I J h hC
theorem p_X11_series_1 {L : Nat} {xs : Nat → Int32} {d : Nat} {Q : xO → Prop} (x1 : Int32) (x2 : Int32) (x3 : Int32) (x4 : Int32) (x5 : Int32) (I : xI) (J : xJ) {t : Int32 × xI × xJ} (h : f_X11_series_1 x1 x2 x3 x4 x5 I J = some t) (hC : (c_X11_series Q) t) : Rn L xs (d + 18) 165 4 [some (.ref 0), some (.int x1), some (.int x2), some (.int x3), some (.int x4), some (.int x5), none, none, none, none] [.ref 43] 94 (I, J, xrf) Q := by
  unfold f_X11_series_1 at h
  refine Rn.go 1 (j' := 165) (pc' := 5) (ls' := [some (.ref 0), some (.int x1), some (.int x2), some (.int x3), some (.int x4), some (.int x5), none, none, none, none]) (st' := [.int x1, .ref 43]) (n' := 94) (M' := (I, J, xrf)) (fun f => rfl) ?_
  obtain ⟨o, ho, h⟩ := Option.bind_eq_some_iff.mp h
  refine Rn.call (d1 := d + 17) (j1 := 94) (ls1 := [some (.ref 43), some (.int x1), none]) (rest := []) (fun f => rfl) ?_
  refine p_X7_goingIndexOf (d := d + 14) x1 I J (t := o) ho ?_
  exact p_X11_series_2 x1 x2 x3 x4 x5 o.1 o.2.1 o.2.2 h hC
theorem p_X11_series_0 {L : Nat} {xs : Nat → Int32} {d : Nat} {Q : xO → Prop} (x1 : Int32) (x2 : Int32) (x3 : Int32) (x4 : Int32) (x5 : Int32) (I : xI) (J : xJ) {t : Int32 × xI × xJ} (h : f_X11_series_0 x1 x2 x3 x4 x5 I J = some t) (hC : (c_X11_series Q) t) : Rn L xs (d + 18) 165 0 [some (.ref 0), some (.int x1), some (.int x2), some (.int x3), some (.int x4), some (.int x5), none, none, none, none] [] 94 (I, J, xrf) Q := by
  unfold f_X11_series_0 at h
  refine Rn.go 1 (j' := 165) (pc' := 1) (ls' := [some (.ref 0), some (.int x1), some (.int x2), some (.int x3), some (.int x4), some (.int x5), none, none, none, none]) (st' := [.ref 0]) (n' := 94) (M' := (I, J, xrf)) (fun f => rfl) ?_
  obtain ⟨o, ho, h⟩ := Option.bind_eq_some_iff.mp h
  refine Rn.call (d1 := d + 17) (j1 := 179) (ls1 := [some (.ref 0)]) (rest := []) (fun f => rfl) ?_
  refine p_X11_partitionsNow (d := d + 0) I J (t := o) ho ?_
  exact p_X11_series_1 x1 x2 x3 x4 x5 o.2.1 o.2.2 h hC
theorem p_X11_series {L : Nat} {xs : Nat → Int32} {d : Nat} {Q : xO → Prop} (x1 : Int32) (x2 : Int32) (x3 : Int32) (x4 : Int32) (x5 : Int32) (I : xI) (J : xJ) {t : Int32 × xI × xJ} (h : f_X11_series x1 x2 x3 x4 x5 I J = some t) (hC : Q ((some (.int t.1)), 94, (t.2.1, t.2.2, xrf))) : Rn L xs (d + 18) 165 0 [some (.ref 0), some (.int x1), some (.int x2), some (.int x3), some (.int x4), some (.int x5), none, none, none, none] [] 94 (I, J, xrf) Q := p_X11_series_0 x1 x2 x3 x4 x5 I J h hC
/-! X11_beside -/
def c_X11_beside (Q : xO → Prop) (t : Int32 × xI × xJ) : Prop := Q ((some (.int t.1)), 94, (t.2.1, t.2.2, xrf))
def c_X11_beside_13 (L : Nat) (xs : Nat → Int32) (d : Nat) (Q : xO → Prop) (t : (Int32 × Int32 × Int32 × Int32 × Int32 × Int32 × Int32 × Int32 × Int32 × Int32 × (Option Value) × (Option Value) × (Option Value) × xI × xJ) ⊕ (Int32 × xI × xJ)) : Prop := match t with
  | .inl s => Rn L xs (d + 18) 166 86 [some (.ref 0), some (.int s.1), some (.int s.2.1), some (.int s.2.2.1), some (.int s.2.2.2.1), some (.int s.2.2.2.2.1), some (.int s.2.2.2.2.2.1), some (.int s.2.2.2.2.2.2.1), some (.int s.2.2.2.2.2.2.2.1), some (.int s.2.2.2.2.2.2.2.2.1), some (.int s.2.2.2.2.2.2.2.2.2.1), s.2.2.2.2.2.2.2.2.2.2.1, s.2.2.2.2.2.2.2.2.2.2.2.1, s.2.2.2.2.2.2.2.2.2.2.2.2.1] [] 94 (s.2.2.2.2.2.2.2.2.2.2.2.2.2.1, s.2.2.2.2.2.2.2.2.2.2.2.2.2.2, xrf) Q
  | .inr t => (c_X11_beside Q) t
def f_X11_beside_9 (x1 : Int32) (x2 : Int32) (x3 : Int32) (x4 : Int32) (x5 : Int32) (x6 : Int32) (x7 : Int32) (I : xI) (J : xJ) : Option (Int32 × xI × xJ) := some ((-1), I, J)
def f_X11_beside_23 (x1 : Int32) (x2 : Int32) (x3 : Int32) (x4 : Int32) (x5 : Int32) (x6 : Int32) (x7 : Int32) (x8 : Int32) (x9 : Int32) (x10 : Int32) (z11 : Option Value) (z12 : Option Value) (z13 : Option Value) (s0 : Int32) (s1 : Int32) (I : xI) (J : xJ) : Option (Int32 × xI × xJ) := some ((s0 &&& s1), I, J)
def f_X11_beside_22 (x1 : Int32) (x2 : Int32) (x3 : Int32) (x4 : Int32) (x5 : Int32) (x6 : Int32) (x7 : Int32) (x8 : Int32) (x9 : Int32) (x10 : Int32) (z11 : Option Value) (z12 : Option Value) (z13 : Option Value) (s0 : Int32) (I : xI) (J : xJ) : Option (Int32 × xI × xJ) := (f_X7_statesOf x7 x9 I J).bind fun o => f_X11_beside_23 x1 x2 x3 x4 x5 x6 x7 x8 x9 x10 z11 z12 z13 s0 o.1 o.2.1 o.2.2
def f_X11_beside_21 (x1 : Int32) (x2 : Int32) (x3 : Int32) (x4 : Int32) (x5 : Int32) (x6 : Int32) (x7 : Int32) (x8 : Int32) (x9 : Int32) (x10 : Int32) (z11 : Option Value) (z12 : Option Value) (z13 : Option Value) (I : xI) (J : xJ) : Option (Int32 × xI × xJ) := (f_X7_statesOf x6 x8 I J).bind fun o => f_X11_beside_22 x1 x2 x3 x4 x5 x6 x7 x8 x9 x10 z11 z12 z13 o.1 o.2.1 o.2.2
def f_X11_beside_20 (x1 : Int32) (x2 : Int32) (x3 : Int32) (x4 : Int32) (x5 : Int32) (x6 : Int32) (x7 : Int32) (x8 : Int32) (x9 : Int32) (x10 : Int32) (x11 : Int32) (x12 : Int32) (x13 : Int32) (I : xI) (J : xJ) : Option ((Int32 × Int32 × Int32 × Int32 × Int32 × Int32 × Int32 × Int32 × Int32 × Int32 × (Option Value) × (Option Value) × (Option Value) × xI × xJ) ⊕ (Int32 × xI × xJ)) := some (.inl (x1, x2, x3, x4, x5, x6, x7, x12, x13, ((x10 + 1)), (some (.int x11)), (some (.int x12)), (some (.int x13)), I, J))
def f_X11_beside_19 (x1 : Int32) (x2 : Int32) (x3 : Int32) (x4 : Int32) (x5 : Int32) (x6 : Int32) (x7 : Int32) (x8 : Int32) (x9 : Int32) (x10 : Int32) (x11 : Int32) (x12 : Int32) (x13 : Int32) (I : xI) (J : xJ) : Option (Int32 × xI × xJ) := f_X11_beside_21 x1 x2 x3 x4 x5 x6 x7 x8 x9 x10 (some (.int x11)) (some (.int x12)) (some (.int x13)) I J
def f_X11_beside_18 (x1 : Int32) (x2 : Int32) (x3 : Int32) (x4 : Int32) (x5 : Int32) (x6 : Int32) (x7 : Int32) (x8 : Int32) (x9 : Int32) (x10 : Int32) (x11 : Int32) (x12 : Int32) (x13 : Int32) (I : xI) (J : xJ) : Option ((Int32 × Int32 × Int32 × Int32 × Int32 × Int32 × Int32 × Int32 × Int32 × Int32 × (Option Value) × (Option Value) × (Option Value) × xI × xJ) ⊕ (Int32 × xI × xJ)) := if x13 = (-2) then ((f_X11_beside_19 x1 x2 x3 x4 x5 x6 x7 x8 x9 x10 x11 x12 x13 I J)).map .inr else f_X11_beside_20 x1 x2 x3 x4 x5 x6 x7 x8 x9 x10 x11 x12 x13 I J
def f_X11_beside_17 (x1 : Int32) (x2 : Int32) (x3 : Int32) (x4 : Int32) (x5 : Int32) (x6 : Int32) (x7 : Int32) (x8 : Int32) (x9 : Int32) (x10 : Int32) (x11 : Int32) (x12 : Int32) (z13 : Option Value) (s0 : Int32) (I : xI) (J : xJ) : Option ((Int32 × Int32 × Int32 × Int32 × Int32 × Int32 × Int32 × Int32 × Int32 × Int32 × (Option Value) × (Option Value) × (Option Value) × xI × xJ) ⊕ (Int32 × xI × xJ)) := if x12 = (-2) then ((f_X11_beside_21 x1 x2 x3 x4 x5 x6 x7 x8 x9 x10 (some (.int x11)) (some (.int x12)) (some (.int s0)) I J)).map .inr else f_X11_beside_18 x1 x2 x3 x4 x5 x6 x7 x8 x9 x10 x11 x12 s0 I J
def f_X11_beside_16 (x1 : Int32) (x2 : Int32) (x3 : Int32) (x4 : Int32) (x5 : Int32) (x6 : Int32) (x7 : Int32) (x8 : Int32) (x9 : Int32) (x10 : Int32) (x11 : Int32) (z12 : Option Value) (z13 : Option Value) (s0 : Int32) (I : xI) (J : xJ) : Option ((Int32 × Int32 × Int32 × Int32 × Int32 × Int32 × Int32 × Int32 × Int32 × Int32 × (Option Value) × (Option Value) × (Option Value) × xI × xJ) ⊕ (Int32 × xI × xJ)) := (f_X7_blockBehind x7 x9 x11 I J).bind fun o => f_X11_beside_17 x1 x2 x3 x4 x5 x6 x7 x8 x9 x10 x11 s0 z13 o.1 o.2.1 o.2.2
def f_X11_beside_15 (x1 : Int32) (x2 : Int32) (x3 : Int32) (x4 : Int32) (x5 : Int32) (x6 : Int32) (x7 : Int32) (x8 : Int32) (x9 : Int32) (x10 : Int32) (z11 : Option Value) (z12 : Option Value) (z13 : Option Value) (s0 : Int32) (I : xI) (J : xJ) : Option ((Int32 × Int32 × Int32 × Int32 × Int32 × Int32 × Int32 × Int32 × Int32 × Int32 × (Option Value) × (Option Value) × (Option Value) × xI × xJ) ⊕ (Int32 × xI × xJ)) := (f_X7_blockBehind x6 x8 s0 I J).bind fun o => f_X11_beside_16 x1 x2 x3 x4 x5 x6 x7 x8 x9 x10 s0 z12 z13 o.1 o.2.1 o.2.2
def f_X11_beside_14 (x1 : Int32) (x2 : Int32) (x3 : Int32) (x4 : Int32) (x5 : Int32) (x6 : Int32) (x7 : Int32) (x8 : Int32) (x9 : Int32) (x10 : Int32) (z11 : Option Value) (z12 : Option Value) (z13 : Option Value) (I : xI) (J : xJ) : Option ((Int32 × Int32 × Int32 × Int32 × Int32 × Int32 × Int32 × Int32 × Int32 × Int32 × (Option Value) × (Option Value) × (Option Value) × xI × xJ) ⊕ (Int32 × xI × xJ)) := (f_X5_digitOf x4 x5 x10 I J).bind fun o => f_X11_beside_15 x1 x2 x3 x4 x5 x6 x7 x8 x9 x10 z11 z12 z13 o.1 o.2.1 o.2.2
def b_X11_beside_13 (x1 : Int32) (x2 : Int32) (x3 : Int32) (x4 : Int32) (x5 : Int32) (x6 : Int32) (x7 : Int32) (x8 : Int32) (x9 : Int32) (x10 : Int32) (z11 : Option Value) (z12 : Option Value) (z13 : Option Value) (I : xI) (J : xJ) : Option ((Int32 × Int32 × Int32 × Int32 × Int32 × Int32 × Int32 × Int32 × Int32 × Int32 × (Option Value) × (Option Value) × (Option Value) × xI × xJ) ⊕ (Int32 × xI × xJ)) := if x5 ≤ x10 then ((f_X11_beside_21 x1 x2 x3 x4 x5 x6 x7 x8 x9 x10 z11 z12 z13 I J)).map .inr else f_X11_beside_14 x1 x2 x3 x4 x5 x6 x7 x8 x9 x10 z11 z12 z13 I J
def f_X11_beside_13 (x1 : Int32) (x2 : Int32) (x3 : Int32) (x4 : Int32) (x5 : Int32) (x6 : Int32) (x7 : Int32) (x8 : Int32) (x9 : Int32) (x10 : Int32) (z11 : Option Value) (z12 : Option Value) (z13 : Option Value) (I : xI) (J : xJ) : Option (Int32 × xI × xJ) := xloop (fun s : Int32 × Int32 × Int32 × Int32 × Int32 × Int32 × Int32 × Int32 × Int32 × Int32 × (Option Value) × (Option Value) × (Option Value) × xI × xJ => b_X11_beside_13 s.1 s.2.1 s.2.2.1 s.2.2.2.1 s.2.2.2.2.1 s.2.2.2.2.2.1 s.2.2.2.2.2.2.1 s.2.2.2.2.2.2.2.1 s.2.2.2.2.2.2.2.2.1 s.2.2.2.2.2.2.2.2.2.1 s.2.2.2.2.2.2.2.2.2.2.1 s.2.2.2.2.2.2.2.2.2.2.2.1 s.2.2.2.2.2.2.2.2.2.2.2.2.1 s.2.2.2.2.2.2.2.2.2.2.2.2.2.1 s.2.2.2.2.2.2.2.2.2.2.2.2.2.2) 5000 (x1, x2, x3, x4, x5, x6, x7, x8, x9, x10, z11, z12, z13, I, J)
def f_X11_beside_12 (x1 : Int32) (x2 : Int32) (x3 : Int32) (x4 : Int32) (x5 : Int32) (x6 : Int32) (x7 : Int32) (x8 : Int32) (s0 : Int32) (I : xI) (J : xJ) : Option (Int32 × xI × xJ) := f_X11_beside_13 x1 x2 x3 x4 x5 x6 x7 x8 s0 0 none none none I J
def f_X11_beside_11 (x1 : Int32) (x2 : Int32) (x3 : Int32) (x4 : Int32) (x5 : Int32) (x6 : Int32) (x7 : Int32) (s0 : Int32) (I : xI) (J : xJ) : Option (Int32 × xI × xJ) := (f_X7_blockOf x7 x3 I J).bind fun o => f_X11_beside_12 x1 x2 x3 x4 x5 x6 x7 s0 o.1 o.2.1 o.2.2
def f_X11_beside_10 (x1 : Int32) (x2 : Int32) (x3 : Int32) (x4 : Int32) (x5 : Int32) (x6 : Int32) (x7 : Int32) (I : xI) (J : xJ) : Option (Int32 × xI × xJ) := (f_X7_blockOf x6 x3 I J).bind fun o => f_X11_beside_11 x1 x2 x3 x4 x5 x6 x7 o.1 o.2.1 o.2.2
def f_X11_beside_8 (x1 : Int32) (x2 : Int32) (x3 : Int32) (x4 : Int32) (x5 : Int32) (x6 : Int32) (x7 : Int32) (s0 : Int32) (I : xI) (J : xJ) : Option (Int32 × xI × xJ) := if s0 = 0 then f_X11_beside_9 x1 x2 x3 x4 x5 x6 x7 I J else f_X11_beside_10 x1 x2 x3 x4 x5 x6 x7 I J
def f_X11_beside_7 (x1 : Int32) (x2 : Int32) (x3 : Int32) (x4 : Int32) (x5 : Int32) (x6 : Int32) (x7 : Int32) (I : xI) (J : xJ) : Option (Int32 × xI × xJ) := (f_X5_hasWord x4 x5 I J).bind fun o => f_X11_beside_8 x1 x2 x3 x4 x5 x6 x7 o.1 o.2.1 o.2.2
def f_X11_beside_6 (x1 : Int32) (x2 : Int32) (x3 : Int32) (x4 : Int32) (x5 : Int32) (x6 : Int32) (x7 : Int32) (s0 : Int32) (I : xI) (J : xJ) : Option (Int32 × xI × xJ) := if s0 = 0 then f_X11_beside_9 x1 x2 x3 x4 x5 x6 x7 I J else f_X11_beside_7 x1 x2 x3 x4 x5 x6 x7 I J
def f_X11_beside_5 (x1 : Int32) (x2 : Int32) (x3 : Int32) (x4 : Int32) (x5 : Int32) (x6 : Int32) (x7 : Int32) (I : xI) (J : xJ) : Option (Int32 × xI × xJ) := (f_X5_hasState x3 I J).bind fun o => f_X11_beside_6 x1 x2 x3 x4 x5 x6 x7 o.1 o.2.1 o.2.2
def f_X11_beside_4 (x1 : Int32) (x2 : Int32) (x3 : Int32) (x4 : Int32) (x5 : Int32) (x6 : Int32) (x7 : Int32) (I : xI) (J : xJ) : Option (Int32 × xI × xJ) := if x7 = (-1) then f_X11_beside_9 x1 x2 x3 x4 x5 x6 x7 I J else f_X11_beside_5 x1 x2 x3 x4 x5 x6 x7 I J
def f_X11_beside_3 (x1 : Int32) (x2 : Int32) (x3 : Int32) (x4 : Int32) (x5 : Int32) (x6 : Int32) (s0 : Int32) (I : xI) (J : xJ) : Option (Int32 × xI × xJ) := if x6 = (-1) then f_X11_beside_9 x1 x2 x3 x4 x5 x6 s0 I J else f_X11_beside_4 x1 x2 x3 x4 x5 x6 s0 I J
def f_X11_beside_2 (x1 : Int32) (x2 : Int32) (x3 : Int32) (x4 : Int32) (x5 : Int32) (s0 : Int32) (I : xI) (J : xJ) : Option (Int32 × xI × xJ) := (f_X7_goingIndexOf x2 I J).bind fun o => f_X11_beside_3 x1 x2 x3 x4 x5 s0 o.1 o.2.1 o.2.2
def f_X11_beside_1 (x1 : Int32) (x2 : Int32) (x3 : Int32) (x4 : Int32) (x5 : Int32) (I : xI) (J : xJ) : Option (Int32 × xI × xJ) := (f_X7_goingIndexOf x1 I J).bind fun o => f_X11_beside_2 x1 x2 x3 x4 x5 o.1 o.2.1 o.2.2
def f_X11_beside_0 (x1 : Int32) (x2 : Int32) (x3 : Int32) (x4 : Int32) (x5 : Int32) (I : xI) (J : xJ) : Option (Int32 × xI × xJ) := (f_X11_partitionsNow I J).bind fun o => f_X11_beside_1 x1 x2 x3 x4 x5 o.2.1 o.2.2
def f_X11_beside (x1 : Int32) (x2 : Int32) (x3 : Int32) (x4 : Int32) (x5 : Int32) (I : xI) (J : xJ) : Option (Int32 × xI × xJ) := f_X11_beside_0 x1 x2 x3 x4 x5 I J
theorem p_X11_beside_9 {L : Nat} {xs : Nat → Int32} {d : Nat} {Q : xO → Prop} (x1 : Int32) (x2 : Int32) (x3 : Int32) (x4 : Int32) (x5 : Int32) (x6 : Int32) (x7 : Int32) (I : xI) (J : xJ) {t : Int32 × xI × xJ} (h : f_X11_beside_9 x1 x2 x3 x4 x5 x6 x7 I J = some t) (hC : (c_X11_beside Q) t) : Rn L xs (d + 18) 166 57 [some (.ref 0), some (.int x1), some (.int x2), some (.int x3), some (.int x4), some (.int x5), some (.int x6), some (.int x7), none, none, none, none, none, none] [] 94 (I, J, xrf) Q := by
  unfold f_X11_beside_9 at h
  cases h
  exact Rn.ret 2 (o := ((some (.int ((-1)))), 94, (I, J, xrf))) (fun f => rfl) hC
theorem p_X11_beside_23 {L : Nat} {xs : Nat → Int32} {d : Nat} {Q : xO → Prop} (x1 : Int32) (x2 : Int32) (x3 : Int32) (x4 : Int32) (x5 : Int32) (x6 : Int32) (x7 : Int32) (x8 : Int32) (x9 : Int32) (x10 : Int32) (z11 : Option Value) (z12 : Option Value) (z13 : Option Value) (s0 : Int32) (s1 : Int32) (I : xI) (J : xJ) {t : Int32 × xI × xJ} (h : f_X11_beside_23 x1 x2 x3 x4 x5 x6 x7 x8 x9 x10 z11 z12 z13 s0 s1 I J = some t) (hC : (c_X11_beside Q) t) : Rn L xs (d + 18) 166 187 [some (.ref 0), some (.int x1), some (.int x2), some (.int x3), some (.int x4), some (.int x5), some (.int x6), some (.int x7), some (.int x8), some (.int x9), some (.int x10), z11, z12, z13] [.int s1, .int s0] 94 (I, J, xrf) Q := by
  unfold f_X11_beside_23 at h
  cases h
  exact Rn.ret 2 (o := ((some (.int ((s0 &&& s1)))), 94, (I, J, xrf))) (fun f => rfl) hC
theorem p_X11_beside_22 {L : Nat} {xs : Nat → Int32} {d : Nat} {Q : xO → Prop} (x1 : Int32) (x2 : Int32) (x3 : Int32) (x4 : Int32) (x5 : Int32) (x6 : Int32) (x7 : Int32) (x8 : Int32) (x9 : Int32) (x10 : Int32) (z11 : Option Value) (z12 : Option Value) (z13 : Option Value) (s0 : Int32) (I : xI) (J : xJ) {t : Int32 × xI × xJ} (h : f_X11_beside_22 x1 x2 x3 x4 x5 x6 x7 x8 x9 x10 z11 z12 z13 s0 I J = some t) (hC : (c_X11_beside Q) t) : Rn L xs (d + 18) 166 176 [some (.ref 0), some (.int x1), some (.int x2), some (.int x3), some (.int x4), some (.int x5), some (.int x6), some (.int x7), some (.int x8), some (.int x9), some (.int x10), z11, z12, z13] [.int s0] 94 (I, J, xrf) Q := by
  unfold f_X11_beside_22 at h
  refine Rn.go 4 (j' := 166) (pc' := 184) (ls' := [some (.ref 0), some (.int x1), some (.int x2), some (.int x3), some (.int x4), some (.int x5), some (.int x6), some (.int x7), some (.int x8), some (.int x9), some (.int x10), z11, z12, z13]) (st' := [.int x9, .int x7, .ref 43, .int s0]) (n' := 94) (M' := (I, J, xrf)) (fun f => rfl) ?_
  obtain ⟨o, ho, h⟩ := Option.bind_eq_some_iff.mp h
  refine Rn.call (d1 := d + 17) (j1 := 97) (ls1 := [some (.ref 43), some (.int x7), some (.int x9), none, none]) (rest := [.int s0]) (fun f => rfl) ?_
  refine p_X7_statesOf (d := d + 15) x7 x9 I J (t := o) ho ?_
  exact p_X11_beside_23 x1 x2 x3 x4 x5 x6 x7 x8 x9 x10 z11 z12 z13 s0 o.1 o.2.1 o.2.2 h hC
theorem p_X11_beside_21 {L : Nat} {xs : Nat → Int32} {d : Nat} {Q : xO → Prop} (x1 : Int32) (x2 : Int32) (x3 : Int32) (x4 : Int32) (x5 : Int32) (x6 : Int32) (x7 : Int32) (x8 : Int32) (x9 : Int32) (x10 : Int32) (z11 : Option Value) (z12 : Option Value) (z13 : Option Value) (I : xI) (J : xJ) {t : Int32 × xI × xJ} (h : f_X11_beside_21 x1 x2 x3 x4 x5 x6 x7 x8 x9 x10 z11 z12 z13 I J = some t) (hC : (c_X11_beside Q) t) : Rn L xs (d + 18) 166 165 [some (.ref 0), some (.int x1), some (.int x2), some (.int x3), some (.int x4), some (.int x5), some (.int x6), some (.int x7), some (.int x8), some (.int x9), some (.int x10), z11, z12, z13] [] 94 (I, J, xrf) Q := by
  unfold f_X11_beside_21 at h
  refine Rn.go 4 (j' := 166) (pc' := 173) (ls' := [some (.ref 0), some (.int x1), some (.int x2), some (.int x3), some (.int x4), some (.int x5), some (.int x6), some (.int x7), some (.int x8), some (.int x9), some (.int x10), z11, z12, z13]) (st' := [.int x8, .int x6, .ref 43]) (n' := 94) (M' := (I, J, xrf)) (fun f => rfl) ?_
  obtain ⟨o, ho, h⟩ := Option.bind_eq_some_iff.mp h
  refine Rn.call (d1 := d + 17) (j1 := 97) (ls1 := [some (.ref 43), some (.int x6), some (.int x8), none, none]) (rest := []) (fun f => rfl) ?_
  refine p_X7_statesOf (d := d + 15) x6 x8 I J (t := o) ho ?_
  exact p_X11_beside_22 x1 x2 x3 x4 x5 x6 x7 x8 x9 x10 z11 z12 z13 o.1 o.2.1 o.2.2 h hC
theorem p_X11_beside_20 {L : Nat} {xs : Nat → Int32} {d : Nat} {Q : xO → Prop} (x1 : Int32) (x2 : Int32) (x3 : Int32) (x4 : Int32) (x5 : Int32) (x6 : Int32) (x7 : Int32) (x8 : Int32) (x9 : Int32) (x10 : Int32) (x11 : Int32) (x12 : Int32) (x13 : Int32) (I : xI) (J : xJ) {t : (Int32 × Int32 × Int32 × Int32 × Int32 × Int32 × Int32 × Int32 × Int32 × Int32 × (Option Value) × (Option Value) × (Option Value) × xI × xJ) ⊕ (Int32 × xI × xJ)} (h : f_X11_beside_20 x1 x2 x3 x4 x5 x6 x7 x8 x9 x10 x11 x12 x13 I J = some t) (hC : (c_X11_beside_13 L xs d Q) t) : Rn L xs (d + 18) 166 151 [some (.ref 0), some (.int x1), some (.int x2), some (.int x3), some (.int x4), some (.int x5), some (.int x6), some (.int x7), some (.int x8), some (.int x9), some (.int x10), some (.int x11), some (.int x12), some (.int x13)] [] 94 (I, J, xrf) Q := by
  unfold f_X11_beside_20 at h
  refine Rn.go 6 (j' := 166) (pc' := 86) (ls' := [some (.ref 0), some (.int x1), some (.int x2), some (.int x3), some (.int x4), some (.int x5), some (.int x6), some (.int x7), some (.int x12), some (.int x13), some (.int ((x10 + 1))), some (.int x11), some (.int x12), some (.int x13)]) (st' := []) (n' := 94) (M' := (I, J, xrf)) (fun f => rfl) ?_
  cases h; exact hC
theorem p_X11_beside_19 {L : Nat} {xs : Nat → Int32} {d : Nat} {Q : xO → Prop} (x1 : Int32) (x2 : Int32) (x3 : Int32) (x4 : Int32) (x5 : Int32) (x6 : Int32) (x7 : Int32) (x8 : Int32) (x9 : Int32) (x10 : Int32) (x11 : Int32) (x12 : Int32) (x13 : Int32) (I : xI) (J : xJ) {t : Int32 × xI × xJ} (h : f_X11_beside_19 x1 x2 x3 x4 x5 x6 x7 x8 x9 x10 x11 x12 x13 I J = some t) (hC : (c_X11_beside Q) t) : Rn L xs (d + 18) 166 148 [some (.ref 0), some (.int x1), some (.int x2), some (.int x3), some (.int x4), some (.int x5), some (.int x6), some (.int x7), some (.int x8), some (.int x9), some (.int x10), some (.int x11), some (.int x12), some (.int x13)] [] 94 (I, J, xrf) Q := by
  unfold f_X11_beside_19 at h
  refine Rn.go 1 (j' := 166) (pc' := 165) (ls' := [some (.ref 0), some (.int x1), some (.int x2), some (.int x3), some (.int x4), some (.int x5), some (.int x6), some (.int x7), some (.int x8), some (.int x9), some (.int x10), some (.int x11), some (.int x12), some (.int x13)]) (st' := []) (n' := 94) (M' := (I, J, xrf)) (fun f => rfl) ?_
  exact p_X11_beside_21 x1 x2 x3 x4 x5 x6 x7 x8 x9 x10 (some (.int x11)) (some (.int x12)) (some (.int x13)) I J h hC
theorem p_X11_beside_18 {L : Nat} {xs : Nat → Int32} {d : Nat} {Q : xO → Prop} (x1 : Int32) (x2 : Int32) (x3 : Int32) (x4 : Int32) (x5 : Int32) (x6 : Int32) (x7 : Int32) (x8 : Int32) (x9 : Int32) (x10 : Int32) (x11 : Int32) (x12 : Int32) (x13 : Int32) (I : xI) (J : xJ) {t : (Int32 × Int32 × Int32 × Int32 × Int32 × Int32 × Int32 × Int32 × Int32 × Int32 × (Option Value) × (Option Value) × (Option Value) × xI × xJ) ⊕ (Int32 × xI × xJ)} (h : f_X11_beside_18 x1 x2 x3 x4 x5 x6 x7 x8 x9 x10 x11 x12 x13 I J = some t) (hC : (c_X11_beside_13 L xs d Q) t) : Rn L xs (d + 18) 166 141 [some (.ref 0), some (.int x1), some (.int x2), some (.int x3), some (.int x4), some (.int x5), some (.int x6), some (.int x7), some (.int x8), some (.int x9), some (.int x10), some (.int x11), some (.int x12), some (.int x13)] [] 94 (I, J, xrf) Q := by
  unfold f_X11_beside_18 at h
  refine Rn.fi 3 (c := x13 = (-2)) (p1 := 148) (l1 := [some (.ref 0), some (.int x1), some (.int x2), some (.int x3), some (.int x4), some (.int x5), some (.int x6), some (.int x7), some (.int x8), some (.int x9), some (.int x10), some (.int x11), some (.int x12), some (.int x13)]) (s1 := []) (n1 := 94) (M1 := (I, J, xrf)) (p2 := 151) (l2 := [some (.ref 0), some (.int x1), some (.int x2), some (.int x3), some (.int x4), some (.int x5), some (.int x6), some (.int x7), some (.int x8), some (.int x9), some (.int x10), some (.int x11), some (.int x12), some (.int x13)]) (s2 := []) (n2 := 94) (M2 := (I, J, xrf)) (fun f => rfl) (fun hc => ?_) (fun hc => ?_)
  · rw [if_pos hc] at h
    obtain ⟨t0, h0, rfl⟩ := Option.map_eq_some_iff.mp h
    exact p_X11_beside_19 x1 x2 x3 x4 x5 x6 x7 x8 x9 x10 x11 x12 x13 I J h0 hC
  · rw [if_neg hc] at h
    exact p_X11_beside_20 x1 x2 x3 x4 x5 x6 x7 x8 x9 x10 x11 x12 x13 I J h hC
theorem p_X11_beside_17 {L : Nat} {xs : Nat → Int32} {d : Nat} {Q : xO → Prop} (x1 : Int32) (x2 : Int32) (x3 : Int32) (x4 : Int32) (x5 : Int32) (x6 : Int32) (x7 : Int32) (x8 : Int32) (x9 : Int32) (x10 : Int32) (x11 : Int32) (x12 : Int32) (z13 : Option Value) (s0 : Int32) (I : xI) (J : xJ) {t : (Int32 × Int32 × Int32 × Int32 × Int32 × Int32 × Int32 × Int32 × Int32 × Int32 × (Option Value) × (Option Value) × (Option Value) × xI × xJ) ⊕ (Int32 × xI × xJ)} (h : f_X11_beside_17 x1 x2 x3 x4 x5 x6 x7 x8 x9 x10 x11 x12 z13 s0 I J = some t) (hC : (c_X11_beside_13 L xs d Q) t) : Rn L xs (d + 18) 166 132 [some (.ref 0), some (.int x1), some (.int x2), some (.int x3), some (.int x4), some (.int x5), some (.int x6), some (.int x7), some (.int x8), some (.int x9), some (.int x10), some (.int x11), some (.int x12), z13] [.int s0] 94 (I, J, xrf) Q := by
  unfold f_X11_beside_17 at h
  refine Rn.fi 4 (c := x12 = (-2)) (p1 := 165) (l1 := [some (.ref 0), some (.int x1), some (.int x2), some (.int x3), some (.int x4), some (.int x5), some (.int x6), some (.int x7), some (.int x8), some (.int x9), some (.int x10), some (.int x11), some (.int x12), some (.int s0)]) (s1 := []) (n1 := 94) (M1 := (I, J, xrf)) (p2 := 141) (l2 := [some (.ref 0), some (.int x1), some (.int x2), some (.int x3), some (.int x4), some (.int x5), some (.int x6), some (.int x7), some (.int x8), some (.int x9), some (.int x10), some (.int x11), some (.int x12), some (.int s0)]) (s2 := []) (n2 := 94) (M2 := (I, J, xrf)) (fun f => rfl) (fun hc => ?_) (fun hc => ?_)
  · rw [if_pos hc] at h
    obtain ⟨t0, h0, rfl⟩ := Option.map_eq_some_iff.mp h
    exact p_X11_beside_21 x1 x2 x3 x4 x5 x6 x7 x8 x9 x10 (some (.int x11)) (some (.int x12)) (some (.int s0)) I J h0 hC
  · rw [if_neg hc] at h
    exact p_X11_beside_18 x1 x2 x3 x4 x5 x6 x7 x8 x9 x10 x11 x12 s0 I J h hC
theorem p_X11_beside_16 {L : Nat} {xs : Nat → Int32} {d : Nat} {Q : xO → Prop} (x1 : Int32) (x2 : Int32) (x3 : Int32) (x4 : Int32) (x5 : Int32) (x6 : Int32) (x7 : Int32) (x8 : Int32) (x9 : Int32) (x10 : Int32) (x11 : Int32) (z12 : Option Value) (z13 : Option Value) (s0 : Int32) (I : xI) (J : xJ) {t : (Int32 × Int32 × Int32 × Int32 × Int32 × Int32 × Int32 × Int32 × Int32 × Int32 × (Option Value) × (Option Value) × (Option Value) × xI × xJ) ⊕ (Int32 × xI × xJ)} (h : f_X11_beside_16 x1 x2 x3 x4 x5 x6 x7 x8 x9 x10 x11 z12 z13 s0 I J = some t) (hC : (c_X11_beside_13 L xs d Q) t) : Rn L xs (d + 18) 166 117 [some (.ref 0), some (.int x1), some (.int x2), some (.int x3), some (.int x4), some (.int x5), some (.int x6), some (.int x7), some (.int x8), some (.int x9), some (.int x10), some (.int x11), z12, z13] [.int s0] 94 (I, J, xrf) Q := by
  unfold f_X11_beside_16 at h
  refine Rn.go 6 (j' := 166) (pc' := 129) (ls' := [some (.ref 0), some (.int x1), some (.int x2), some (.int x3), some (.int x4), some (.int x5), some (.int x6), some (.int x7), some (.int x8), some (.int x9), some (.int x10), some (.int x11), some (.int s0), z13]) (st' := [.int x11, .int x9, .int x7, .ref 43]) (n' := 94) (M' := (I, J, xrf)) (fun f => rfl) ?_
  obtain ⟨o, ho, h⟩ := Option.bind_eq_some_iff.mp h
  refine Rn.call (d1 := d + 17) (j1 := 98) (ls1 := [some (.ref 43), some (.int x7), some (.int x9), some (.int x11), none]) (rest := []) (fun f => rfl) ?_
  refine p_X7_blockBehind (d := d + 14) x7 x9 x11 I J (t := o) ho ?_
  exact p_X11_beside_17 x1 x2 x3 x4 x5 x6 x7 x8 x9 x10 x11 s0 z13 o.1 o.2.1 o.2.2 h hC
theorem p_X11_beside_15 {L : Nat} {xs : Nat → Int32} {d : Nat} {Q : xO → Prop} (x1 : Int32) (x2 : Int32) (x3 : Int32) (x4 : Int32) (x5 : Int32) (x6 : Int32) (x7 : Int32) (x8 : Int32) (x9 : Int32) (x10 : Int32) (z11 : Option Value) (z12 : Option Value) (z13 : Option Value) (s0 : Int32) (I : xI) (J : xJ) {t : (Int32 × Int32 × Int32 × Int32 × Int32 × Int32 × Int32 × Int32 × Int32 × Int32 × (Option Value) × (Option Value) × (Option Value) × xI × xJ) ⊕ (Int32 × xI × xJ)} (h : f_X11_beside_15 x1 x2 x3 x4 x5 x6 x7 x8 x9 x10 z11 z12 z13 s0 I J = some t) (hC : (c_X11_beside_13 L xs d Q) t) : Rn L xs (d + 18) 166 102 [some (.ref 0), some (.int x1), some (.int x2), some (.int x3), some (.int x4), some (.int x5), some (.int x6), some (.int x7), some (.int x8), some (.int x9), some (.int x10), z11, z12, z13] [.int s0] 94 (I, J, xrf) Q := by
  unfold f_X11_beside_15 at h
  refine Rn.go 6 (j' := 166) (pc' := 114) (ls' := [some (.ref 0), some (.int x1), some (.int x2), some (.int x3), some (.int x4), some (.int x5), some (.int x6), some (.int x7), some (.int x8), some (.int x9), some (.int x10), some (.int s0), z12, z13]) (st' := [.int s0, .int x8, .int x6, .ref 43]) (n' := 94) (M' := (I, J, xrf)) (fun f => rfl) ?_
  obtain ⟨o, ho, h⟩ := Option.bind_eq_some_iff.mp h
  refine Rn.call (d1 := d + 17) (j1 := 98) (ls1 := [some (.ref 43), some (.int x6), some (.int x8), some (.int s0), none]) (rest := []) (fun f => rfl) ?_
  refine p_X7_blockBehind (d := d + 14) x6 x8 s0 I J (t := o) ho ?_
  exact p_X11_beside_16 x1 x2 x3 x4 x5 x6 x7 x8 x9 x10 s0 z12 z13 o.1 o.2.1 o.2.2 h hC
theorem p_X11_beside_14 {L : Nat} {xs : Nat → Int32} {d : Nat} {Q : xO → Prop} (x1 : Int32) (x2 : Int32) (x3 : Int32) (x4 : Int32) (x5 : Int32) (x6 : Int32) (x7 : Int32) (x8 : Int32) (x9 : Int32) (x10 : Int32) (z11 : Option Value) (z12 : Option Value) (z13 : Option Value) (I : xI) (J : xJ) {t : (Int32 × Int32 × Int32 × Int32 × Int32 × Int32 × Int32 × Int32 × Int32 × Int32 × (Option Value) × (Option Value) × (Option Value) × xI × xJ) ⊕ (Int32 × xI × xJ)} (h : f_X11_beside_14 x1 x2 x3 x4 x5 x6 x7 x8 x9 x10 z11 z12 z13 I J = some t) (hC : (c_X11_beside_13 L xs d Q) t) : Rn L xs (d + 18) 166 93 [some (.ref 0), some (.int x1), some (.int x2), some (.int x3), some (.int x4), some (.int x5), some (.int x6), some (.int x7), some (.int x8), some (.int x9), some (.int x10), z11, z12, z13] [] 94 (I, J, xrf) Q := by
  unfold f_X11_beside_14 at h
  refine Rn.go 3 (j' := 166) (pc' := 99) (ls' := [some (.ref 0), some (.int x1), some (.int x2), some (.int x3), some (.int x4), some (.int x5), some (.int x6), some (.int x7), some (.int x8), some (.int x9), some (.int x10), z11, z12, z13]) (st' := [.int x10, .int x5, .int x4]) (n' := 94) (M' := (I, J, xrf)) (fun f => rfl) ?_
  obtain ⟨o, ho, h⟩ := Option.bind_eq_some_iff.mp h
  refine Rn.call (d1 := d + 17) (j1 := 56) (ls1 := [some (.int x4), some (.int x5), some (.int x10)]) (rest := []) (fun f => rfl) ?_
  refine p_X5_digitOf (d := d + 16) x4 x5 x10 I J (t := o) ho ?_
  exact p_X11_beside_15 x1 x2 x3 x4 x5 x6 x7 x8 x9 x10 z11 z12 z13 o.1 o.2.1 o.2.2 h hC
theorem q_X11_beside_13 {L : Nat} {xs : Nat → Int32} {d : Nat} {Q : xO → Prop} (x1 : Int32) (x2 : Int32) (x3 : Int32) (x4 : Int32) (x5 : Int32) (x6 : Int32) (x7 : Int32) (x8 : Int32) (x9 : Int32) (x10 : Int32) (z11 : Option Value) (z12 : Option Value) (z13 : Option Value) (I : xI) (J : xJ) {t : (Int32 × Int32 × Int32 × Int32 × Int32 × Int32 × Int32 × Int32 × Int32 × Int32 × (Option Value) × (Option Value) × (Option Value) × xI × xJ) ⊕ (Int32 × xI × xJ)} (h : b_X11_beside_13 x1 x2 x3 x4 x5 x6 x7 x8 x9 x10 z11 z12 z13 I J = some t) (hC : (c_X11_beside_13 L xs d Q) t) : Rn L xs (d + 18) 166 86 [some (.ref 0), some (.int x1), some (.int x2), some (.int x3), some (.int x4), some (.int x5), some (.int x6), some (.int x7), some (.int x8), some (.int x9), some (.int x10), z11, z12, z13] [] 94 (I, J, xrf) Q := by
  unfold b_X11_beside_13 at h
  refine Rn.fi 3 (c := x5 ≤ x10) (p1 := 165) (l1 := [some (.ref 0), some (.int x1), some (.int x2), some (.int x3), some (.int x4), some (.int x5), some (.int x6), some (.int x7), some (.int x8), some (.int x9), some (.int x10), z11, z12, z13]) (s1 := []) (n1 := 94) (M1 := (I, J, xrf)) (p2 := 93) (l2 := [some (.ref 0), some (.int x1), some (.int x2), some (.int x3), some (.int x4), some (.int x5), some (.int x6), some (.int x7), some (.int x8), some (.int x9), some (.int x10), z11, z12, z13]) (s2 := []) (n2 := 94) (M2 := (I, J, xrf)) (fun f => rfl) (fun hc => ?_) (fun hc => ?_)
  · rw [if_pos hc] at h
    obtain ⟨t0, h0, rfl⟩ := Option.map_eq_some_iff.mp h
    exact p_X11_beside_21 x1 x2 x3 x4 x5 x6 x7 x8 x9 x10 z11 z12 z13 I J h0 hC
  · rw [if_neg hc] at h
    exact p_X11_beside_14 x1 x2 x3 x4 x5 x6 x7 x8 x9 x10 z11 z12 z13 I J h hC
theorem p_X11_beside_13 {L : Nat} {xs : Nat → Int32} {d : Nat} {Q : xO → Prop} (x1 : Int32) (x2 : Int32) (x3 : Int32) (x4 : Int32) (x5 : Int32) (x6 : Int32) (x7 : Int32) (x8 : Int32) (x9 : Int32) (x10 : Int32) (z11 : Option Value) (z12 : Option Value) (z13 : Option Value) (I : xI) (J : xJ) {t : Int32 × xI × xJ} (h : f_X11_beside_13 x1 x2 x3 x4 x5 x6 x7 x8 x9 x10 z11 z12 z13 I J = some t) (hC : (c_X11_beside Q) t) : Rn L xs (d + 18) 166 86 [some (.ref 0), some (.int x1), some (.int x2), some (.int x3), some (.int x4), some (.int x5), some (.int x6), some (.int x7), some (.int x8), some (.int x9), some (.int x10), z11, z12, z13] [] 94 (I, J, xrf) Q := by
  unfold f_X11_beside_13 at h
  exact xloop_some (P := fun s : Int32 × Int32 × Int32 × Int32 × Int32 × Int32 × Int32 × Int32 × Int32 × Int32 × (Option Value) × (Option Value) × (Option Value) × xI × xJ => Rn L xs (d + 18) 166 86 [some (.ref 0), some (.int s.1), some (.int s.2.1), some (.int s.2.2.1), some (.int s.2.2.2.1), some (.int s.2.2.2.2.1), some (.int s.2.2.2.2.2.1), some (.int s.2.2.2.2.2.2.1), some (.int s.2.2.2.2.2.2.2.1), some (.int s.2.2.2.2.2.2.2.2.1), some (.int s.2.2.2.2.2.2.2.2.2.1), s.2.2.2.2.2.2.2.2.2.2.1, s.2.2.2.2.2.2.2.2.2.2.2.1, s.2.2.2.2.2.2.2.2.2.2.2.2.1] [] 94 (s.2.2.2.2.2.2.2.2.2.2.2.2.2.1, s.2.2.2.2.2.2.2.2.2.2.2.2.2.2, xrf) Q) t (fun s ⟨s', hb, hp⟩ => q_X11_beside_13 s.1 s.2.1 s.2.2.1 s.2.2.2.1 s.2.2.2.2.1 s.2.2.2.2.2.1 s.2.2.2.2.2.2.1 s.2.2.2.2.2.2.2.1 s.2.2.2.2.2.2.2.2.1 s.2.2.2.2.2.2.2.2.2.1 s.2.2.2.2.2.2.2.2.2.2.1 s.2.2.2.2.2.2.2.2.2.2.2.1 s.2.2.2.2.2.2.2.2.2.2.2.2.1 s.2.2.2.2.2.2.2.2.2.2.2.2.2.1 s.2.2.2.2.2.2.2.2.2.2.2.2.2.2 hb hp) (fun s hb => q_X11_beside_13 s.1 s.2.1 s.2.2.1 s.2.2.2.1 s.2.2.2.2.1 s.2.2.2.2.2.1 s.2.2.2.2.2.2.1 s.2.2.2.2.2.2.2.1 s.2.2.2.2.2.2.2.2.1 s.2.2.2.2.2.2.2.2.2.1 s.2.2.2.2.2.2.2.2.2.2.1 s.2.2.2.2.2.2.2.2.2.2.2.1 s.2.2.2.2.2.2.2.2.2.2.2.2.1 s.2.2.2.2.2.2.2.2.2.2.2.2.2.1 s.2.2.2.2.2.2.2.2.2.2.2.2.2.2 hb hC) _ _ h
theorem p_X11_beside_12 {L : Nat} {xs : Nat → Int32} {d : Nat} {Q : xO → Prop} (x1 : Int32) (x2 : Int32) (x3 : Int32) (x4 : Int32) (x5 : Int32) (x6 : Int32) (x7 : Int32) (x8 : Int32) (s0 : Int32) (I : xI) (J : xJ) {t : Int32 × xI × xJ} (h : f_X11_beside_12 x1 x2 x3 x4 x5 x6 x7 x8 s0 I J = some t) (hC : (c_X11_beside Q) t) : Rn L xs (d + 18) 166 81 [some (.ref 0), some (.int x1), some (.int x2), some (.int x3), some (.int x4), some (.int x5), some (.int x6), some (.int x7), some (.int x8), none, none, none, none, none] [.int s0] 94 (I, J, xrf) Q := by
  unfold f_X11_beside_12 at h
  refine Rn.go 3 (j' := 166) (pc' := 86) (ls' := [some (.ref 0), some (.int x1), some (.int x2), some (.int x3), some (.int x4), some (.int x5), some (.int x6), some (.int x7), some (.int x8), some (.int s0), some (.int 0), none, none, none]) (st' := []) (n' := 94) (M' := (I, J, xrf)) (fun f => rfl) ?_
  exact p_X11_beside_13 x1 x2 x3 x4 x5 x6 x7 x8 s0 0 none none none I J h hC
theorem p_X11_beside_11 {L : Nat} {xs : Nat → Int32} {d : Nat} {Q : xO → Prop} (x1 : Int32) (x2 : Int32) (x3 : Int32) (x4 : Int32) (x5 : Int32) (x6 : Int32) (x7 : Int32) (s0 : Int32) (I : xI) (J : xJ) {t : Int32 × xI × xJ} (h : f_X11_beside_11 x1 x2 x3 x4 x5 x6 x7 s0 I J = some t) (hC : (c_X11_beside Q) t) : Rn L xs (d + 18) 166 69 [some (.ref 0), some (.int x1), some (.int x2), some (.int x3), some (.int x4), some (.int x5), some (.int x6), some (.int x7), none, none, none, none, none, none] [.int s0] 94 (I, J, xrf) Q := by
  unfold f_X11_beside_11 at h
  refine Rn.go 5 (j' := 166) (pc' := 78) (ls' := [some (.ref 0), some (.int x1), some (.int x2), some (.int x3), some (.int x4), some (.int x5), some (.int x6), some (.int x7), some (.int s0), none, none, none, none, none]) (st' := [.int x3, .int x7, .ref 43]) (n' := 94) (M' := (I, J, xrf)) (fun f => rfl) ?_
  obtain ⟨o, ho, h⟩ := Option.bind_eq_some_iff.mp h
  refine Rn.call (d1 := d + 17) (j1 := 92) (ls1 := [some (.ref 43), some (.int x7), some (.int x3), none]) (rest := []) (fun f => rfl) ?_
  refine p_X7_blockOf (d := d + 16) x7 x3 I J (t := o) ho ?_
  exact p_X11_beside_12 x1 x2 x3 x4 x5 x6 x7 s0 o.1 o.2.1 o.2.2 h hC
theorem p_X11_beside_10 {L : Nat} {xs : Nat → Int32} {d : Nat} {Q : xO → Prop} (x1 : Int32) (x2 : Int32) (x3 : Int32) (x4 : Int32) (x5 : Int32) (x6 : Int32) (x7 : Int32) (I : xI) (J : xJ) {t : Int32 × xI × xJ} (h : f_X11_beside_10 x1 x2 x3 x4 x5 x6 x7 I J = some t) (hC : (c_X11_beside Q) t) : Rn L xs (d + 18) 166 59 [some (.ref 0), some (.int x1), some (.int x2), some (.int x3), some (.int x4), some (.int x5), some (.int x6), some (.int x7), none, none, none, none, none, none] [] 94 (I, J, xrf) Q := by
  unfold f_X11_beside_10 at h
  refine Rn.go 4 (j' := 166) (pc' := 66) (ls' := [some (.ref 0), some (.int x1), some (.int x2), some (.int x3), some (.int x4), some (.int x5), some (.int x6), some (.int x7), none, none, none, none, none, none]) (st' := [.int x3, .int x6, .ref 43]) (n' := 94) (M' := (I, J, xrf)) (fun f => rfl) ?_
  obtain ⟨o, ho, h⟩ := Option.bind_eq_some_iff.mp h
  refine Rn.call (d1 := d + 17) (j1 := 92) (ls1 := [some (.ref 43), some (.int x6), some (.int x3), none]) (rest := []) (fun f => rfl) ?_
  refine p_X7_blockOf (d := d + 16) x6 x3 I J (t := o) ho ?_
  exact p_X11_beside_11 x1 x2 x3 x4 x5 x6 x7 o.1 o.2.1 o.2.2 h hC
theorem p_X11_beside_8 {L : Nat} {xs : Nat → Int32} {d : Nat} {Q : xO → Prop} (x1 : Int32) (x2 : Int32) (x3 : Int32) (x4 : Int32) (x5 : Int32) (x6 : Int32) (x7 : Int32) (s0 : Int32) (I : xI) (J : xJ) {t : Int32 × xI × xJ} (h : f_X11_beside_8 x1 x2 x3 x4 x5 x6 x7 s0 I J = some t) (hC : (c_X11_beside Q) t) : Rn L xs (d + 18) 166 54 [some (.ref 0), some (.int x1), some (.int x2), some (.int x3), some (.int x4), some (.int x5), some (.int x6), some (.int x7), none, none, none, none, none, none] [.int s0] 94 (I, J, xrf) Q := by
  unfold f_X11_beside_8 at h
  refine Rn.fi 1 (c := s0 = 0) (p1 := 57) (l1 := [some (.ref 0), some (.int x1), some (.int x2), some (.int x3), some (.int x4), some (.int x5), some (.int x6), some (.int x7), none, none, none, none, none, none]) (s1 := []) (n1 := 94) (M1 := (I, J, xrf)) (p2 := 59) (l2 := [some (.ref 0), some (.int x1), some (.int x2), some (.int x3), some (.int x4), some (.int x5), some (.int x6), some (.int x7), none, none, none, none, none, none]) (s2 := []) (n2 := 94) (M2 := (I, J, xrf)) (fun f => rfl) (fun hc => ?_) (fun hc => ?_)
  · rw [if_pos hc] at h
    exact p_X11_beside_9 x1 x2 x3 x4 x5 x6 x7 I J h hC
  · rw [if_neg hc] at h
    exact p_X11_beside_10 x1 x2 x3 x4 x5 x6 x7 I J h hC
theorem p_X11_beside_7 {L : Nat} {xs : Nat → Int32} {d : Nat} {Q : xO → Prop} (x1 : Int32) (x2 : Int32) (x3 : Int32) (x4 : Int32) (x5 : Int32) (x6 : Int32) (x7 : Int32) (I : xI) (J : xJ) {t : Int32 × xI × xJ} (h : f_X11_beside_7 x1 x2 x3 x4 x5 x6 x7 I J = some t) (hC : (c_X11_beside Q) t) : Rn L xs (d + 18) 166 43 [some (.ref 0), some (.int x1), some (.int x2), some (.int x3), some (.int x4), some (.int x5), some (.int x6), some (.int x7), none, none, none, none, none, none] [] 94 (I, J, xrf) Q := by
  unfold f_X11_beside_7 at h
  refine Rn.go 4 (j' := 166) (pc' := 51) (ls' := [some (.ref 0), some (.int x1), some (.int x2), some (.int x3), some (.int x4), some (.int x5), some (.int x6), some (.int x7), none, none, none, none, none, none]) (st' := [.int x5, .int x4, .ref 1]) (n' := 94) (M' := (I, J, xrf)) (fun f => rfl) ?_
  obtain ⟨o, ho, h⟩ := Option.bind_eq_some_iff.mp h
  refine Rn.call (d1 := d + 17) (j1 := 55) (ls1 := [some (.ref 1), some (.int x4), some (.int x5), none]) (rest := []) (fun f => rfl) ?_
  refine p_X5_hasWord (d := d + 15) x4 x5 I J (t := o) ho ?_
  exact p_X11_beside_8 x1 x2 x3 x4 x5 x6 x7 o.1 o.2.1 o.2.2 h hC
theorem p_X11_beside_6 {L : Nat} {xs : Nat → Int32} {d : Nat} {Q : xO → Prop} (x1 : Int32) (x2 : Int32) (x3 : Int32) (x4 : Int32) (x5 : Int32) (x6 : Int32) (x7 : Int32) (s0 : Int32) (I : xI) (J : xJ) {t : Int32 × xI × xJ} (h : f_X11_beside_6 x1 x2 x3 x4 x5 x6 x7 s0 I J = some t) (hC : (c_X11_beside Q) t) : Rn L xs (d + 18) 166 40 [some (.ref 0), some (.int x1), some (.int x2), some (.int x3), some (.int x4), some (.int x5), some (.int x6), some (.int x7), none, none, none, none, none, none] [.int s0] 94 (I, J, xrf) Q := by
  unfold f_X11_beside_6 at h
  refine Rn.fi 1 (c := s0 = 0) (p1 := 57) (l1 := [some (.ref 0), some (.int x1), some (.int x2), some (.int x3), some (.int x4), some (.int x5), some (.int x6), some (.int x7), none, none, none, none, none, none]) (s1 := []) (n1 := 94) (M1 := (I, J, xrf)) (p2 := 43) (l2 := [some (.ref 0), some (.int x1), some (.int x2), some (.int x3), some (.int x4), some (.int x5), some (.int x6), some (.int x7), none, none, none, none, none, none]) (s2 := []) (n2 := 94) (M2 := (I, J, xrf)) (fun f => rfl) (fun hc => ?_) (fun hc => ?_)
  · rw [if_pos hc] at h
    exact p_X11_beside_9 x1 x2 x3 x4 x5 x6 x7 I J h hC
  · rw [if_neg hc] at h
    exact p_X11_beside_7 x1 x2 x3 x4 x5 x6 x7 I J h hC
theorem p_X11_beside_5 {L : Nat} {xs : Nat → Int32} {d : Nat} {Q : xO → Prop} (x1 : Int32) (x2 : Int32) (x3 : Int32) (x4 : Int32) (x5 : Int32) (x6 : Int32) (x7 : Int32) (I : xI) (J : xJ) {t : Int32 × xI × xJ} (h : f_X11_beside_5 x1 x2 x3 x4 x5 x6 x7 I J = some t) (hC : (c_X11_beside Q) t) : Rn L xs (d + 18) 166 32 [some (.ref 0), some (.int x1), some (.int x2), some (.int x3), some (.int x4), some (.int x5), some (.int x6), some (.int x7), none, none, none, none, none, none] [] 94 (I, J, xrf) Q := by
  unfold f_X11_beside_5 at h
  refine Rn.go 3 (j' := 166) (pc' := 37) (ls' := [some (.ref 0), some (.int x1), some (.int x2), some (.int x3), some (.int x4), some (.int x5), some (.int x6), some (.int x7), none, none, none, none, none, none]) (st' := [.int x3, .ref 1]) (n' := 94) (M' := (I, J, xrf)) (fun f => rfl) ?_
  obtain ⟨o, ho, h⟩ := Option.bind_eq_some_iff.mp h
  refine Rn.call (d1 := d + 17) (j1 := 51) (ls1 := [some (.ref 1), some (.int x3)]) (rest := []) (fun f => rfl) ?_
  refine p_X5_hasState (d := d + 16) x3 I J (t := o) ho ?_
  exact p_X11_beside_6 x1 x2 x3 x4 x5 x6 x7 o.1 o.2.1 o.2.2 h hC
theorem p_X11_beside_4 {L : Nat} {xs : Nat → Int32} {d : Nat} {Q : xO → Prop} (x1 : Int32) (x2 : Int32) (x3 : Int32) (x4 : Int32) (x5 : Int32) (x6 : Int32) (x7 : Int32) (I : xI) (J : xJ) {t : Int32 × xI × xJ} (h : f_X11_beside_4 x1 x2 x3 x4 x5 x6 x7 I J = some t) (hC : (c_X11_beside Q) t) : Rn L xs (d + 18) 166 26 [some (.ref 0), some (.int x1), some (.int x2), some (.int x3), some (.int x4), some (.int x5), some (.int x6), some (.int x7), none, none, none, none, none, none] [] 94 (I, J, xrf) Q := by
  unfold f_X11_beside_4 at h
  refine Rn.fi 3 (c := x7 = (-1)) (p1 := 57) (l1 := [some (.ref 0), some (.int x1), some (.int x2), some (.int x3), some (.int x4), some (.int x5), some (.int x6), some (.int x7), none, none, none, none, none, none]) (s1 := []) (n1 := 94) (M1 := (I, J, xrf)) (p2 := 32) (l2 := [some (.ref 0), some (.int x1), some (.int x2), some (.int x3), some (.int x4), some (.int x5), some (.int x6), some (.int x7), none, none, none, none, none, none]) (s2 := []) (n2 := 94) (M2 := (I, J, xrf)) (fun f => rfl) (fun hc => ?_) (fun hc => ?_)
  · rw [if_pos hc] at h
    exact p_X11_beside_9 x1 x2 x3 x4 x5 x6 x7 I J h hC
  · rw [if_neg hc] at h
    exact p_X11_beside_5 x1 x2 x3 x4 x5 x6 x7 I J h hC
theorem p_X11_beside_3 {L : Nat} {xs : Nat → Int32} {d : Nat} {Q : xO → Prop} (x1 : Int32) (x2 : Int32) (x3 : Int32) (x4 : Int32) (x5 : Int32) (x6 : Int32) (s0 : Int32) (I : xI) (J : xJ) {t : Int32 × xI × xJ} (h : f_X11_beside_3 x1 x2 x3 x4 x5 x6 s0 I J = some t) (hC : (c_X11_beside Q) t) : Rn L xs (d + 18) 166 18 [some (.ref 0), some (.int x1), some (.int x2), some (.int x3), some (.int x4), some (.int x5), some (.int x6), none, none, none, none, none, none, none] [.int s0] 94 (I, J, xrf) Q := by
  unfold f_X11_beside_3 at h
  refine Rn.fi 4 (c := x6 = (-1)) (p1 := 57) (l1 := [some (.ref 0), some (.int x1), some (.int x2), some (.int x3), some (.int x4), some (.int x5), some (.int x6), some (.int s0), none, none, none, none, none, none]) (s1 := []) (n1 := 94) (M1 := (I, J, xrf)) (p2 := 26) (l2 := [some (.ref 0), some (.int x1), some (.int x2), some (.int x3), some (.int x4), some (.int x5), some (.int x6), some (.int s0), none, none, none, none, none, none]) (s2 := []) (n2 := 94) (M2 := (I, J, xrf)) (fun f => rfl) (fun hc => ?_) (fun hc => ?_)
  · rw [if_pos hc] at h
    exact p_X11_beside_9 x1 x2 x3 x4 x5 x6 s0 I J h hC
  · rw [if_neg hc] at h
    exact p_X11_beside_4 x1 x2 x3 x4 x5 x6 s0 I J h hC
theorem p_X11_beside_2 {L : Nat} {xs : Nat → Int32} {d : Nat} {Q : xO → Prop} (x1 : Int32) (x2 : Int32) (x3 : Int32) (x4 : Int32) (x5 : Int32) (s0 : Int32) (I : xI) (J : xJ) {t : Int32 × xI × xJ} (h : f_X11_beside_2 x1 x2 x3 x4 x5 s0 I J = some t) (hC : (c_X11_beside Q) t) : Rn L xs (d + 18) 166 8 [some (.ref 0), some (.int x1), some (.int x2), some (.int x3), some (.int x4), some (.int x5), none, none, none, none, none, none, none, none] [.int s0] 94 (I, J, xrf) Q := by
  unfold f_X11_beside_2 at h
  refine Rn.go 4 (j' := 166) (pc' := 15) (ls' := [some (.ref 0), some (.int x1), some (.int x2), some (.int x3), some (.int x4), some (.int x5), some (.int s0), none, none, none, none, none, none, none]) (st' := [.int x2, .ref 43]) (n' := 94) (M' := (I, J, xrf)) (fun f => rfl) ?_
  obtain ⟨o, ho, h⟩ := Option.bind_eq_some_iff.mp h
  refine Rn.call (d1 := d + 17) (j1 := 94) (ls1 := [some (.ref 43), some (.int x2), none]) (rest := []) (fun f => rfl) ?_
  refine p_X7_goingIndexOf (d := d + 14) x2 I J (t := o) ho ?_
  exact p_X11_beside_3 x1 x2 x3 x4 x5 s0 o.1 o.2.1 o.2.2 h hC
theorem p_X11_beside_1 {L : Nat} {xs : Nat → Int32} {d : Nat} {Q : xO → Prop} (x1 : Int32) (x2 : Int32) (x3 : Int32) (x4 : Int32) (x5 : Int32) (I : xI) (J : xJ) {t : Int32 × xI × xJ} (h : f_X11_beside_1 x1 x2 x3 x4 x5 I J = some t) (hC : (c_X11_beside Q) t) : Rn L xs (d + 18) 166 4 [some (.ref 0), some (.int x1), some (.int x2), some (.int x3), some (.int x4), some (.int x5), none, none, none, none, none, none, none, none] [.ref 43] 94 (I, J, xrf) Q := by
  unfold f_X11_beside_1 at h
  refine Rn.go 1 (j' := 166) (pc' := 5) (ls' := [some (.ref 0), some (.int x1), some (.int x2), some (.int x3), some (.int x4), some (.int x5), none, none, none, none, none, none, none, none]) (st' := [.int x1, .ref 43]) (n' := 94) (M' := (I, J, xrf)) (fun f => rfl) ?_
  obtain ⟨o, ho, h⟩ := Option.bind_eq_some_iff.mp h
  refine Rn.call (d1 := d + 17) (j1 := 94) (ls1 := [some (.ref 43), some (.int x1), none]) (rest := []) (fun f => rfl) ?_
  refine p_X7_goingIndexOf (d := d + 14) x1 I J (t := o) ho ?_
  exact p_X11_beside_2 x1 x2 x3 x4 x5 o.1 o.2.1 o.2.2 h hC
theorem p_X11_beside_0 {L : Nat} {xs : Nat → Int32} {d : Nat} {Q : xO → Prop} (x1 : Int32) (x2 : Int32) (x3 : Int32) (x4 : Int32) (x5 : Int32) (I : xI) (J : xJ) {t : Int32 × xI × xJ} (h : f_X11_beside_0 x1 x2 x3 x4 x5 I J = some t) (hC : (c_X11_beside Q) t) : Rn L xs (d + 18) 166 0 [some (.ref 0), some (.int x1), some (.int x2), some (.int x3), some (.int x4), some (.int x5), none, none, none, none, none, none, none, none] [] 94 (I, J, xrf) Q := by
  unfold f_X11_beside_0 at h
  refine Rn.go 1 (j' := 166) (pc' := 1) (ls' := [some (.ref 0), some (.int x1), some (.int x2), some (.int x3), some (.int x4), some (.int x5), none, none, none, none, none, none, none, none]) (st' := [.ref 0]) (n' := 94) (M' := (I, J, xrf)) (fun f => rfl) ?_
  obtain ⟨o, ho, h⟩ := Option.bind_eq_some_iff.mp h
  refine Rn.call (d1 := d + 17) (j1 := 179) (ls1 := [some (.ref 0)]) (rest := []) (fun f => rfl) ?_
  refine p_X11_partitionsNow (d := d + 0) I J (t := o) ho ?_
  exact p_X11_beside_1 x1 x2 x3 x4 x5 o.2.1 o.2.2 h hC
theorem p_X11_beside {L : Nat} {xs : Nat → Int32} {d : Nat} {Q : xO → Prop} (x1 : Int32) (x2 : Int32) (x3 : Int32) (x4 : Int32) (x5 : Int32) (I : xI) (J : xJ) {t : Int32 × xI × xJ} (h : f_X11_beside x1 x2 x3 x4 x5 I J = some t) (hC : Q ((some (.int t.1)), 94, (t.2.1, t.2.2, xrf))) : Rn L xs (d + 18) 166 0 [some (.ref 0), some (.int x1), some (.int x2), some (.int x3), some (.int x4), some (.int x5), none, none, none, none, none, none, none, none] [] 94 (I, J, xrf) Q := p_X11_beside_0 x1 x2 x3 x4 x5 I J h hC
/-! X5_bits -/
def c_X5_bits (Q : xO → Prop) (t : Int32 × xI × xJ) : Prop := Q ((some (.int t.1)), 94, (t.2.1, t.2.2, xrf))
def f_X5_bits_7 (s0 : Int32) (I : xI) (J : xJ) : Option (Int32 × xI × xJ) := some (s0, I, J)
def f_X5_bits_6 (I : xI) (J : xJ) : Option (Int32 × xI × xJ) := f_X5_bits_7 3 I J
def f_X5_bits_5 (I : xI) (J : xJ) : Option (Int32 × xI × xJ) := f_X5_bits_7 2 I J
def f_X5_bits_4 (I : xI) (J : xJ) : Option (Int32 × xI × xJ) := if 4 < (I 1 0) then f_X5_bits_6 I J else f_X5_bits_5 I J
def f_X5_bits_3 (I : xI) (J : xJ) : Option (Int32 × xI × xJ) := f_X5_bits_7 1 I J
def f_X5_bits_2 (I : xI) (J : xJ) : Option (Int32 × xI × xJ) := if (I 1 0) = 2 then f_X5_bits_3 I J else f_X5_bits_4 I J
def f_X5_bits_1 (I : xI) (J : xJ) : Option (Int32 × xI × xJ) := some (0, I, J)
def f_X5_bits_0 (I : xI) (J : xJ) : Option (Int32 × xI × xJ) := if 1 < (I 1 0) then f_X5_bits_2 I J else f_X5_bits_1 I J
def f_X5_bits (I : xI) (J : xJ) : Option (Int32 × xI × xJ) := f_X5_bits_0 I J
theorem p_X5_bits_7 {L : Nat} {xs : Nat → Int32} {d : Nat} {Q : xO → Prop} (s0 : Int32) (I : xI) (J : xJ) {t : Int32 × xI × xJ} (h : f_X5_bits_7 s0 I J = some t) (hC : (c_X5_bits Q) t) : Rn L xs (d + 1) 62 35 [some (.ref 1)] [.int s0] 94 (I, J, xrf) Q := by
  unfold f_X5_bits_7 at h
  cases h
  exact Rn.ret 1 (o := ((some (.int s0)), 94, (I, J, xrf))) (fun f => rfl) hC
theorem p_X5_bits_6 {L : Nat} {xs : Nat → Int32} {d : Nat} {Q : xO → Prop} (I : xI) (J : xJ) {t : Int32 × xI × xJ} (h : f_X5_bits_6 I J = some t) (hC : (c_X5_bits Q) t) : Rn L xs (d + 1) 62 34 [some (.ref 1)] [] 94 (I, J, xrf) Q := by
  unfold f_X5_bits_6 at h
  refine Rn.go 1 (j' := 62) (pc' := 35) (ls' := [some (.ref 1)]) (st' := [.int 3]) (n' := 94) (M' := (I, J, xrf)) (fun f => rfl) ?_
  exact p_X5_bits_7 3 I J h hC
theorem p_X5_bits_5 {L : Nat} {xs : Nat → Int32} {d : Nat} {Q : xO → Prop} (I : xI) (J : xJ) {t : Int32 × xI × xJ} (h : f_X5_bits_5 I J = some t) (hC : (c_X5_bits Q) t) : Rn L xs (d + 1) 62 30 [some (.ref 1)] [] 94 (I, J, xrf) Q := by
  unfold f_X5_bits_5 at h
  refine Rn.go 2 (j' := 62) (pc' := 35) (ls' := [some (.ref 1)]) (st' := [.int 2]) (n' := 94) (M' := (I, J, xrf)) (fun f => rfl) ?_
  exact p_X5_bits_7 2 I J h hC
theorem p_X5_bits_4 {L : Nat} {xs : Nat → Int32} {d : Nat} {Q : xO → Prop} (I : xI) (J : xJ) {t : Int32 × xI × xJ} (h : f_X5_bits_4 I J = some t) (hC : (c_X5_bits Q) t) : Rn L xs (d + 1) 62 22 [some (.ref 1)] [] 94 (I, J, xrf) Q := by
  unfold f_X5_bits_4 at h
  refine Rn.fi 4 (c := 4 < (I 1 0)) (p1 := 34) (l1 := [some (.ref 1)]) (s1 := []) (n1 := 94) (M1 := (I, J, xrf)) (p2 := 30) (l2 := [some (.ref 1)]) (s2 := []) (n2 := 94) (M2 := (I, J, xrf)) (fun f => rfl) (fun hc => ?_) (fun hc => ?_)
  · rw [if_pos hc] at h
    exact p_X5_bits_6 I J h hC
  · rw [if_neg hc] at h
    exact p_X5_bits_5 I J h hC
theorem p_X5_bits_3 {L : Nat} {xs : Nat → Int32} {d : Nat} {Q : xO → Prop} (I : xI) (J : xJ) {t : Int32 × xI × xJ} (h : f_X5_bits_3 I J = some t) (hC : (c_X5_bits Q) t) : Rn L xs (d + 1) 62 18 [some (.ref 1)] [] 94 (I, J, xrf) Q := by
  unfold f_X5_bits_3 at h
  refine Rn.go 2 (j' := 62) (pc' := 35) (ls' := [some (.ref 1)]) (st' := [.int 1]) (n' := 94) (M' := (I, J, xrf)) (fun f => rfl) ?_
  exact p_X5_bits_7 1 I J h hC
theorem p_X5_bits_2 {L : Nat} {xs : Nat → Int32} {d : Nat} {Q : xO → Prop} (I : xI) (J : xJ) {t : Int32 × xI × xJ} (h : f_X5_bits_2 I J = some t) (hC : (c_X5_bits Q) t) : Rn L xs (d + 1) 62 10 [some (.ref 1)] [] 94 (I, J, xrf) Q := by
  unfold f_X5_bits_2 at h
  refine Rn.fi 4 (c := (I 1 0) = 2) (p1 := 18) (l1 := [some (.ref 1)]) (s1 := []) (n1 := 94) (M1 := (I, J, xrf)) (p2 := 22) (l2 := [some (.ref 1)]) (s2 := []) (n2 := 94) (M2 := (I, J, xrf)) (fun f => rfl) (fun hc => ?_) (fun hc => ?_)
  · rw [if_pos hc] at h
    exact p_X5_bits_3 I J h hC
  · rw [if_neg hc] at h
    exact p_X5_bits_4 I J h hC
theorem p_X5_bits_1 {L : Nat} {xs : Nat → Int32} {d : Nat} {Q : xO → Prop} (I : xI) (J : xJ) {t : Int32 × xI × xJ} (h : f_X5_bits_1 I J = some t) (hC : (c_X5_bits Q) t) : Rn L xs (d + 1) 62 8 [some (.ref 1)] [] 94 (I, J, xrf) Q := by
  unfold f_X5_bits_1 at h
  cases h
  exact Rn.ret 2 (o := ((some (.int 0)), 94, (I, J, xrf))) (fun f => rfl) hC
theorem p_X5_bits_0 {L : Nat} {xs : Nat → Int32} {d : Nat} {Q : xO → Prop} (I : xI) (J : xJ) {t : Int32 × xI × xJ} (h : f_X5_bits_0 I J = some t) (hC : (c_X5_bits Q) t) : Rn L xs (d + 1) 62 0 [some (.ref 1)] [] 94 (I, J, xrf) Q := by
  unfold f_X5_bits_0 at h
  refine Rn.fi 4 (c := 1 < (I 1 0)) (p1 := 10) (l1 := [some (.ref 1)]) (s1 := []) (n1 := 94) (M1 := (I, J, xrf)) (p2 := 8) (l2 := [some (.ref 1)]) (s2 := []) (n2 := 94) (M2 := (I, J, xrf)) (fun f => rfl) (fun hc => ?_) (fun hc => ?_)
  · rw [if_pos hc] at h
    exact p_X5_bits_2 I J h hC
  · rw [if_neg hc] at h
    exact p_X5_bits_1 I J h hC
theorem p_X5_bits {L : Nat} {xs : Nat → Int32} {d : Nat} {Q : xO → Prop} (I : xI) (J : xJ) {t : Int32 × xI × xJ} (h : f_X5_bits I J = some t) (hC : Q ((some (.int t.1)), 94, (t.2.1, t.2.2, xrf))) : Rn L xs (d + 1) 62 0 [some (.ref 1)] [] 94 (I, J, xrf) Q := p_X5_bits_0 I J h hC
/-! X5_hasBit -/
def c_X5_hasBit (Q : xO → Prop) (t : Int32 × xI × xJ) : Prop := Q ((some (.int t.1)), 94, (t.2.1, t.2.2, xrf))
def f_X5_hasBit_5 (x1 : Int32) (s0 : Int32) (I : xI) (J : xJ) : Option (Int32 × xI × xJ) := if s0 = 0 ∨ s0 = 1 then some (s0, I, J) else none
def f_X5_hasBit_4 (x1 : Int32) (I : xI) (J : xJ) : Option (Int32 × xI × xJ) := f_X5_hasBit_5 x1 0 I J
def f_X5_hasBit_3 (x1 : Int32) (I : xI) (J : xJ) : Option (Int32 × xI × xJ) := f_X5_hasBit_5 x1 1 I J
def f_X5_hasBit_2 (x1 : Int32) (s0 : Int32) (s1 : Int32) (I : xI) (J : xJ) : Option (Int32 × xI × xJ) := if s1 ≤ s0 then f_X5_hasBit_4 x1 I J else f_X5_hasBit_3 x1 I J
def f_X5_hasBit_1 (x1 : Int32) (I : xI) (J : xJ) : Option (Int32 × xI × xJ) := (f_X5_bits I J).bind fun o => f_X5_hasBit_2 x1 x1 o.1 o.2.1 o.2.2
def f_X5_hasBit_0 (x1 : Int32) (I : xI) (J : xJ) : Option (Int32 × xI × xJ) := if x1 < 0 then f_X5_hasBit_4 x1 I J else f_X5_hasBit_1 x1 I J
def f_X5_hasBit (x1 : Int32) (I : xI) (J : xJ) : Option (Int32 × xI × xJ) := f_X5_hasBit_0 x1 I J
theorem p_X5_hasBit_5 {L : Nat} {xs : Nat → Int32} {d : Nat} {Q : xO → Prop} (x1 : Int32) (s0 : Int32) (I : xI) (J : xJ) {t : Int32 × xI × xJ} (h : f_X5_hasBit_5 x1 s0 I J = some t) (hC : (c_X5_hasBit Q) t) : Rn L xs (d + 2) 54 17 [some (.ref 1), some (.int x1)] [.int s0] 94 (I, J, xrf) Q := by
  unfold f_X5_hasBit_5 at h
  obtain ⟨hc, h⟩ := xifT h
  cases h
  exact Rn.retT 1 (c := s0 = 0 ∨ s0 = 1) (o := ((some (.int s0)), 94, (I, J, xrf))) (fun f => rfl) hc hC
theorem p_X5_hasBit_4 {L : Nat} {xs : Nat → Int32} {d : Nat} {Q : xO → Prop} (x1 : Int32) (I : xI) (J : xJ) {t : Int32 × xI × xJ} (h : f_X5_hasBit_4 x1 I J = some t) (hC : (c_X5_hasBit Q) t) : Rn L xs (d + 2) 54 16 [some (.ref 1), some (.int x1)] [] 94 (I, J, xrf) Q := by
  unfold f_X5_hasBit_4 at h
  refine Rn.go 1 (j' := 54) (pc' := 17) (ls' := [some (.ref 1), some (.int x1)]) (st' := [.int 0]) (n' := 94) (M' := (I, J, xrf)) (fun f => rfl) ?_
  exact p_X5_hasBit_5 x1 0 I J h hC
theorem p_X5_hasBit_3 {L : Nat} {xs : Nat → Int32} {d : Nat} {Q : xO → Prop} (x1 : Int32) (I : xI) (J : xJ) {t : Int32 × xI × xJ} (h : f_X5_hasBit_3 x1 I J = some t) (hC : (c_X5_hasBit Q) t) : Rn L xs (d + 2) 54 12 [some (.ref 1), some (.int x1)] [] 94 (I, J, xrf) Q := by
  unfold f_X5_hasBit_3 at h
  refine Rn.go 2 (j' := 54) (pc' := 17) (ls' := [some (.ref 1), some (.int x1)]) (st' := [.int 1]) (n' := 94) (M' := (I, J, xrf)) (fun f => rfl) ?_
  exact p_X5_hasBit_5 x1 1 I J h hC
theorem p_X5_hasBit_2 {L : Nat} {xs : Nat → Int32} {d : Nat} {Q : xO → Prop} (x1 : Int32) (s0 : Int32) (s1 : Int32) (I : xI) (J : xJ) {t : Int32 × xI × xJ} (h : f_X5_hasBit_2 x1 s0 s1 I J = some t) (hC : (c_X5_hasBit Q) t) : Rn L xs (d + 2) 54 9 [some (.ref 1), some (.int x1)] [.int s1, .int s0] 94 (I, J, xrf) Q := by
  unfold f_X5_hasBit_2 at h
  refine Rn.fi 1 (c := s1 ≤ s0) (p1 := 16) (l1 := [some (.ref 1), some (.int x1)]) (s1 := []) (n1 := 94) (M1 := (I, J, xrf)) (p2 := 12) (l2 := [some (.ref 1), some (.int x1)]) (s2 := []) (n2 := 94) (M2 := (I, J, xrf)) (fun f => rfl) (fun hc => ?_) (fun hc => ?_)
  · rw [if_pos hc] at h
    exact p_X5_hasBit_4 x1 I J h hC
  · rw [if_neg hc] at h
    exact p_X5_hasBit_3 x1 I J h hC
theorem p_X5_hasBit_1 {L : Nat} {xs : Nat → Int32} {d : Nat} {Q : xO → Prop} (x1 : Int32) (I : xI) (J : xJ) {t : Int32 × xI × xJ} (h : f_X5_hasBit_1 x1 I J = some t) (hC : (c_X5_hasBit Q) t) : Rn L xs (d + 2) 54 4 [some (.ref 1), some (.int x1)] [] 94 (I, J, xrf) Q := by
  unfold f_X5_hasBit_1 at h
  refine Rn.go 2 (j' := 54) (pc' := 6) (ls' := [some (.ref 1), some (.int x1)]) (st' := [.ref 1, .int x1]) (n' := 94) (M' := (I, J, xrf)) (fun f => rfl) ?_
  obtain ⟨o, ho, h⟩ := Option.bind_eq_some_iff.mp h
  refine Rn.call (d1 := d + 1) (j1 := 62) (ls1 := [some (.ref 1)]) (rest := [.int x1]) (fun f => rfl) ?_
  refine p_X5_bits (d := d + 0) I J (t := o) ho ?_
  exact p_X5_hasBit_2 x1 x1 o.1 o.2.1 o.2.2 h hC
theorem p_X5_hasBit_0 {L : Nat} {xs : Nat → Int32} {d : Nat} {Q : xO → Prop} (x1 : Int32) (I : xI) (J : xJ) {t : Int32 × xI × xJ} (h : f_X5_hasBit_0 x1 I J = some t) (hC : (c_X5_hasBit Q) t) : Rn L xs (d + 2) 54 0 [some (.ref 1), some (.int x1)] [] 94 (I, J, xrf) Q := by
  unfold f_X5_hasBit_0 at h
  refine Rn.fi 2 (c := x1 < 0) (p1 := 16) (l1 := [some (.ref 1), some (.int x1)]) (s1 := []) (n1 := 94) (M1 := (I, J, xrf)) (p2 := 4) (l2 := [some (.ref 1), some (.int x1)]) (s2 := []) (n2 := 94) (M2 := (I, J, xrf)) (fun f => rfl) (fun hc => ?_) (fun hc => ?_)
  · rw [if_pos hc] at h
    exact p_X5_hasBit_4 x1 I J h hC
  · rw [if_neg hc] at h
    exact p_X5_hasBit_1 x1 I J h hC
theorem p_X5_hasBit {L : Nat} {xs : Nat → Int32} {d : Nat} {Q : xO → Prop} (x1 : Int32) (I : xI) (J : xJ) {t : Int32 × xI × xJ} (h : f_X5_hasBit x1 I J = some t) (hC : Q ((some (.int t.1)), 94, (t.2.1, t.2.2, xrf))) : Rn L xs (d + 2) 54 0 [some (.ref 1), some (.int x1)] [] 94 (I, J, xrf) Q := p_X5_hasBit_0 x1 I J h hC
/-! X3_alikePairs_4 -/
def c_X3_alikePairs_4 (Q : xO → Prop) (t : Int32 × xI × xJ) : Prop := Q ((some (.int t.1)), 94, (t.2.1, t.2.2, xrf))
def c_X3_alikePairs_4_1 (L : Nat) (xs : Nat → Int32) (d : Nat) (Q : xO → Prop) (t : (Int32 × Int32 × Int32 × (Option Value) × xI × xJ) ⊕ (Int32 × xI × xJ)) : Prop := match t with
  | .inl s => Rn L xs (d + 2) 35 5 [some (.ref 48), some (.ref 4), some (.int s.1), some (.int s.2.1), some (.int s.2.2.1), s.2.2.2.1] [] 94 (s.2.2.2.2.1, s.2.2.2.2.2, xrf) Q
  | .inr t => (c_X3_alikePairs_4 Q) t
def c_X3_alikePairs_4_3 (L : Nat) (xs : Nat → Int32) (d : Nat) (Q : xO → Prop) (t : (Int32 × Int32 × Int32 × Int32 × xI × xJ) ⊕ ((Int32 × Int32 × Int32 × (Option Value) × xI × xJ) ⊕ (Int32 × xI × xJ))) : Prop := match t with
  | .inl s => Rn L xs (d + 2) 35 23 [some (.ref 48), some (.ref 4), some (.int s.1), some (.int s.2.1), some (.int s.2.2.1), some (.int s.2.2.2.1)] [] 94 (s.2.2.2.2.1, s.2.2.2.2.2, xrf) Q
  | .inr t => (c_X3_alikePairs_4_1 L xs d Q) t
def f_X3_alikePairs_4_9 (x2 : Int32) (x3 : Int32) (x4 : Int32) (z5 : Option Value) (I : xI) (J : xJ) : Option (Int32 × xI × xJ) := some (x3, I, J)
def f_X3_alikePairs_4_8 (x2 : Int32) (x3 : Int32) (x4 : Int32) (x5 : Int32) (I : xI) (J : xJ) : Option ((Int32 × Int32 × Int32 × (Option Value) × xI × xJ) ⊕ (Int32 × xI × xJ)) := some (.inl (x2, x3, ((x4 + 1)), (some (.int x5)), I, J))
def f_X3_alikePairs_4_7 (x2 : Int32) (x3 : Int32) (x4 : Int32) (x5 : Int32) (I : xI) (J : xJ) : Option ((Int32 × Int32 × Int32 × Int32 × xI × xJ) ⊕ ((Int32 × Int32 × Int32 × (Option Value) × xI × xJ) ⊕ (Int32 × xI × xJ))) := some (.inl (x2, x3, x4, ((x5 + 1)), I, J))
def f_X3_alikePairs_4_6 (x2 : Int32) (x3 : Int32) (x4 : Int32) (x5 : Int32) (s0 : Int32) (s1 : Int32) (I : xI) (J : xJ) : Option ((Int32 × Int32 × Int32 × Int32 × xI × xJ) ⊕ ((Int32 × Int32 × Int32 × (Option Value) × xI × xJ) ⊕ (Int32 × xI × xJ))) := f_X3_alikePairs_4_7 x2 ((s0 ||| s1)) x4 x5 I J
def f_X3_alikePairs_4_5 (x2 : Int32) (x3 : Int32) (x4 : Int32) (x5 : Int32) (I : xI) (J : xJ) : Option ((Int32 × Int32 × Int32 × Int32 × xI × xJ) ⊕ ((Int32 × Int32 × Int32 × (Option Value) × xI × xJ) ⊕ (Int32 × xI × xJ))) := (f_X11_pairOf x4 x5 I J).bind fun o => f_X3_alikePairs_4_6 x2 x3 x4 x5 x3 o.1 o.2.1 o.2.2
def f_X3_alikePairs_4_4 (x2 : Int32) (x3 : Int32) (x4 : Int32) (x5 : Int32) (I : xI) (J : xJ) : Option ((Int32 × Int32 × Int32 × Int32 × xI × xJ) ⊕ ((Int32 × Int32 × Int32 × (Option Value) × xI × xJ) ⊕ (Int32 × xI × xJ))) := if x4 < 0 ∨ 6 ≤ x4.toNatClampNeg then none else if x5 < 0 ∨ 6 ≤ x5.toNatClampNeg then none else if (((I 4 x4.toNatClampNeg) ^^^ (I 4 x5.toNatClampNeg)) &&& x2) = 0 then f_X3_alikePairs_4_5 x2 x3 x4 x5 I J else f_X3_alikePairs_4_7 x2 x3 x4 x5 I J
def b_X3_alikePairs_4_3 (x2 : Int32) (x3 : Int32) (x4 : Int32) (x5 : Int32) (I : xI) (J : xJ) : Option ((Int32 × Int32 × Int32 × Int32 × xI × xJ) ⊕ ((Int32 × Int32 × Int32 × (Option Value) × xI × xJ) ⊕ (Int32 × xI × xJ))) := if (I 1 0) ≤ x5 then ((f_X3_alikePairs_4_8 x2 x3 x4 x5 I J)).map .inr else f_X3_alikePairs_4_4 x2 x3 x4 x5 I J
def f_X3_alikePairs_4_3 (x2 : Int32) (x3 : Int32) (x4 : Int32) (x5 : Int32) (I : xI) (J : xJ) : Option ((Int32 × Int32 × Int32 × (Option Value) × xI × xJ) ⊕ (Int32 × xI × xJ)) := xloop (fun s : Int32 × Int32 × Int32 × Int32 × xI × xJ => b_X3_alikePairs_4_3 s.1 s.2.1 s.2.2.1 s.2.2.2.1 s.2.2.2.2.1 s.2.2.2.2.2) 5000 (x2, x3, x4, x5, I, J)
def f_X3_alikePairs_4_2 (x2 : Int32) (x3 : Int32) (x4 : Int32) (z5 : Option Value) (I : xI) (J : xJ) : Option ((Int32 × Int32 × Int32 × (Option Value) × xI × xJ) ⊕ (Int32 × xI × xJ)) := f_X3_alikePairs_4_3 x2 x3 x4 ((x4 + 1)) I J
def b_X3_alikePairs_4_1 (x2 : Int32) (x3 : Int32) (x4 : Int32) (z5 : Option Value) (I : xI) (J : xJ) : Option ((Int32 × Int32 × Int32 × (Option Value) × xI × xJ) ⊕ (Int32 × xI × xJ)) := if (I 1 0) ≤ x4 then ((f_X3_alikePairs_4_9 x2 x3 x4 z5 I J)).map .inr else f_X3_alikePairs_4_2 x2 x3 x4 z5 I J
def f_X3_alikePairs_4_1 (x2 : Int32) (x3 : Int32) (x4 : Int32) (z5 : Option Value) (I : xI) (J : xJ) : Option (Int32 × xI × xJ) := xloop (fun s : Int32 × Int32 × Int32 × (Option Value) × xI × xJ => b_X3_alikePairs_4_1 s.1 s.2.1 s.2.2.1 s.2.2.2.1 s.2.2.2.2.1 s.2.2.2.2.2) 5000 (x2, x3, x4, z5, I, J)
def f_X3_alikePairs_4_0 (x2 : Int32) (I : xI) (J : xJ) : Option (Int32 × xI × xJ) := f_X3_alikePairs_4_1 x2 0 0 none I J
def f_X3_alikePairs_4 (x2 : Int32) (I : xI) (J : xJ) : Option (Int32 × xI × xJ) := f_X3_alikePairs_4_0 x2 I J
theorem p_X3_alikePairs_4_9 {L : Nat} {xs : Nat → Int32} {d : Nat} {Q : xO → Prop} (x2 : Int32) (x3 : Int32) (x4 : Int32) (z5 : Option Value) (I : xI) (J : xJ) {t : Int32 × xI × xJ} (h : f_X3_alikePairs_4_9 x2 x3 x4 z5 I J = some t) (hC : (c_X3_alikePairs_4 Q) t) : Rn L xs (d + 2) 35 71 [some (.ref 48), some (.ref 4), some (.int x2), some (.int x3), some (.int x4), z5] [] 94 (I, J, xrf) Q := by
  unfold f_X3_alikePairs_4_9 at h
  cases h
  exact Rn.ret 2 (o := ((some (.int x3)), 94, (I, J, xrf))) (fun f => rfl) hC
theorem p_X3_alikePairs_4_8 {L : Nat} {xs : Nat → Int32} {d : Nat} {Q : xO → Prop} (x2 : Int32) (x3 : Int32) (x4 : Int32) (x5 : Int32) (I : xI) (J : xJ) {t : (Int32 × Int32 × Int32 × (Option Value) × xI × xJ) ⊕ (Int32 × xI × xJ)} (h : f_X3_alikePairs_4_8 x2 x3 x4 x5 I J = some t) (hC : (c_X3_alikePairs_4_1 L xs d Q) t) : Rn L xs (d + 2) 35 65 [some (.ref 48), some (.ref 4), some (.int x2), some (.int x3), some (.int x4), some (.int x5)] [] 94 (I, J, xrf) Q := by
  unfold f_X3_alikePairs_4_8 at h
  refine Rn.go 2 (j' := 35) (pc' := 5) (ls' := [some (.ref 48), some (.ref 4), some (.int x2), some (.int x3), some (.int ((x4 + 1))), some (.int x5)]) (st' := []) (n' := 94) (M' := (I, J, xrf)) (fun f => rfl) ?_
  cases h; exact hC
theorem p_X3_alikePairs_4_7 {L : Nat} {xs : Nat → Int32} {d : Nat} {Q : xO → Prop} (x2 : Int32) (x3 : Int32) (x4 : Int32) (x5 : Int32) (I : xI) (J : xJ) {t : (Int32 × Int32 × Int32 × Int32 × xI × xJ) ⊕ ((Int32 × Int32 × Int32 × (Option Value) × xI × xJ) ⊕ (Int32 × xI × xJ))} (h : f_X3_alikePairs_4_7 x2 x3 x4 x5 I J = some t) (hC : (c_X3_alikePairs_4_3 L xs d Q) t) : Rn L xs (d + 2) 35 59 [some (.ref 48), some (.ref 4), some (.int x2), some (.int x3), some (.int x4), some (.int x5)] [] 94 (I, J, xrf) Q := by
  unfold f_X3_alikePairs_4_7 at h
  refine Rn.go 2 (j' := 35) (pc' := 23) (ls' := [some (.ref 48), some (.ref 4), some (.int x2), some (.int x3), some (.int x4), some (.int ((x5 + 1)))]) (st' := []) (n' := 94) (M' := (I, J, xrf)) (fun f => rfl) ?_
  cases h; exact hC
theorem p_X3_alikePairs_4_6 {L : Nat} {xs : Nat → Int32} {d : Nat} {Q : xO → Prop} (x2 : Int32) (x3 : Int32) (x4 : Int32) (x5 : Int32) (s0 : Int32) (s1 : Int32) (I : xI) (J : xJ) {t : (Int32 × Int32 × Int32 × Int32 × xI × xJ) ⊕ ((Int32 × Int32 × Int32 × (Option Value) × xI × xJ) ⊕ (Int32 × xI × xJ))} (h : f_X3_alikePairs_4_6 x2 x3 x4 x5 s0 s1 I J = some t) (hC : (c_X3_alikePairs_4_3 L xs d Q) t) : Rn L xs (d + 2) 35 57 [some (.ref 48), some (.ref 4), some (.int x2), some (.int x3), some (.int x4), some (.int x5)] [.int s1, .int s0] 94 (I, J, xrf) Q := by
  unfold f_X3_alikePairs_4_6 at h
  refine Rn.go 2 (j' := 35) (pc' := 59) (ls' := [some (.ref 48), some (.ref 4), some (.int x2), some (.int ((s0 ||| s1))), some (.int x4), some (.int x5)]) (st' := []) (n' := 94) (M' := (I, J, xrf)) (fun f => rfl) ?_
  exact p_X3_alikePairs_4_7 x2 ((s0 ||| s1)) x4 x5 I J h hC
theorem p_X3_alikePairs_4_5 {L : Nat} {xs : Nat → Int32} {d : Nat} {Q : xO → Prop} (x2 : Int32) (x3 : Int32) (x4 : Int32) (x5 : Int32) (I : xI) (J : xJ) {t : (Int32 × Int32 × Int32 × Int32 × xI × xJ) ⊕ ((Int32 × Int32 × Int32 × (Option Value) × xI × xJ) ⊕ (Int32 × xI × xJ))} (h : f_X3_alikePairs_4_5 x2 x3 x4 x5 I J = some t) (hC : (c_X3_alikePairs_4_3 L xs d Q) t) : Rn L xs (d + 2) 35 49 [some (.ref 48), some (.ref 4), some (.int x2), some (.int x3), some (.int x4), some (.int x5)] [] 94 (I, J, xrf) Q := by
  unfold f_X3_alikePairs_4_5 at h
  refine Rn.go 3 (j' := 35) (pc' := 54) (ls' := [some (.ref 48), some (.ref 4), some (.int x2), some (.int x3), some (.int x4), some (.int x5)]) (st' := [.int x5, .int x4, .int x3]) (n' := 94) (M' := (I, J, xrf)) (fun f => rfl) ?_
  obtain ⟨o, ho, h⟩ := Option.bind_eq_some_iff.mp h
  refine Rn.call (d1 := d + 1) (j1 := 181) (ls1 := [some (.int x4), some (.int x5), none]) (rest := [.int x3]) (fun f => rfl) ?_
  refine p_X11_pairOf (d := d + 0) x4 x5 I J (t := o) ho ?_
  exact p_X3_alikePairs_4_6 x2 x3 x4 x5 x3 o.1 o.2.1 o.2.2 h hC
theorem p_X3_alikePairs_4_4 {L : Nat} {xs : Nat → Int32} {d : Nat} {Q : xO → Prop} (x2 : Int32) (x3 : Int32) (x4 : Int32) (x5 : Int32) (I : xI) (J : xJ) {t : (Int32 × Int32 × Int32 × Int32 × xI × xJ) ⊕ ((Int32 × Int32 × Int32 × (Option Value) × xI × xJ) ⊕ (Int32 × xI × xJ))} (h : f_X3_alikePairs_4_4 x2 x3 x4 x5 I J = some t) (hC : (c_X3_alikePairs_4_3 L xs d Q) t) : Rn L xs (d + 2) 35 35 [some (.ref 48), some (.ref 4), some (.int x2), some (.int x3), some (.int x4), some (.int x5)] [] 94 (I, J, xrf) Q := by
  unfold f_X3_alikePairs_4_4 at h
  obtain ⟨hc, h⟩ := xif h
  refine Rn.ok 3 (c := x4 < 0 ∨ 6 ≤ x4.toNatClampNeg) (p1 := 39) (l1 := [some (.ref 48), some (.ref 4), some (.int x2), some (.int x3), some (.int x4), some (.int x5)]) (s1 := [.int ((I 4 x4.toNatClampNeg))]) (n1 := 94) (M1 := (I, J, xrf)) (fun f => rfl) hc ?_
  obtain ⟨hc, h⟩ := xif h
  refine Rn.ok 3 (c := x5 < 0 ∨ 6 ≤ x5.toNatClampNeg) (p1 := 43) (l1 := [some (.ref 48), some (.ref 4), some (.int x2), some (.int x3), some (.int x4), some (.int x5)]) (s1 := [.int ((I 4 x5.toNatClampNeg)), .int ((I 4 x4.toNatClampNeg))]) (n1 := 94) (M1 := (I, J, xrf)) (fun f => rfl) hc ?_
  refine Rn.fi 4 (c := (((I 4 x4.toNatClampNeg) ^^^ (I 4 x5.toNatClampNeg)) &&& x2) = 0) (p1 := 49) (l1 := [some (.ref 48), some (.ref 4), some (.int x2), some (.int x3), some (.int x4), some (.int x5)]) (s1 := []) (n1 := 94) (M1 := (I, J, xrf)) (p2 := 59) (l2 := [some (.ref 48), some (.ref 4), some (.int x2), some (.int x3), some (.int x4), some (.int x5)]) (s2 := []) (n2 := 94) (M2 := (I, J, xrf)) (fun f => rfl) (fun hc => ?_) (fun hc => ?_)
  · rw [if_pos hc] at h
    exact p_X3_alikePairs_4_5 x2 x3 x4 x5 I J h hC
  · rw [if_neg hc] at h
    exact p_X3_alikePairs_4_7 x2 x3 x4 x5 I J h hC
theorem q_X3_alikePairs_4_3 {L : Nat} {xs : Nat → Int32} {d : Nat} {Q : xO → Prop} (x2 : Int32) (x3 : Int32) (x4 : Int32) (x5 : Int32) (I : xI) (J : xJ) {t : (Int32 × Int32 × Int32 × Int32 × xI × xJ) ⊕ ((Int32 × Int32 × Int32 × (Option Value) × xI × xJ) ⊕ (Int32 × xI × xJ))} (h : b_X3_alikePairs_4_3 x2 x3 x4 x5 I J = some t) (hC : (c_X3_alikePairs_4_3 L xs d Q) t) : Rn L xs (d + 2) 35 23 [some (.ref 48), some (.ref 4), some (.int x2), some (.int x3), some (.int x4), some (.int x5)] [] 94 (I, J, xrf) Q := by
  unfold b_X3_alikePairs_4_3 at h
  refine Rn.fi 5 (c := (I 1 0) ≤ x5) (p1 := 65) (l1 := [some (.ref 48), some (.ref 4), some (.int x2), some (.int x3), some (.int x4), some (.int x5)]) (s1 := []) (n1 := 94) (M1 := (I, J, xrf)) (p2 := 35) (l2 := [some (.ref 48), some (.ref 4), some (.int x2), some (.int x3), some (.int x4), some (.int x5)]) (s2 := []) (n2 := 94) (M2 := (I, J, xrf)) (fun f => rfl) (fun hc => ?_) (fun hc => ?_)
  · rw [if_pos hc] at h
    obtain ⟨t0, h0, rfl⟩ := Option.map_eq_some_iff.mp h
    exact p_X3_alikePairs_4_8 x2 x3 x4 x5 I J h0 hC
  · rw [if_neg hc] at h
    exact p_X3_alikePairs_4_4 x2 x3 x4 x5 I J h hC
theorem p_X3_alikePairs_4_3 {L : Nat} {xs : Nat → Int32} {d : Nat} {Q : xO → Prop} (x2 : Int32) (x3 : Int32) (x4 : Int32) (x5 : Int32) (I : xI) (J : xJ) {t : (Int32 × Int32 × Int32 × (Option Value) × xI × xJ) ⊕ (Int32 × xI × xJ)} (h : f_X3_alikePairs_4_3 x2 x3 x4 x5 I J = some t) (hC : (c_X3_alikePairs_4_1 L xs d Q) t) : Rn L xs (d + 2) 35 23 [some (.ref 48), some (.ref 4), some (.int x2), some (.int x3), some (.int x4), some (.int x5)] [] 94 (I, J, xrf) Q := by
  unfold f_X3_alikePairs_4_3 at h
  exact xloop_some (P := fun s : Int32 × Int32 × Int32 × Int32 × xI × xJ => Rn L xs (d + 2) 35 23 [some (.ref 48), some (.ref 4), some (.int s.1), some (.int s.2.1), some (.int s.2.2.1), some (.int s.2.2.2.1)] [] 94 (s.2.2.2.2.1, s.2.2.2.2.2, xrf) Q) t (fun s ⟨s', hb, hp⟩ => q_X3_alikePairs_4_3 s.1 s.2.1 s.2.2.1 s.2.2.2.1 s.2.2.2.2.1 s.2.2.2.2.2 hb hp) (fun s hb => q_X3_alikePairs_4_3 s.1 s.2.1 s.2.2.1 s.2.2.2.1 s.2.2.2.2.1 s.2.2.2.2.2 hb hC) _ _ h
theorem p_X3_alikePairs_4_2 {L : Nat} {xs : Nat → Int32} {d : Nat} {Q : xO → Prop} (x2 : Int32) (x3 : Int32) (x4 : Int32) (z5 : Option Value) (I : xI) (J : xJ) {t : (Int32 × Int32 × Int32 × (Option Value) × xI × xJ) ⊕ (Int32 × xI × xJ)} (h : f_X3_alikePairs_4_2 x2 x3 x4 z5 I J = some t) (hC : (c_X3_alikePairs_4_1 L xs d Q) t) : Rn L xs (d + 2) 35 17 [some (.ref 48), some (.ref 4), some (.int x2), some (.int x3), some (.int x4), z5] [] 94 (I, J, xrf) Q := by
  unfold f_X3_alikePairs_4_2 at h
  refine Rn.go 4 (j' := 35) (pc' := 23) (ls' := [some (.ref 48), some (.ref 4), some (.int x2), some (.int x3), some (.int x4), some (.int ((x4 + 1)))]) (st' := []) (n' := 94) (M' := (I, J, xrf)) (fun f => rfl) ?_
  exact p_X3_alikePairs_4_3 x2 x3 x4 ((x4 + 1)) I J h hC
theorem q_X3_alikePairs_4_1 {L : Nat} {xs : Nat → Int32} {d : Nat} {Q : xO → Prop} (x2 : Int32) (x3 : Int32) (x4 : Int32) (z5 : Option Value) (I : xI) (J : xJ) {t : (Int32 × Int32 × Int32 × (Option Value) × xI × xJ) ⊕ (Int32 × xI × xJ)} (h : b_X3_alikePairs_4_1 x2 x3 x4 z5 I J = some t) (hC : (c_X3_alikePairs_4_1 L xs d Q) t) : Rn L xs (d + 2) 35 5 [some (.ref 48), some (.ref 4), some (.int x2), some (.int x3), some (.int x4), z5] [] 94 (I, J, xrf) Q := by
  unfold b_X3_alikePairs_4_1 at h
  refine Rn.fi 5 (c := (I 1 0) ≤ x4) (p1 := 71) (l1 := [some (.ref 48), some (.ref 4), some (.int x2), some (.int x3), some (.int x4), z5]) (s1 := []) (n1 := 94) (M1 := (I, J, xrf)) (p2 := 17) (l2 := [some (.ref 48), some (.ref 4), some (.int x2), some (.int x3), some (.int x4), z5]) (s2 := []) (n2 := 94) (M2 := (I, J, xrf)) (fun f => rfl) (fun hc => ?_) (fun hc => ?_)
  · rw [if_pos hc] at h
    obtain ⟨t0, h0, rfl⟩ := Option.map_eq_some_iff.mp h
    exact p_X3_alikePairs_4_9 x2 x3 x4 z5 I J h0 hC
  · rw [if_neg hc] at h
    exact p_X3_alikePairs_4_2 x2 x3 x4 z5 I J h hC
theorem p_X3_alikePairs_4_1 {L : Nat} {xs : Nat → Int32} {d : Nat} {Q : xO → Prop} (x2 : Int32) (x3 : Int32) (x4 : Int32) (z5 : Option Value) (I : xI) (J : xJ) {t : Int32 × xI × xJ} (h : f_X3_alikePairs_4_1 x2 x3 x4 z5 I J = some t) (hC : (c_X3_alikePairs_4 Q) t) : Rn L xs (d + 2) 35 5 [some (.ref 48), some (.ref 4), some (.int x2), some (.int x3), some (.int x4), z5] [] 94 (I, J, xrf) Q := by
  unfold f_X3_alikePairs_4_1 at h
  exact xloop_some (P := fun s : Int32 × Int32 × Int32 × (Option Value) × xI × xJ => Rn L xs (d + 2) 35 5 [some (.ref 48), some (.ref 4), some (.int s.1), some (.int s.2.1), some (.int s.2.2.1), s.2.2.2.1] [] 94 (s.2.2.2.2.1, s.2.2.2.2.2, xrf) Q) t (fun s ⟨s', hb, hp⟩ => q_X3_alikePairs_4_1 s.1 s.2.1 s.2.2.1 s.2.2.2.1 s.2.2.2.2.1 s.2.2.2.2.2 hb hp) (fun s hb => q_X3_alikePairs_4_1 s.1 s.2.1 s.2.2.1 s.2.2.2.1 s.2.2.2.2.1 s.2.2.2.2.2 hb hC) _ _ h
theorem p_X3_alikePairs_4_0 {L : Nat} {xs : Nat → Int32} {d : Nat} {Q : xO → Prop} (x2 : Int32) (I : xI) (J : xJ) {t : Int32 × xI × xJ} (h : f_X3_alikePairs_4_0 x2 I J = some t) (hC : (c_X3_alikePairs_4 Q) t) : Rn L xs (d + 2) 35 0 [some (.ref 48), some (.ref 4), some (.int x2), none, none, none] [] 94 (I, J, xrf) Q := by
  unfold f_X3_alikePairs_4_0 at h
  refine Rn.go 4 (j' := 35) (pc' := 5) (ls' := [some (.ref 48), some (.ref 4), some (.int x2), some (.int 0), some (.int 0), none]) (st' := []) (n' := 94) (M' := (I, J, xrf)) (fun f => rfl) ?_
  exact p_X3_alikePairs_4_1 x2 0 0 none I J h hC
theorem p_X3_alikePairs_4 {L : Nat} {xs : Nat → Int32} {d : Nat} {Q : xO → Prop} (x2 : Int32) (I : xI) (J : xJ) {t : Int32 × xI × xJ} (h : f_X3_alikePairs_4 x2 I J = some t) (hC : Q ((some (.int t.1)), 94, (t.2.1, t.2.2, xrf))) : Rn L xs (d + 2) 35 0 [some (.ref 48), some (.ref 4), some (.int x2), none, none, none] [] 94 (I, J, xrf) Q := p_X3_alikePairs_4_0 x2 I J h hC
/-! X3_load_4 -/
def c_X3_load_4 (Q : xO → Prop) (t : Unit × xI × xJ) : Prop := Q (none, 94, (t.2.1, t.2.2, xrf))
def c_X3_load_4_7 (L : Nat) (xs : Nat → Int32) (d : Nat) (Q : xO → Prop) (t : (Int32 × Int32 × (Option Value) × (Option Value) × xI × xJ) ⊕ (Unit × xI × xJ)) : Prop := match t with
  | .inl s => Rn L xs (d + 3) 34 42 [some (.ref 48), some (.ref 4), some (.int s.1), some (.int s.2.1), s.2.2.1, s.2.2.2.1] [] 94 (s.2.2.2.2.1, s.2.2.2.2.2, xrf) Q
  | .inr t => (c_X3_load_4 Q) t
def c_X3_load_4_10 (L : Nat) (xs : Nat → Int32) (d : Nat) (Q : xO → Prop) (t : (Int32 × Int32 × Int32 × Int32 × xI × xJ) ⊕ ((Int32 × Int32 × (Option Value) × (Option Value) × xI × xJ) ⊕ (Unit × xI × xJ))) : Prop := match t with
  | .inl s => Rn L xs (d + 3) 34 61 [some (.ref 48), some (.ref 4), some (.int s.1), some (.int s.2.1), some (.int s.2.2.1), some (.int s.2.2.2.1)] [] 94 (s.2.2.2.2.1, s.2.2.2.2.2, xrf) Q
  | .inr t => (c_X3_load_4_7 L xs d Q) t
def c_X3_load_4_2 (L : Nat) (xs : Nat → Int32) (d : Nat) (Q : xO → Prop) (t : (Int32 × Int32 × xI × xJ) ⊕ (Unit × xI × xJ)) : Prop := match t with
  | .inl s => Rn L xs (d + 3) 34 9 [some (.ref 48), some (.ref 4), some (.int s.1), some (.int s.2.1), none, none] [] 94 (s.2.2.1, s.2.2.2, xrf) Q
  | .inr t => (c_X3_load_4 Q) t
def f_X3_load_4_18 (x2 : Int32) (x3 : Int32) (z4 : Option Value) (z5 : Option Value) (I : xI) (J : xJ) : Option (Unit × xI × xJ) := some ((), I, J)
def f_X3_load_4_17 (x2 : Int32) (x3 : Int32) (x4 : Int32) (x5 : Int32) (s1 : Int32) (s2 : Int32) (I : xI) (J : xJ) : Option ((Int32 × Int32 × (Option Value) × (Option Value) × xI × xJ) ⊕ (Unit × xI × xJ)) := if s1 < 0 ∨ 8 ≤ s1.toNatClampNeg then none else some (.inl (x2, ((x3 + 1)), (some (.int x4)), (some (.int x5)), ((xup I 50 s1.toNatClampNeg s2)), J))
def f_X3_load_4_16 (x2 : Int32) (x3 : Int32) (x4 : Int32) (x5 : Int32) (I : xI) (J : xJ) : Option ((Int32 × Int32 × (Option Value) × (Option Value) × xI × xJ) ⊕ (Unit × xI × xJ)) := (f_X6_followed x4 I J).bind fun o => f_X3_load_4_17 x2 x3 x4 x5 x3 o.1 o.2.1 o.2.2
def f_X3_load_4_15 (x2 : Int32) (x3 : Int32) (x4 : Int32) (x5 : Int32) (s0 : Int32) (s1 : Int32) (I : xI) (J : xJ) : Option ((Int32 × Int32 × Int32 × Int32 × xI × xJ) ⊕ ((Int32 × Int32 × (Option Value) × (Option Value) × xI × xJ) ⊕ (Unit × xI × xJ))) := some (.inl (x2, x3, ((s0 &&& s1)), ((x5 + 1)), I, J))
def f_X3_load_4_14 (x2 : Int32) (x3 : Int32) (x4 : Int32) (x5 : Int32) (s0 : Int32) (I : xI) (J : xJ) : Option ((Int32 × Int32 × Int32 × Int32 × xI × xJ) ⊕ ((Int32 × Int32 × (Option Value) × (Option Value) × xI × xJ) ⊕ (Unit × xI × xJ))) := f_X3_load_4_15 x2 x3 x4 x5 s0 x2 I J
def f_X3_load_4_13 (x2 : Int32) (x3 : Int32) (x4 : Int32) (x5 : Int32) (s0 : Int32) (I : xI) (J : xJ) : Option ((Int32 × Int32 × Int32 × Int32 × xI × xJ) ⊕ ((Int32 × Int32 × (Option Value) × (Option Value) × xI × xJ) ⊕ (Unit × xI × xJ))) := if x5 < 0 ∨ 3 ≤ x5.toNatClampNeg then none else f_X3_load_4_15 x2 x3 x4 x5 s0 ((I 49 x5.toNatClampNeg)) I J
def f_X3_load_4_12 (x2 : Int32) (x3 : Int32) (x4 : Int32) (x5 : Int32) (I : xI) (J : xJ) : Option ((Int32 × Int32 × Int32 × Int32 × xI × xJ) ⊕ ((Int32 × Int32 × (Option Value) × (Option Value) × xI × xJ) ⊕ (Unit × xI × xJ))) := if ((x3 >>> (x5 &&& 31)) &&& 1) = 1 then f_X3_load_4_13 x2 x3 x4 x5 x4 I J else f_X3_load_4_14 x2 x3 x4 x5 x4 I J
def f_X3_load_4_11 (x2 : Int32) (x3 : Int32) (x4 : Int32) (x5 : Int32) (s0 : Int32) (s1 : Int32) (I : xI) (J : xJ) : Option ((Int32 × Int32 × Int32 × Int32 × xI × xJ) ⊕ ((Int32 × Int32 × (Option Value) × (Option Value) × xI × xJ) ⊕ (Unit × xI × xJ))) := if s1 ≤ s0 then ((f_X3_load_4_16 x2 x3 x4 x5 I J)).map .inr else f_X3_load_4_12 x2 x3 x4 x5 I J
def b_X3_load_4_10 (x2 : Int32) (x3 : Int32) (x4 : Int32) (x5 : Int32) (I : xI) (J : xJ) : Option ((Int32 × Int32 × Int32 × Int32 × xI × xJ) ⊕ ((Int32 × Int32 × (Option Value) × (Option Value) × xI × xJ) ⊕ (Unit × xI × xJ))) := (f_X5_bits I J).bind fun o => f_X3_load_4_11 x2 x3 x4 x5 x5 o.1 o.2.1 o.2.2
def f_X3_load_4_10 (x2 : Int32) (x3 : Int32) (x4 : Int32) (x5 : Int32) (I : xI) (J : xJ) : Option ((Int32 × Int32 × (Option Value) × (Option Value) × xI × xJ) ⊕ (Unit × xI × xJ)) := xloop (fun s : Int32 × Int32 × Int32 × Int32 × xI × xJ => b_X3_load_4_10 s.1 s.2.1 s.2.2.1 s.2.2.2.1 s.2.2.2.2.1 s.2.2.2.2.2) 5000 (x2, x3, x4, x5, I, J)
def f_X3_load_4_9 (x2 : Int32) (x3 : Int32) (z4 : Option Value) (z5 : Option Value) (I : xI) (J : xJ) : Option ((Int32 × Int32 × (Option Value) × (Option Value) × xI × xJ) ⊕ (Unit × xI × xJ)) := f_X3_load_4_10 x2 x3 x2 0 I J
def f_X3_load_4_8 (x2 : Int32) (x3 : Int32) (z4 : Option Value) (z5 : Option Value) (s0 : Int32) (s1 : Int32) (s2 : Int32) (I : xI) (J : xJ) : Option ((Int32 × Int32 × (Option Value) × (Option Value) × xI × xJ) ⊕ (Unit × xI × xJ)) := if (s1 <<< (s2 &&& 31)) ≤ s0 then ((f_X3_load_4_18 x2 x3 z4 z5 I J)).map .inr else f_X3_load_4_9 x2 x3 z4 z5 I J
def b_X3_load_4_7 (x2 : Int32) (x3 : Int32) (z4 : Option Value) (z5 : Option Value) (I : xI) (J : xJ) : Option ((Int32 × Int32 × (Option Value) × (Option Value) × xI × xJ) ⊕ (Unit × xI × xJ)) := (f_X5_bits I J).bind fun o => f_X3_load_4_8 x2 x3 z4 z5 x3 1 o.1 o.2.1 o.2.2
def f_X3_load_4_7 (x2 : Int32) (x3 : Int32) (z4 : Option Value) (z5 : Option Value) (I : xI) (J : xJ) : Option (Unit × xI × xJ) := xloop (fun s : Int32 × Int32 × (Option Value) × (Option Value) × xI × xJ => b_X3_load_4_7 s.1 s.2.1 s.2.2.1 s.2.2.2.1 s.2.2.2.2.1 s.2.2.2.2.2) 5000 (x2, x3, z4, z5, I, J)
def f_X3_load_4_6 (x2 : Int32) (x3 : Int32) (I : xI) (J : xJ) : Option (Unit × xI × xJ) := f_X3_load_4_7 x2 0 none none I J
def f_X3_load_4_5 (x2 : Int32) (x3 : Int32) (s1 : Int32) (s2 : Int32) (I : xI) (J : xJ) : Option ((Int32 × Int32 × xI × xJ) ⊕ (Unit × xI × xJ)) := if s1 < 0 ∨ 3 ≤ s1.toNatClampNeg then none else some (.inl (x2, ((x3 + 1)), ((xup I 49 s1.toNatClampNeg s2)), J))
def f_X3_load_4_4 (x2 : Int32) (x3 : Int32) (I : xI) (J : xJ) : Option ((Int32 × Int32 × xI × xJ) ⊕ (Unit × xI × xJ)) := (f_X3_alikePairs_4 ((1 <<< (x3 &&& 31))) I J).bind fun o => f_X3_load_4_5 x2 x3 x3 o.1 o.2.1 o.2.2
def f_X3_load_4_3 (x2 : Int32) (x3 : Int32) (s0 : Int32) (s1 : Int32) (I : xI) (J : xJ) : Option ((Int32 × Int32 × xI × xJ) ⊕ (Unit × xI × xJ)) := if s1 ≤ s0 then ((f_X3_load_4_6 x2 x3 I J)).map .inr else f_X3_load_4_4 x2 x3 I J
def b_X3_load_4_2 (x2 : Int32) (x3 : Int32) (I : xI) (J : xJ) : Option ((Int32 × Int32 × xI × xJ) ⊕ (Unit × xI × xJ)) := (f_X5_bits I J).bind fun o => f_X3_load_4_3 x2 x3 x3 o.1 o.2.1 o.2.2
def f_X3_load_4_2 (x2 : Int32) (x3 : Int32) (I : xI) (J : xJ) : Option (Unit × xI × xJ) := xloop (fun s : Int32 × Int32 × xI × xJ => b_X3_load_4_2 s.1 s.2.1 s.2.2.1 s.2.2.2) 5000 (x2, x3, I, J)
def f_X3_load_4_1 (s0 : Int32) (I : xI) (J : xJ) : Option (Unit × xI × xJ) := f_X3_load_4_2 s0 0 I J
def f_X3_load_4_0 (I : xI) (J : xJ) : Option (Unit × xI × xJ) := (f_X3_alikePairs_4 0 I J).bind fun o => f_X3_load_4_1 o.1 o.2.1 o.2.2
def f_X3_load_4 (I : xI) (J : xJ) : Option (Unit × xI × xJ) := f_X3_load_4_0 I J
theorem p_X3_load_4_18 {L : Nat} {xs : Nat → Int32} {d : Nat} {Q : xO → Prop} (x2 : Int32) (x3 : Int32) (z4 : Option Value) (z5 : Option Value) (I : xI) (J : xJ) {t : Unit × xI × xJ} (h : f_X3_load_4_18 x2 x3 z4 z5 I J = some t) (hC : (c_X3_load_4 Q) t) : Rn L xs (d + 3) 34 126 [some (.ref 48), some (.ref 4), some (.int x2), some (.int x3), z4, z5] [] 94 (I, J, xrf) Q := by
  unfold f_X3_load_4_18 at h
  cases h
  exact Rn.ret 1 (o := (none, 94, (I, J, xrf))) (fun f => rfl) hC
theorem p_X3_load_4_17 {L : Nat} {xs : Nat → Int32} {d : Nat} {Q : xO → Prop} (x2 : Int32) (x3 : Int32) (x4 : Int32) (x5 : Int32) (s1 : Int32) (s2 : Int32) (I : xI) (J : xJ) {t : (Int32 × Int32 × (Option Value) × (Option Value) × xI × xJ) ⊕ (Unit × xI × xJ)} (h : f_X3_load_4_17 x2 x3 x4 x5 s1 s2 I J = some t) (hC : (c_X3_load_4_7 L xs d Q) t) : Rn L xs (d + 3) 34 119 [some (.ref 48), some (.ref 4), some (.int x2), some (.int x3), some (.int x4), some (.int x5)] [.int s2, .int s1, .ref 50] 94 (I, J, xrf) Q := by
  unfold f_X3_load_4_17 at h
  obtain ⟨hc, h⟩ := xif h
  refine Rn.ok 1 (c := s1 < 0 ∨ 8 ≤ s1.toNatClampNeg) (p1 := 120) (l1 := [some (.ref 48), some (.ref 4), some (.int x2), some (.int x3), some (.int x4), some (.int x5)]) (s1 := []) (n1 := 94) (M1 := ((xup I 50 s1.toNatClampNeg s2), J, xrf)) (fun f => rfl) hc ?_
  refine Rn.go 2 (j' := 34) (pc' := 42) (ls' := [some (.ref 48), some (.ref 4), some (.int x2), some (.int ((x3 + 1))), some (.int x4), some (.int x5)]) (st' := []) (n' := 94) (M' := ((xup I 50 s1.toNatClampNeg s2), J, xrf)) (fun f => rfl) ?_
  cases h; exact hC
theorem p_X3_load_4_16 {L : Nat} {xs : Nat → Int32} {d : Nat} {Q : xO → Prop} (x2 : Int32) (x3 : Int32) (x4 : Int32) (x5 : Int32) (I : xI) (J : xJ) {t : (Int32 × Int32 × (Option Value) × (Option Value) × xI × xJ) ⊕ (Unit × xI × xJ)} (h : f_X3_load_4_16 x2 x3 x4 x5 I J = some t) (hC : (c_X3_load_4_7 L xs d Q) t) : Rn L xs (d + 3) 34 105 [some (.ref 48), some (.ref 4), some (.int x2), some (.int x3), some (.int x4), some (.int x5)] [] 94 (I, J, xrf) Q := by
  unfold f_X3_load_4_16 at h
  refine Rn.go 6 (j' := 34) (pc' := 116) (ls' := [some (.ref 48), some (.ref 4), some (.int x2), some (.int x3), some (.int x4), some (.int x5)]) (st' := [.int x4, .ref 32, .int x3, .ref 50]) (n' := 94) (M' := (I, J, xrf)) (fun f => rfl) ?_
  obtain ⟨o, ho, h⟩ := Option.bind_eq_some_iff.mp h
  refine Rn.call (d1 := d + 2) (j1 := 78) (ls1 := [some (.ref 32), some (.int x4), none, none]) (rest := [.int x3, .ref 50]) (fun f => rfl) ?_
  refine p_X6_followed (d := d + 1) x4 I J (t := o) ho ?_
  exact p_X3_load_4_17 x2 x3 x4 x5 x3 o.1 o.2.1 o.2.2 h hC
theorem p_X3_load_4_15 {L : Nat} {xs : Nat → Int32} {d : Nat} {Q : xO → Prop} (x2 : Int32) (x3 : Int32) (x4 : Int32) (x5 : Int32) (s0 : Int32) (s1 : Int32) (I : xI) (J : xJ) {t : (Int32 × Int32 × Int32 × Int32 × xI × xJ) ⊕ ((Int32 × Int32 × (Option Value) × (Option Value) × xI × xJ) ⊕ (Unit × xI × xJ))} (h : f_X3_load_4_15 x2 x3 x4 x5 s0 s1 I J = some t) (hC : (c_X3_load_4_10 L xs d Q) t) : Rn L xs (d + 3) 34 96 [some (.ref 48), some (.ref 4), some (.int x2), some (.int x3), some (.int x4), some (.int x5)] [.int s1, .int s0] 94 (I, J, xrf) Q := by
  unfold f_X3_load_4_15 at h
  refine Rn.go 4 (j' := 34) (pc' := 61) (ls' := [some (.ref 48), some (.ref 4), some (.int x2), some (.int x3), some (.int ((s0 &&& s1))), some (.int ((x5 + 1)))]) (st' := []) (n' := 94) (M' := (I, J, xrf)) (fun f => rfl) ?_
  cases h; exact hC
theorem p_X3_load_4_14 {L : Nat} {xs : Nat → Int32} {d : Nat} {Q : xO → Prop} (x2 : Int32) (x3 : Int32) (x4 : Int32) (x5 : Int32) (s0 : Int32) (I : xI) (J : xJ) {t : (Int32 × Int32 × Int32 × Int32 × xI × xJ) ⊕ ((Int32 × Int32 × (Option Value) × (Option Value) × xI × xJ) ⊕ (Unit × xI × xJ))} (h : f_X3_load_4_14 x2 x3 x4 x5 s0 I J = some t) (hC : (c_X3_load_4_10 L xs d Q) t) : Rn L xs (d + 3) 34 95 [some (.ref 48), some (.ref 4), some (.int x2), some (.int x3), some (.int x4), some (.int x5)] [.int s0] 94 (I, J, xrf) Q := by
  unfold f_X3_load_4_14 at h
  refine Rn.go 1 (j' := 34) (pc' := 96) (ls' := [some (.ref 48), some (.ref 4), some (.int x2), some (.int x3), some (.int x4), some (.int x5)]) (st' := [.int x2, .int s0]) (n' := 94) (M' := (I, J, xrf)) (fun f => rfl) ?_
  exact p_X3_load_4_15 x2 x3 x4 x5 s0 x2 I J h hC
theorem p_X3_load_4_13 {L : Nat} {xs : Nat → Int32} {d : Nat} {Q : xO → Prop} (x2 : Int32) (x3 : Int32) (x4 : Int32) (x5 : Int32) (s0 : Int32) (I : xI) (J : xJ) {t : (Int32 × Int32 × Int32 × Int32 × xI × xJ) ⊕ ((Int32 × Int32 × (Option Value) × (Option Value) × xI × xJ) ⊕ (Unit × xI × xJ))} (h : f_X3_load_4_13 x2 x3 x4 x5 s0 I J = some t) (hC : (c_X3_load_4_10 L xs d Q) t) : Rn L xs (d + 3) 34 85 [some (.ref 48), some (.ref 4), some (.int x2), some (.int x3), some (.int x4), some (.int x5)] [.int s0] 94 (I, J, xrf) Q := by
  unfold f_X3_load_4_13 at h
  obtain ⟨hc, h⟩ := xif h
  refine Rn.ok 4 (c := x5 < 0 ∨ 3 ≤ x5.toNatClampNeg) (p1 := 92) (l1 := [some (.ref 48), some (.ref 4), some (.int x2), some (.int x3), some (.int x4), some (.int x5)]) (s1 := [.int ((I 49 x5.toNatClampNeg)), .int s0]) (n1 := 94) (M1 := (I, J, xrf)) (fun f => rfl) hc ?_
  refine Rn.go 1 (j' := 34) (pc' := 96) (ls' := [some (.ref 48), some (.ref 4), some (.int x2), some (.int x3), some (.int x4), some (.int x5)]) (st' := [.int ((I 49 x5.toNatClampNeg)), .int s0]) (n' := 94) (M' := (I, J, xrf)) (fun f => rfl) ?_
  exact p_X3_load_4_15 x2 x3 x4 x5 s0 ((I 49 x5.toNatClampNeg)) I J h hC
theorem p_X3_load_4_12 {L : Nat} {xs : Nat → Int32} {d : Nat} {Q : xO → Prop} (x2 : Int32) (x3 : Int32) (x4 : Int32) (x5 : Int32) (I : xI) (J : xJ) {t : (Int32 × Int32 × Int32 × Int32 × xI × xJ) ⊕ ((Int32 × Int32 × (Option Value) × (Option Value) × xI × xJ) ⊕ (Unit × xI × xJ))} (h : f_X3_load_4_12 x2 x3 x4 x5 I J = some t) (hC : (c_X3_load_4_10 L xs d Q) t) : Rn L xs (d + 3) 34 73 [some (.ref 48), some (.ref 4), some (.int x2), some (.int x3), some (.int x4), some (.int x5)] [] 94 (I, J, xrf) Q := by
  unfold f_X3_load_4_12 at h
  refine Rn.fi 8 (c := ((x3 >>> (x5 &&& 31)) &&& 1) = 1) (p1 := 85) (l1 := [some (.ref 48), some (.ref 4), some (.int x2), some (.int x3), some (.int x4), some (.int x5)]) (s1 := [.int x4]) (n1 := 94) (M1 := (I, J, xrf)) (p2 := 95) (l2 := [some (.ref 48), some (.ref 4), some (.int x2), some (.int x3), some (.int x4), some (.int x5)]) (s2 := [.int x4]) (n2 := 94) (M2 := (I, J, xrf)) (fun f => rfl) (fun hc => ?_) (fun hc => ?_)
  · rw [if_pos hc] at h
    exact p_X3_load_4_13 x2 x3 x4 x5 x4 I J h hC
  · rw [if_neg hc] at h
    exact p_X3_load_4_14 x2 x3 x4 x5 x4 I J h hC
theorem p_X3_load_4_11 {L : Nat} {xs : Nat → Int32} {d : Nat} {Q : xO → Prop} (x2 : Int32) (x3 : Int32) (x4 : Int32) (x5 : Int32) (s0 : Int32) (s1 : Int32) (I : xI) (J : xJ) {t : (Int32 × Int32 × Int32 × Int32 × xI × xJ) ⊕ ((Int32 × Int32 × (Option Value) × (Option Value) × xI × xJ) ⊕ (Unit × xI × xJ))} (h : f_X3_load_4_11 x2 x3 x4 x5 s0 s1 I J = some t) (hC : (c_X3_load_4_10 L xs d Q) t) : Rn L xs (d + 3) 34 70 [some (.ref 48), some (.ref 4), some (.int x2), some (.int x3), some (.int x4), some (.int x5)] [.int s1, .int s0] 94 (I, J, xrf) Q := by
  unfold f_X3_load_4_11 at h
  refine Rn.fi 1 (c := s1 ≤ s0) (p1 := 105) (l1 := [some (.ref 48), some (.ref 4), some (.int x2), some (.int x3), some (.int x4), some (.int x5)]) (s1 := []) (n1 := 94) (M1 := (I, J, xrf)) (p2 := 73) (l2 := [some (.ref 48), some (.ref 4), some (.int x2), some (.int x3), some (.int x4), some (.int x5)]) (s2 := []) (n2 := 94) (M2 := (I, J, xrf)) (fun f => rfl) (fun hc => ?_) (fun hc => ?_)
  · rw [if_pos hc] at h
    obtain ⟨t0, h0, rfl⟩ := Option.map_eq_some_iff.mp h
    exact p_X3_load_4_16 x2 x3 x4 x5 I J h0 hC
  · rw [if_neg hc] at h
    exact p_X3_load_4_12 x2 x3 x4 x5 I J h hC
theorem q_X3_load_4_10 {L : Nat} {xs : Nat → Int32} {d : Nat} {Q : xO → Prop} (x2 : Int32) (x3 : Int32) (x4 : Int32) (x5 : Int32) (I : xI) (J : xJ) {t : (Int32 × Int32 × Int32 × Int32 × xI × xJ) ⊕ ((Int32 × Int32 × (Option Value) × (Option Value) × xI × xJ) ⊕ (Unit × xI × xJ))} (h : b_X3_load_4_10 x2 x3 x4 x5 I J = some t) (hC : (c_X3_load_4_10 L xs d Q) t) : Rn L xs (d + 3) 34 61 [some (.ref 48), some (.ref 4), some (.int x2), some (.int x3), some (.int x4), some (.int x5)] [] 94 (I, J, xrf) Q := by
  unfold b_X3_load_4_10 at h
  refine Rn.go 3 (j' := 34) (pc' := 67) (ls' := [some (.ref 48), some (.ref 4), some (.int x2), some (.int x3), some (.int x4), some (.int x5)]) (st' := [.ref 1, .int x5]) (n' := 94) (M' := (I, J, xrf)) (fun f => rfl) ?_
  obtain ⟨o, ho, h⟩ := Option.bind_eq_some_iff.mp h
  refine Rn.call (d1 := d + 2) (j1 := 62) (ls1 := [some (.ref 1)]) (rest := [.int x5]) (fun f => rfl) ?_
  refine p_X5_bits (d := d + 1) I J (t := o) ho ?_
  exact p_X3_load_4_11 x2 x3 x4 x5 x5 o.1 o.2.1 o.2.2 h hC
theorem p_X3_load_4_10 {L : Nat} {xs : Nat → Int32} {d : Nat} {Q : xO → Prop} (x2 : Int32) (x3 : Int32) (x4 : Int32) (x5 : Int32) (I : xI) (J : xJ) {t : (Int32 × Int32 × (Option Value) × (Option Value) × xI × xJ) ⊕ (Unit × xI × xJ)} (h : f_X3_load_4_10 x2 x3 x4 x5 I J = some t) (hC : (c_X3_load_4_7 L xs d Q) t) : Rn L xs (d + 3) 34 61 [some (.ref 48), some (.ref 4), some (.int x2), some (.int x3), some (.int x4), some (.int x5)] [] 94 (I, J, xrf) Q := by
  unfold f_X3_load_4_10 at h
  exact xloop_some (P := fun s : Int32 × Int32 × Int32 × Int32 × xI × xJ => Rn L xs (d + 3) 34 61 [some (.ref 48), some (.ref 4), some (.int s.1), some (.int s.2.1), some (.int s.2.2.1), some (.int s.2.2.2.1)] [] 94 (s.2.2.2.2.1, s.2.2.2.2.2, xrf) Q) t (fun s ⟨s', hb, hp⟩ => q_X3_load_4_10 s.1 s.2.1 s.2.2.1 s.2.2.2.1 s.2.2.2.2.1 s.2.2.2.2.2 hb hp) (fun s hb => q_X3_load_4_10 s.1 s.2.1 s.2.2.1 s.2.2.2.1 s.2.2.2.2.1 s.2.2.2.2.2 hb hC) _ _ h
theorem p_X3_load_4_9 {L : Nat} {xs : Nat → Int32} {d : Nat} {Q : xO → Prop} (x2 : Int32) (x3 : Int32) (z4 : Option Value) (z5 : Option Value) (I : xI) (J : xJ) {t : (Int32 × Int32 × (Option Value) × (Option Value) × xI × xJ) ⊕ (Unit × xI × xJ)} (h : f_X3_load_4_9 x2 x3 z4 z5 I J = some t) (hC : (c_X3_load_4_7 L xs d Q) t) : Rn L xs (d + 3) 34 55 [some (.ref 48), some (.ref 4), some (.int x2), some (.int x3), z4, z5] [] 94 (I, J, xrf) Q := by
  unfold f_X3_load_4_9 at h
  refine Rn.go 4 (j' := 34) (pc' := 61) (ls' := [some (.ref 48), some (.ref 4), some (.int x2), some (.int x3), some (.int x2), some (.int 0)]) (st' := []) (n' := 94) (M' := (I, J, xrf)) (fun f => rfl) ?_
  exact p_X3_load_4_10 x2 x3 x2 0 I J h hC
theorem p_X3_load_4_8 {L : Nat} {xs : Nat → Int32} {d : Nat} {Q : xO → Prop} (x2 : Int32) (x3 : Int32) (z4 : Option Value) (z5 : Option Value) (s0 : Int32) (s1 : Int32) (s2 : Int32) (I : xI) (J : xJ) {t : (Int32 × Int32 × (Option Value) × (Option Value) × xI × xJ) ⊕ (Unit × xI × xJ)} (h : f_X3_load_4_8 x2 x3 z4 z5 s0 s1 s2 I J = some t) (hC : (c_X3_load_4_7 L xs d Q) t) : Rn L xs (d + 3) 34 51 [some (.ref 48), some (.ref 4), some (.int x2), some (.int x3), z4, z5] [.int s2, .int s1, .int s0] 94 (I, J, xrf) Q := by
  unfold f_X3_load_4_8 at h
  refine Rn.fi 2 (c := (s1 <<< (s2 &&& 31)) ≤ s0) (p1 := 126) (l1 := [some (.ref 48), some (.ref 4), some (.int x2), some (.int x3), z4, z5]) (s1 := []) (n1 := 94) (M1 := (I, J, xrf)) (p2 := 55) (l2 := [some (.ref 48), some (.ref 4), some (.int x2), some (.int x3), z4, z5]) (s2 := []) (n2 := 94) (M2 := (I, J, xrf)) (fun f => rfl) (fun hc => ?_) (fun hc => ?_)
  · rw [if_pos hc] at h
    obtain ⟨t0, h0, rfl⟩ := Option.map_eq_some_iff.mp h
    exact p_X3_load_4_18 x2 x3 z4 z5 I J h0 hC
  · rw [if_neg hc] at h
    exact p_X3_load_4_9 x2 x3 z4 z5 I J h hC
theorem q_X3_load_4_7 {L : Nat} {xs : Nat → Int32} {d : Nat} {Q : xO → Prop} (x2 : Int32) (x3 : Int32) (z4 : Option Value) (z5 : Option Value) (I : xI) (J : xJ) {t : (Int32 × Int32 × (Option Value) × (Option Value) × xI × xJ) ⊕ (Unit × xI × xJ)} (h : b_X3_load_4_7 x2 x3 z4 z5 I J = some t) (hC : (c_X3_load_4_7 L xs d Q) t) : Rn L xs (d + 3) 34 42 [some (.ref 48), some (.ref 4), some (.int x2), some (.int x3), z4, z5] [] 94 (I, J, xrf) Q := by
  unfold b_X3_load_4_7 at h
  refine Rn.go 4 (j' := 34) (pc' := 48) (ls' := [some (.ref 48), some (.ref 4), some (.int x2), some (.int x3), z4, z5]) (st' := [.ref 1, .int 1, .int x3]) (n' := 94) (M' := (I, J, xrf)) (fun f => rfl) ?_
  obtain ⟨o, ho, h⟩ := Option.bind_eq_some_iff.mp h
  refine Rn.call (d1 := d + 2) (j1 := 62) (ls1 := [some (.ref 1)]) (rest := [.int 1, .int x3]) (fun f => rfl) ?_
  refine p_X5_bits (d := d + 1) I J (t := o) ho ?_
  exact p_X3_load_4_8 x2 x3 z4 z5 x3 1 o.1 o.2.1 o.2.2 h hC
theorem p_X3_load_4_7 {L : Nat} {xs : Nat → Int32} {d : Nat} {Q : xO → Prop} (x2 : Int32) (x3 : Int32) (z4 : Option Value) (z5 : Option Value) (I : xI) (J : xJ) {t : Unit × xI × xJ} (h : f_X3_load_4_7 x2 x3 z4 z5 I J = some t) (hC : (c_X3_load_4 Q) t) : Rn L xs (d + 3) 34 42 [some (.ref 48), some (.ref 4), some (.int x2), some (.int x3), z4, z5] [] 94 (I, J, xrf) Q := by
  unfold f_X3_load_4_7 at h
  exact xloop_some (P := fun s : Int32 × Int32 × (Option Value) × (Option Value) × xI × xJ => Rn L xs (d + 3) 34 42 [some (.ref 48), some (.ref 4), some (.int s.1), some (.int s.2.1), s.2.2.1, s.2.2.2.1] [] 94 (s.2.2.2.2.1, s.2.2.2.2.2, xrf) Q) t (fun s ⟨s', hb, hp⟩ => q_X3_load_4_7 s.1 s.2.1 s.2.2.1 s.2.2.2.1 s.2.2.2.2.1 s.2.2.2.2.2 hb hp) (fun s hb => q_X3_load_4_7 s.1 s.2.1 s.2.2.1 s.2.2.2.1 s.2.2.2.2.1 s.2.2.2.2.2 hb hC) _ _ h
theorem p_X3_load_4_6 {L : Nat} {xs : Nat → Int32} {d : Nat} {Q : xO → Prop} (x2 : Int32) (x3 : Int32) (I : xI) (J : xJ) {t : Unit × xI × xJ} (h : f_X3_load_4_6 x2 x3 I J = some t) (hC : (c_X3_load_4 Q) t) : Rn L xs (d + 3) 34 40 [some (.ref 48), some (.ref 4), some (.int x2), some (.int x3), none, none] [] 94 (I, J, xrf) Q := by
  unfold f_X3_load_4_6 at h
  refine Rn.go 2 (j' := 34) (pc' := 42) (ls' := [some (.ref 48), some (.ref 4), some (.int x2), some (.int 0), none, none]) (st' := []) (n' := 94) (M' := (I, J, xrf)) (fun f => rfl) ?_
  exact p_X3_load_4_7 x2 0 none none I J h hC
theorem p_X3_load_4_5 {L : Nat} {xs : Nat → Int32} {d : Nat} {Q : xO → Prop} (x2 : Int32) (x3 : Int32) (s1 : Int32) (s2 : Int32) (I : xI) (J : xJ) {t : (Int32 × Int32 × xI × xJ) ⊕ (Unit × xI × xJ)} (h : f_X3_load_4_5 x2 x3 s1 s2 I J = some t) (hC : (c_X3_load_4_2 L xs d Q) t) : Rn L xs (d + 3) 34 33 [some (.ref 48), some (.ref 4), some (.int x2), some (.int x3), none, none] [.int s2, .int s1, .ref 49] 94 (I, J, xrf) Q := by
  unfold f_X3_load_4_5 at h
  obtain ⟨hc, h⟩ := xif h
  refine Rn.ok 1 (c := s1 < 0 ∨ 3 ≤ s1.toNatClampNeg) (p1 := 34) (l1 := [some (.ref 48), some (.ref 4), some (.int x2), some (.int x3), none, none]) (s1 := []) (n1 := 94) (M1 := ((xup I 49 s1.toNatClampNeg s2), J, xrf)) (fun f => rfl) hc ?_
  refine Rn.go 2 (j' := 34) (pc' := 9) (ls' := [some (.ref 48), some (.ref 4), some (.int x2), some (.int ((x3 + 1))), none, none]) (st' := []) (n' := 94) (M' := ((xup I 49 s1.toNatClampNeg s2), J, xrf)) (fun f => rfl) ?_
  cases h; exact hC
theorem p_X3_load_4_4 {L : Nat} {xs : Nat → Int32} {d : Nat} {Q : xO → Prop} (x2 : Int32) (x3 : Int32) (I : xI) (J : xJ) {t : (Int32 × Int32 × xI × xJ) ⊕ (Unit × xI × xJ)} (h : f_X3_load_4_4 x2 x3 I J = some t) (hC : (c_X3_load_4_2 L xs d Q) t) : Rn L xs (d + 3) 34 20 [some (.ref 48), some (.ref 4), some (.int x2), some (.int x3), none, none] [] 94 (I, J, xrf) Q := by
  unfold f_X3_load_4_4 at h
  refine Rn.go 8 (j' := 34) (pc' := 30) (ls' := [some (.ref 48), some (.ref 4), some (.int x2), some (.int x3), none, none]) (st' := [.int ((1 <<< (x3 &&& 31))), .ref 4, .ref 48, .int x3, .ref 49]) (n' := 94) (M' := (I, J, xrf)) (fun f => rfl) ?_
  obtain ⟨o, ho, h⟩ := Option.bind_eq_some_iff.mp h
  refine Rn.call (d1 := d + 2) (j1 := 35) (ls1 := [some (.ref 48), some (.ref 4), some (.int ((1 <<< (x3 &&& 31)))), none, none, none]) (rest := [.int x3, .ref 49]) (fun f => rfl) ?_
  refine p_X3_alikePairs_4 (d := d + 0) ((1 <<< (x3 &&& 31))) I J (t := o) ho ?_
  exact p_X3_load_4_5 x2 x3 x3 o.1 o.2.1 o.2.2 h hC
theorem p_X3_load_4_3 {L : Nat} {xs : Nat → Int32} {d : Nat} {Q : xO → Prop} (x2 : Int32) (x3 : Int32) (s0 : Int32) (s1 : Int32) (I : xI) (J : xJ) {t : (Int32 × Int32 × xI × xJ) ⊕ (Unit × xI × xJ)} (h : f_X3_load_4_3 x2 x3 s0 s1 I J = some t) (hC : (c_X3_load_4_2 L xs d Q) t) : Rn L xs (d + 3) 34 17 [some (.ref 48), some (.ref 4), some (.int x2), some (.int x3), none, none] [.int s1, .int s0] 94 (I, J, xrf) Q := by
  unfold f_X3_load_4_3 at h
  refine Rn.fi 1 (c := s1 ≤ s0) (p1 := 40) (l1 := [some (.ref 48), some (.ref 4), some (.int x2), some (.int x3), none, none]) (s1 := []) (n1 := 94) (M1 := (I, J, xrf)) (p2 := 20) (l2 := [some (.ref 48), some (.ref 4), some (.int x2), some (.int x3), none, none]) (s2 := []) (n2 := 94) (M2 := (I, J, xrf)) (fun f => rfl) (fun hc => ?_) (fun hc => ?_)
  · rw [if_pos hc] at h
    obtain ⟨t0, h0, rfl⟩ := Option.map_eq_some_iff.mp h
    exact p_X3_load_4_6 x2 x3 I J h0 hC
  · rw [if_neg hc] at h
    exact p_X3_load_4_4 x2 x3 I J h hC
theorem q_X3_load_4_2 {L : Nat} {xs : Nat → Int32} {d : Nat} {Q : xO → Prop} (x2 : Int32) (x3 : Int32) (I : xI) (J : xJ) {t : (Int32 × Int32 × xI × xJ) ⊕ (Unit × xI × xJ)} (h : b_X3_load_4_2 x2 x3 I J = some t) (hC : (c_X3_load_4_2 L xs d Q) t) : Rn L xs (d + 3) 34 9 [some (.ref 48), some (.ref 4), some (.int x2), some (.int x3), none, none] [] 94 (I, J, xrf) Q := by
  unfold b_X3_load_4_2 at h
  refine Rn.go 3 (j' := 34) (pc' := 14) (ls' := [some (.ref 48), some (.ref 4), some (.int x2), some (.int x3), none, none]) (st' := [.ref 1, .int x3]) (n' := 94) (M' := (I, J, xrf)) (fun f => rfl) ?_
  obtain ⟨o, ho, h⟩ := Option.bind_eq_some_iff.mp h
  refine Rn.call (d1 := d + 2) (j1 := 62) (ls1 := [some (.ref 1)]) (rest := [.int x3]) (fun f => rfl) ?_
  refine p_X5_bits (d := d + 1) I J (t := o) ho ?_
  exact p_X3_load_4_3 x2 x3 x3 o.1 o.2.1 o.2.2 h hC
theorem p_X3_load_4_2 {L : Nat} {xs : Nat → Int32} {d : Nat} {Q : xO → Prop} (x2 : Int32) (x3 : Int32) (I : xI) (J : xJ) {t : Unit × xI × xJ} (h : f_X3_load_4_2 x2 x3 I J = some t) (hC : (c_X3_load_4 Q) t) : Rn L xs (d + 3) 34 9 [some (.ref 48), some (.ref 4), some (.int x2), some (.int x3), none, none] [] 94 (I, J, xrf) Q := by
  unfold f_X3_load_4_2 at h
  exact xloop_some (P := fun s : Int32 × Int32 × xI × xJ => Rn L xs (d + 3) 34 9 [some (.ref 48), some (.ref 4), some (.int s.1), some (.int s.2.1), none, none] [] 94 (s.2.2.1, s.2.2.2, xrf) Q) t (fun s ⟨s', hb, hp⟩ => q_X3_load_4_2 s.1 s.2.1 s.2.2.1 s.2.2.2 hb hp) (fun s hb => q_X3_load_4_2 s.1 s.2.1 s.2.2.1 s.2.2.2 hb hC) _ _ h
theorem p_X3_load_4_1 {L : Nat} {xs : Nat → Int32} {d : Nat} {Q : xO → Prop} (s0 : Int32) (I : xI) (J : xJ) {t : Unit × xI × xJ} (h : f_X3_load_4_1 s0 I J = some t) (hC : (c_X3_load_4 Q) t) : Rn L xs (d + 3) 34 6 [some (.ref 48), some (.ref 4), none, none, none, none] [.int s0] 94 (I, J, xrf) Q := by
  unfold f_X3_load_4_1 at h
  refine Rn.go 3 (j' := 34) (pc' := 9) (ls' := [some (.ref 48), some (.ref 4), some (.int s0), some (.int 0), none, none]) (st' := []) (n' := 94) (M' := (I, J, xrf)) (fun f => rfl) ?_
  exact p_X3_load_4_2 s0 0 I J h hC
theorem p_X3_load_4_0 {L : Nat} {xs : Nat → Int32} {d : Nat} {Q : xO → Prop} (I : xI) (J : xJ) {t : Unit × xI × xJ} (h : f_X3_load_4_0 I J = some t) (hC : (c_X3_load_4 Q) t) : Rn L xs (d + 3) 34 0 [some (.ref 48), some (.ref 4), none, none, none, none] [] 94 (I, J, xrf) Q := by
  unfold f_X3_load_4_0 at h
  refine Rn.go 3 (j' := 34) (pc' := 3) (ls' := [some (.ref 48), some (.ref 4), none, none, none, none]) (st' := [.int 0, .ref 4, .ref 48]) (n' := 94) (M' := (I, J, xrf)) (fun f => rfl) ?_
  obtain ⟨o, ho, h⟩ := Option.bind_eq_some_iff.mp h
  refine Rn.call (d1 := d + 2) (j1 := 35) (ls1 := [some (.ref 48), some (.ref 4), some (.int 0), none, none, none]) (rest := []) (fun f => rfl) ?_
  refine p_X3_alikePairs_4 (d := d + 0) 0 I J (t := o) ho ?_
  exact p_X3_load_4_1 o.1 o.2.1 o.2.2 h hC
theorem p_X3_load_4 {L : Nat} {xs : Nat → Int32} {d : Nat} {Q : xO → Prop} (I : xI) (J : xJ) {t : Unit × xI × xJ} (h : f_X3_load_4 I J = some t) (hC : Q (none, 94, (t.2.1, t.2.2, xrf))) : Rn L xs (d + 3) 34 0 [some (.ref 48), some (.ref 4), none, none, none, none] [] 94 (I, J, xrf) Q := p_X3_load_4_0 I J h hC
/-! X11_hangingNow -/
def c_X11_hangingNow (Q : xO → Prop) (t : Unit × xI × xJ) : Prop := Q ((some (.ref 48)), 94, (t.2.1, t.2.2, xrf))
def f_X11_hangingNow_2 (I : xI) (J : xJ) : Option (Unit × xI × xJ) := some ((), I, J)
def f_X11_hangingNow_1 (I : xI) (J : xJ) : Option (Unit × xI × xJ) := (f_X3_load_4 I J).bind fun o => f_X11_hangingNow_2 o.2.1 o.2.2
def f_X11_hangingNow_0 (I : xI) (J : xJ) : Option (Unit × xI × xJ) := (f_X6_refresh I J).bind fun o => f_X11_hangingNow_1 o.2.1 o.2.2
def f_X11_hangingNow (I : xI) (J : xJ) : Option (Unit × xI × xJ) := f_X11_hangingNow_0 I J
theorem p_X11_hangingNow_2 {L : Nat} {xs : Nat → Int32} {d : Nat} {Q : xO → Prop} (I : xI) (J : xJ) {t : Unit × xI × xJ} (h : f_X11_hangingNow_2 I J = some t) (hC : (c_X11_hangingNow Q) t) : Rn L xs (d + 5) 180 21 [some (.ref 0)] [] 94 (I, J, xrf) Q := by
  unfold f_X11_hangingNow_2 at h
  cases h
  exact Rn.ret 3 (o := ((some (.ref 48)), 94, (I, J, xrf))) (fun f => rfl) hC
theorem p_X11_hangingNow_1 {L : Nat} {xs : Nat → Int32} {d : Nat} {Q : xO → Prop} (I : xI) (J : xJ) {t : Unit × xI × xJ} (h : f_X11_hangingNow_1 I J = some t) (hC : (c_X11_hangingNow Q) t) : Rn L xs (d + 5) 180 7 [some (.ref 0)] [] 94 (I, J, xrf) Q := by
  unfold f_X11_hangingNow_1 at h
  refine Rn.go 5 (j' := 180) (pc' := 18) (ls' := [some (.ref 0)]) (st' := [.ref 4, .ref 48]) (n' := 94) (M' := (I, J, xrf)) (fun f => rfl) ?_
  obtain ⟨o, ho, h⟩ := Option.bind_eq_some_iff.mp h
  refine Rn.call (d1 := d + 4) (j1 := 34) (ls1 := [some (.ref 48), some (.ref 4), none, none, none, none]) (rest := []) (fun f => rfl) ?_
  refine p_X3_load_4 (d := d + 1) I J (t := o) ho ?_
  exact p_X11_hangingNow_2 o.2.1 o.2.2 h hC
theorem p_X11_hangingNow_0 {L : Nat} {xs : Nat → Int32} {d : Nat} {Q : xO → Prop} (I : xI) (J : xJ) {t : Unit × xI × xJ} (h : f_X11_hangingNow_0 I J = some t) (hC : (c_X11_hangingNow Q) t) : Rn L xs (d + 5) 180 0 [some (.ref 0)] [] 94 (I, J, xrf) Q := by
  unfold f_X11_hangingNow_0 at h
  refine Rn.go 2 (j' := 180) (pc' := 4) (ls' := [some (.ref 0)]) (st' := [.ref 32]) (n' := 94) (M' := (I, J, xrf)) (fun f => rfl) ?_
  obtain ⟨o, ho, h⟩ := Option.bind_eq_some_iff.mp h
  refine Rn.call (d1 := d + 4) (j1 := 69) (ls1 := [some (.ref 32), none, none]) (rest := []) (fun f => rfl) ?_
  refine p_X6_refresh (d := d + 0) I J (t := o) ho ?_
  exact p_X11_hangingNow_1 o.2.1 o.2.2 h hC
theorem p_X11_hangingNow {L : Nat} {xs : Nat → Int32} {d : Nat} {Q : xO → Prop} (I : xI) (J : xJ) {t : Unit × xI × xJ} (h : f_X11_hangingNow I J = some t) (hC : Q ((some (.ref 48)), 94, (t.2.1, t.2.2, xrf))) : Rn L xs (d + 5) 180 0 [some (.ref 0)] [] 94 (I, J, xrf) Q := p_X11_hangingNow_0 I J h hC
/-! X3_leastSet -/
def c_X3_leastSet (Q : xO → Prop) (t : Int32 × xI × xJ) : Prop := Q ((some (.int t.1)), 94, (t.2.1, t.2.2, xrf))
def c_X3_leastSet_1 (L : Nat) (xs : Nat → Int32) (d : Nat) (Q : xO → Prop) (t : (Int32 × Int32 × (Option Value) × xI × xJ) ⊕ (Int32 × xI × xJ)) : Prop := match t with
  | .inl s => Rn L xs (d + 2) 36 2 [some (.ref 48), some (.int s.1), some (.int s.2.1), s.2.2.1] [] 94 (s.2.2.2.1, s.2.2.2.2, xrf) Q
  | .inr t => (c_X3_leastSet Q) t
def f_X3_leastSet_7 (x1 : Int32) (x2 : Int32) (z3 : Option Value) (I : xI) (J : xJ) : Option (Int32 × xI × xJ) := some ((-2), I, J)
def f_X3_leastSet_6 (x1 : Int32) (x2 : Int32) (x3 : Int32) (I : xI) (J : xJ) : Option ((Int32 × Int32 × (Option Value) × xI × xJ) ⊕ (Int32 × xI × xJ)) := some (.inl (x1, ((x2 + 1)), (some (.int x3)), I, J))
def f_X3_leastSet_5 (x1 : Int32) (x2 : Int32) (x3 : Int32) (I : xI) (J : xJ) : Option (Int32 × xI × xJ) := some (x3, I, J)
def f_X3_leastSet_4 (x1 : Int32) (x2 : Int32) (x3 : Int32) (I : xI) (J : xJ) : Option ((Int32 × Int32 × (Option Value) × xI × xJ) ⊕ (Int32 × xI × xJ)) := if x3 < 0 ∨ 8 ≤ x3.toNatClampNeg then none else if x1 < 0 ∨ 3 ≤ x1.toNatClampNeg then none else if ((I 50 x3.toNatClampNeg) &&& ((I 49 x1.toNatClampNeg) ^^^ (-1))) = 0 then ((f_X3_leastSet_5 x1 x2 x3 I J)).map .inr else f_X3_leastSet_6 x1 x2 x3 I J
def f_X3_leastSet_3 (x1 : Int32) (x2 : Int32) (x3 : Int32) (s0 : Int32) (s1 : Int32) (s2 : Int32) (I : xI) (J : xJ) : Option ((Int32 × Int32 × (Option Value) × xI × xJ) ⊕ (Int32 × xI × xJ)) := if (s1 <<< (s2 &&& 31)) ≤ s0 then f_X3_leastSet_6 x1 x2 x3 I J else f_X3_leastSet_4 x1 x2 x3 I J
def f_X3_leastSet_2 (x1 : Int32) (x2 : Int32) (z3 : Option Value) (I : xI) (J : xJ) : Option ((Int32 × Int32 × (Option Value) × xI × xJ) ⊕ (Int32 × xI × xJ)) := if x2 < 0 ∨ 8 ≤ x2.toNatClampNeg then none else (f_X5_bits I J).bind fun o => f_X3_leastSet_3 x1 x2 ((zst1002 x2.toNatClampNeg)) ((zst1002 x2.toNatClampNeg)) 1 o.1 o.2.1 o.2.2
def b_X3_leastSet_1 (x1 : Int32) (x2 : Int32) (z3 : Option Value) (I : xI) (J : xJ) : Option ((Int32 × Int32 × (Option Value) × xI × xJ) ⊕ (Int32 × xI × xJ)) := if 8 ≤ x2 then ((f_X3_leastSet_7 x1 x2 z3 I J)).map .inr else f_X3_leastSet_2 x1 x2 z3 I J
def f_X3_leastSet_1 (x1 : Int32) (x2 : Int32) (z3 : Option Value) (I : xI) (J : xJ) : Option (Int32 × xI × xJ) := xloop (fun s : Int32 × Int32 × (Option Value) × xI × xJ => b_X3_leastSet_1 s.1 s.2.1 s.2.2.1 s.2.2.2.1 s.2.2.2.2) 5000 (x1, x2, z3, I, J)
def f_X3_leastSet_0 (x1 : Int32) (I : xI) (J : xJ) : Option (Int32 × xI × xJ) := f_X3_leastSet_1 x1 0 none I J
def f_X3_leastSet (x1 : Int32) (I : xI) (J : xJ) : Option (Int32 × xI × xJ) := f_X3_leastSet_0 x1 I J
theorem p_X3_leastSet_7 {L : Nat} {xs : Nat → Int32} {d : Nat} {Q : xO → Prop} (x1 : Int32) (x2 : Int32) (z3 : Option Value) (I : xI) (J : xJ) {t : Int32 × xI × xJ} (h : f_X3_leastSet_7 x1 x2 z3 I J = some t) (hC : (c_X3_leastSet Q) t) : Rn L xs (d + 2) 36 55 [some (.ref 48), some (.int x1), some (.int x2), z3] [] 94 (I, J, xrf) Q := by
  unfold f_X3_leastSet_7 at h
  cases h
  exact Rn.ret 2 (o := ((some (.int ((-2)))), 94, (I, J, xrf))) (fun f => rfl) hC
theorem p_X3_leastSet_6 {L : Nat} {xs : Nat → Int32} {d : Nat} {Q : xO → Prop} (x1 : Int32) (x2 : Int32) (x3 : Int32) (I : xI) (J : xJ) {t : (Int32 × Int32 × (Option Value) × xI × xJ) ⊕ (Int32 × xI × xJ)} (h : f_X3_leastSet_6 x1 x2 x3 I J = some t) (hC : (c_X3_leastSet_1 L xs d Q) t) : Rn L xs (d + 2) 36 49 [some (.ref 48), some (.int x1), some (.int x2), some (.int x3)] [] 94 (I, J, xrf) Q := by
  unfold f_X3_leastSet_6 at h
  refine Rn.go 2 (j' := 36) (pc' := 2) (ls' := [some (.ref 48), some (.int x1), some (.int ((x2 + 1))), some (.int x3)]) (st' := []) (n' := 94) (M' := (I, J, xrf)) (fun f => rfl) ?_
  cases h; exact hC
theorem p_X3_leastSet_5 {L : Nat} {xs : Nat → Int32} {d : Nat} {Q : xO → Prop} (x1 : Int32) (x2 : Int32) (x3 : Int32) (I : xI) (J : xJ) {t : Int32 × xI × xJ} (h : f_X3_leastSet_5 x1 x2 x3 I J = some t) (hC : (c_X3_leastSet Q) t) : Rn L xs (d + 2) 36 47 [some (.ref 48), some (.int x1), some (.int x2), some (.int x3)] [] 94 (I, J, xrf) Q := by
  unfold f_X3_leastSet_5 at h
  cases h
  exact Rn.ret 2 (o := ((some (.int x3)), 94, (I, J, xrf))) (fun f => rfl) hC
theorem p_X3_leastSet_4 {L : Nat} {xs : Nat → Int32} {d : Nat} {Q : xO → Prop} (x1 : Int32) (x2 : Int32) (x3 : Int32) (I : xI) (J : xJ) {t : (Int32 × Int32 × (Option Value) × xI × xJ) ⊕ (Int32 × xI × xJ)} (h : f_X3_leastSet_4 x1 x2 x3 I J = some t) (hC : (c_X3_leastSet_1 L xs d Q) t) : Rn L xs (d + 2) 36 29 [some (.ref 48), some (.int x1), some (.int x2), some (.int x3)] [] 94 (I, J, xrf) Q := by
  unfold f_X3_leastSet_4 at h
  obtain ⟨hc, h⟩ := xif h
  refine Rn.ok 4 (c := x3 < 0 ∨ 8 ≤ x3.toNatClampNeg) (p1 := 35) (l1 := [some (.ref 48), some (.int x1), some (.int x2), some (.int x3)]) (s1 := [.int ((I 50 x3.toNatClampNeg))]) (n1 := 94) (M1 := (I, J, xrf)) (fun f => rfl) hc ?_
  obtain ⟨hc, h⟩ := xif h
  refine Rn.ok 4 (c := x1 < 0 ∨ 3 ≤ x1.toNatClampNeg) (p1 := 41) (l1 := [some (.ref 48), some (.int x1), some (.int x2), some (.int x3)]) (s1 := [.int ((I 49 x1.toNatClampNeg)), .int ((I 50 x3.toNatClampNeg))]) (n1 := 94) (M1 := (I, J, xrf)) (fun f => rfl) hc ?_
  refine Rn.fi 4 (c := ((I 50 x3.toNatClampNeg) &&& ((I 49 x1.toNatClampNeg) ^^^ (-1))) = 0) (p1 := 47) (l1 := [some (.ref 48), some (.int x1), some (.int x2), some (.int x3)]) (s1 := []) (n1 := 94) (M1 := (I, J, xrf)) (p2 := 49) (l2 := [some (.ref 48), some (.int x1), some (.int x2), some (.int x3)]) (s2 := []) (n2 := 94) (M2 := (I, J, xrf)) (fun f => rfl) (fun hc => ?_) (fun hc => ?_)
  · rw [if_pos hc] at h
    obtain ⟨t0, h0, rfl⟩ := Option.map_eq_some_iff.mp h
    exact p_X3_leastSet_5 x1 x2 x3 I J h0 hC
  · rw [if_neg hc] at h
    exact p_X3_leastSet_6 x1 x2 x3 I J h hC
theorem p_X3_leastSet_3 {L : Nat} {xs : Nat → Int32} {d : Nat} {Q : xO → Prop} (x1 : Int32) (x2 : Int32) (x3 : Int32) (s0 : Int32) (s1 : Int32) (s2 : Int32) (I : xI) (J : xJ) {t : (Int32 × Int32 × (Option Value) × xI × xJ) ⊕ (Int32 × xI × xJ)} (h : f_X3_leastSet_3 x1 x2 x3 s0 s1 s2 I J = some t) (hC : (c_X3_leastSet_1 L xs d Q) t) : Rn L xs (d + 2) 36 25 [some (.ref 48), some (.int x1), some (.int x2), some (.int x3)] [.int s2, .int s1, .int s0] 94 (I, J, xrf) Q := by
  unfold f_X3_leastSet_3 at h
  refine Rn.fi 2 (c := (s1 <<< (s2 &&& 31)) ≤ s0) (p1 := 49) (l1 := [some (.ref 48), some (.int x1), some (.int x2), some (.int x3)]) (s1 := []) (n1 := 94) (M1 := (I, J, xrf)) (p2 := 29) (l2 := [some (.ref 48), some (.int x1), some (.int x2), some (.int x3)]) (s2 := []) (n2 := 94) (M2 := (I, J, xrf)) (fun f => rfl) (fun hc => ?_) (fun hc => ?_)
  · rw [if_pos hc] at h
    exact p_X3_leastSet_6 x1 x2 x3 I J h hC
  · rw [if_neg hc] at h
    exact p_X3_leastSet_4 x1 x2 x3 I J h hC
theorem p_X3_leastSet_2 {L : Nat} {xs : Nat → Int32} {d : Nat} {Q : xO → Prop} (x1 : Int32) (x2 : Int32) (z3 : Option Value) (I : xI) (J : xJ) {t : (Int32 × Int32 × (Option Value) × xI × xJ) ⊕ (Int32 × xI × xJ)} (h : f_X3_leastSet_2 x1 x2 z3 I J = some t) (hC : (c_X3_leastSet_1 L xs d Q) t) : Rn L xs (d + 2) 36 10 [some (.ref 48), some (.int x1), some (.int x2), z3] [] 94 (I, J, xrf) Q := by
  unfold f_X3_leastSet_2 at h
  obtain ⟨hc, h⟩ := xif h
  refine Rn.ok 3 (c := x2 < 0 ∨ 8 ≤ x2.toNatClampNeg) (p1 := 15) (l1 := [some (.ref 48), some (.int x1), some (.int x2), z3]) (s1 := [.int ((zst1002 x2.toNatClampNeg))]) (n1 := 94) (M1 := (I, J, xrf)) (fun f => rfl) hc ?_
  refine Rn.go 5 (j' := 36) (pc' := 22) (ls' := [some (.ref 48), some (.int x1), some (.int x2), some (.int ((zst1002 x2.toNatClampNeg)))]) (st' := [.ref 1, .int 1, .int ((zst1002 x2.toNatClampNeg))]) (n' := 94) (M' := (I, J, xrf)) (fun f => rfl) ?_
  obtain ⟨o, ho, h⟩ := Option.bind_eq_some_iff.mp h
  refine Rn.call (d1 := d + 1) (j1 := 62) (ls1 := [some (.ref 1)]) (rest := [.int 1, .int ((zst1002 x2.toNatClampNeg))]) (fun f => rfl) ?_
  refine p_X5_bits (d := d + 0) I J (t := o) ho ?_
  exact p_X3_leastSet_3 x1 x2 ((zst1002 x2.toNatClampNeg)) ((zst1002 x2.toNatClampNeg)) 1 o.1 o.2.1 o.2.2 h hC
theorem q_X3_leastSet_1 {L : Nat} {xs : Nat → Int32} {d : Nat} {Q : xO → Prop} (x1 : Int32) (x2 : Int32) (z3 : Option Value) (I : xI) (J : xJ) {t : (Int32 × Int32 × (Option Value) × xI × xJ) ⊕ (Int32 × xI × xJ)} (h : b_X3_leastSet_1 x1 x2 z3 I J = some t) (hC : (c_X3_leastSet_1 L xs d Q) t) : Rn L xs (d + 2) 36 2 [some (.ref 48), some (.int x1), some (.int x2), z3] [] 94 (I, J, xrf) Q := by
  unfold b_X3_leastSet_1 at h
  refine Rn.fi 4 (c := 8 ≤ x2) (p1 := 55) (l1 := [some (.ref 48), some (.int x1), some (.int x2), z3]) (s1 := []) (n1 := 94) (M1 := (I, J, xrf)) (p2 := 10) (l2 := [some (.ref 48), some (.int x1), some (.int x2), z3]) (s2 := []) (n2 := 94) (M2 := (I, J, xrf)) (fun f => rfl) (fun hc => ?_) (fun hc => ?_)
  · rw [if_pos hc] at h
    obtain ⟨t0, h0, rfl⟩ := Option.map_eq_some_iff.mp h
    exact p_X3_leastSet_7 x1 x2 z3 I J h0 hC
  · rw [if_neg hc] at h
    exact p_X3_leastSet_2 x1 x2 z3 I J h hC
theorem p_X3_leastSet_1 {L : Nat} {xs : Nat → Int32} {d : Nat} {Q : xO → Prop} (x1 : Int32) (x2 : Int32) (z3 : Option Value) (I : xI) (J : xJ) {t : Int32 × xI × xJ} (h : f_X3_leastSet_1 x1 x2 z3 I J = some t) (hC : (c_X3_leastSet Q) t) : Rn L xs (d + 2) 36 2 [some (.ref 48), some (.int x1), some (.int x2), z3] [] 94 (I, J, xrf) Q := by
  unfold f_X3_leastSet_1 at h
  exact xloop_some (P := fun s : Int32 × Int32 × (Option Value) × xI × xJ => Rn L xs (d + 2) 36 2 [some (.ref 48), some (.int s.1), some (.int s.2.1), s.2.2.1] [] 94 (s.2.2.2.1, s.2.2.2.2, xrf) Q) t (fun s ⟨s', hb, hp⟩ => q_X3_leastSet_1 s.1 s.2.1 s.2.2.1 s.2.2.2.1 s.2.2.2.2 hb hp) (fun s hb => q_X3_leastSet_1 s.1 s.2.1 s.2.2.1 s.2.2.2.1 s.2.2.2.2 hb hC) _ _ h
theorem p_X3_leastSet_0 {L : Nat} {xs : Nat → Int32} {d : Nat} {Q : xO → Prop} (x1 : Int32) (I : xI) (J : xJ) {t : Int32 × xI × xJ} (h : f_X3_leastSet_0 x1 I J = some t) (hC : (c_X3_leastSet Q) t) : Rn L xs (d + 2) 36 0 [some (.ref 48), some (.int x1), none, none] [] 94 (I, J, xrf) Q := by
  unfold f_X3_leastSet_0 at h
  refine Rn.go 2 (j' := 36) (pc' := 2) (ls' := [some (.ref 48), some (.int x1), some (.int 0), none]) (st' := []) (n' := 94) (M' := (I, J, xrf)) (fun f => rfl) ?_
  exact p_X3_leastSet_1 x1 0 none I J h hC
theorem p_X3_leastSet {L : Nat} {xs : Nat → Int32} {d : Nat} {Q : xO → Prop} (x1 : Int32) (I : xI) (J : xJ) {t : Int32 × xI × xJ} (h : f_X3_leastSet x1 I J = some t) (hC : Q ((some (.int t.1)), 94, (t.2.1, t.2.2, xrf))) : Rn L xs (d + 2) 36 0 [some (.ref 48), some (.int x1), none, none] [] 94 (I, J, xrf) Q := p_X3_leastSet_0 x1 I J h hC
/-! X11_hangs -/
def c_X11_hangs (Q : xO → Prop) (t : Int32 × xI × xJ) : Prop := Q ((some (.int t.1)), 94, (t.2.1, t.2.2, xrf))
def f_X11_hangs_4 (x1 : Int32) (x2 : Int32) (I : xI) (J : xJ) : Option (Int32 × xI × xJ) := some ((-1), I, J)
def f_X11_hangs_11 (x1 : Int32) (x2 : Int32) (x3 : Int32) (s0 : Int32) (I : xI) (J : xJ) : Option (Int32 × xI × xJ) := some (s0, I, J)
def f_X11_hangs_9 (x1 : Int32) (x2 : Int32) (x3 : Int32) (I : xI) (J : xJ) : Option (Int32 × xI × xJ) := f_X11_hangs_11 x1 x2 x3 x3 I J
def f_X11_hangs_10 (x1 : Int32) (x2 : Int32) (x3 : Int32) (I : xI) (J : xJ) : Option (Int32 × xI × xJ) := (f_J6_bitCount_0f7a4 x3 I J).bind fun o => f_X11_hangs_11 x1 x2 x3 o.1 o.2.1 o.2.2
def f_X11_hangs_8 (x1 : Int32) (x2 : Int32) (x3 : Int32) (I : xI) (J : xJ) : Option (Int32 × xI × xJ) := if x2 = 1 then f_X11_hangs_9 x1 x2 x3 I J else f_X11_hangs_10 x1 x2 x3 I J
def f_X11_hangs_7 (x1 : Int32) (x2 : Int32) (s0 : Int32) (I : xI) (J : xJ) : Option (Int32 × xI × xJ) := if s0 = (-2) then f_X11_hangs_9 x1 x2 s0 I J else f_X11_hangs_8 x1 x2 s0 I J
def f_X11_hangs_6 (x1 : Int32) (x2 : Int32) (I : xI) (J : xJ) : Option (Int32 × xI × xJ) := (f_X3_leastSet x1 I J).bind fun o => f_X11_hangs_7 x1 x2 o.1 o.2.1 o.2.2
def f_X11_hangs_5 (x1 : Int32) (x2 : Int32) (I : xI) (J : xJ) : Option (Int32 × xI × xJ) := (f_X11_hangingNow I J).bind fun o => f_X11_hangs_6 x1 x2 o.2.1 o.2.2
def f_X11_hangs_3 (x1 : Int32) (x2 : Int32) (I : xI) (J : xJ) : Option (Int32 × xI × xJ) := if x2 ≤ 1 then f_X11_hangs_5 x1 x2 I J else f_X11_hangs_4 x1 x2 I J
def f_X11_hangs_2 (x1 : Int32) (x2 : Int32) (I : xI) (J : xJ) : Option (Int32 × xI × xJ) := if x2 < 0 then f_X11_hangs_4 x1 x2 I J else f_X11_hangs_3 x1 x2 I J
def f_X11_hangs_1 (x1 : Int32) (x2 : Int32) (s0 : Int32) (I : xI) (J : xJ) : Option (Int32 × xI × xJ) := if s0 = 0 then f_X11_hangs_4 x1 x2 I J else f_X11_hangs_2 x1 x2 I J
def f_X11_hangs_0 (x1 : Int32) (x2 : Int32) (I : xI) (J : xJ) : Option (Int32 × xI × xJ) := (f_X5_hasBit x1 I J).bind fun o => f_X11_hangs_1 x1 x2 o.1 o.2.1 o.2.2
def f_X11_hangs (x1 : Int32) (x2 : Int32) (I : xI) (J : xJ) : Option (Int32 × xI × xJ) := f_X11_hangs_0 x1 x2 I J
theorem p_X11_hangs_4 {L : Nat} {xs : Nat → Int32} {d : Nat} {Q : xO → Prop} (x1 : Int32) (x2 : Int32) (I : xI) (J : xJ) {t : Int32 × xI × xJ} (h : f_X11_hangs_4 x1 x2 I J = some t) (hC : (c_X11_hangs Q) t) : Rn L xs (d + 6) 167 20 [some (.ref 0), some (.int x1), some (.int x2), none] [] 94 (I, J, xrf) Q := by
  unfold f_X11_hangs_4 at h
  cases h
  exact Rn.ret 2 (o := ((some (.int ((-1)))), 94, (I, J, xrf))) (fun f => rfl) hC
theorem p_X11_hangs_11 {L : Nat} {xs : Nat → Int32} {d : Nat} {Q : xO → Prop} (x1 : Int32) (x2 : Int32) (x3 : Int32) (s0 : Int32) (I : xI) (J : xJ) {t : Int32 × xI × xJ} (h : f_X11_hangs_11 x1 x2 x3 s0 I J = some t) (hC : (c_X11_hangs Q) t) : Rn L xs (d + 6) 167 50 [some (.ref 0), some (.int x1), some (.int x2), some (.int x3)] [.int s0] 94 (I, J, xrf) Q := by
  unfold f_X11_hangs_11 at h
  cases h
  exact Rn.ret 1 (o := ((some (.int s0)), 94, (I, J, xrf))) (fun f => rfl) hC
theorem p_X11_hangs_9 {L : Nat} {xs : Nat → Int32} {d : Nat} {Q : xO → Prop} (x1 : Int32) (x2 : Int32) (x3 : Int32) (I : xI) (J : xJ) {t : Int32 × xI × xJ} (h : f_X11_hangs_9 x1 x2 x3 I J = some t) (hC : (c_X11_hangs Q) t) : Rn L xs (d + 6) 167 42 [some (.ref 0), some (.int x1), some (.int x2), some (.int x3)] [] 94 (I, J, xrf) Q := by
  unfold f_X11_hangs_9 at h
  refine Rn.go 2 (j' := 167) (pc' := 50) (ls' := [some (.ref 0), some (.int x1), some (.int x2), some (.int x3)]) (st' := [.int x3]) (n' := 94) (M' := (I, J, xrf)) (fun f => rfl) ?_
  exact p_X11_hangs_11 x1 x2 x3 x3 I J h hC
theorem p_X11_hangs_10 {L : Nat} {xs : Nat → Int32} {d : Nat} {Q : xO → Prop} (x1 : Int32) (x2 : Int32) (x3 : Int32) (I : xI) (J : xJ) {t : Int32 × xI × xJ} (h : f_X11_hangs_10 x1 x2 x3 I J = some t) (hC : (c_X11_hangs Q) t) : Rn L xs (d + 6) 167 46 [some (.ref 0), some (.int x1), some (.int x2), some (.int x3)] [] 94 (I, J, xrf) Q := by
  unfold f_X11_hangs_10 at h
  refine Rn.go 1 (j' := 167) (pc' := 47) (ls' := [some (.ref 0), some (.int x1), some (.int x2), some (.int x3)]) (st' := [.int x3]) (n' := 94) (M' := (I, J, xrf)) (fun f => rfl) ?_
  obtain ⟨o, ho, h⟩ := Option.bind_eq_some_iff.mp h
  refine Rn.call (d1 := d + 5) (j1 := 299) (ls1 := [some (.int x3)]) (rest := []) (fun f => rfl) ?_
  refine p_J6_bitCount_0f7a4 (d := d + 4) x3 I J (t := o) ho ?_
  exact p_X11_hangs_11 x1 x2 x3 o.1 o.2.1 o.2.2 h hC
theorem p_X11_hangs_8 {L : Nat} {xs : Nat → Int32} {d : Nat} {Q : xO → Prop} (x1 : Int32) (x2 : Int32) (x3 : Int32) (I : xI) (J : xJ) {t : Int32 × xI × xJ} (h : f_X11_hangs_8 x1 x2 x3 I J = some t) (hC : (c_X11_hangs Q) t) : Rn L xs (d + 6) 167 37 [some (.ref 0), some (.int x1), some (.int x2), some (.int x3)] [] 94 (I, J, xrf) Q := by
  unfold f_X11_hangs_8 at h
  refine Rn.fi 3 (c := x2 = 1) (p1 := 42) (l1 := [some (.ref 0), some (.int x1), some (.int x2), some (.int x3)]) (s1 := []) (n1 := 94) (M1 := (I, J, xrf)) (p2 := 46) (l2 := [some (.ref 0), some (.int x1), some (.int x2), some (.int x3)]) (s2 := []) (n2 := 94) (M2 := (I, J, xrf)) (fun f => rfl) (fun hc => ?_) (fun hc => ?_)
  · rw [if_pos hc] at h
    exact p_X11_hangs_9 x1 x2 x3 I J h hC
  · rw [if_neg hc] at h
    exact p_X11_hangs_10 x1 x2 x3 I J h hC
theorem p_X11_hangs_7 {L : Nat} {xs : Nat → Int32} {d : Nat} {Q : xO → Prop} (x1 : Int32) (x2 : Int32) (s0 : Int32) (I : xI) (J : xJ) {t : Int32 × xI × xJ} (h : f_X11_hangs_7 x1 x2 s0 I J = some t) (hC : (c_X11_hangs Q) t) : Rn L xs (d + 6) 167 30 [some (.ref 0), some (.int x1), some (.int x2), none] [.int s0] 94 (I, J, xrf) Q := by
  unfold f_X11_hangs_7 at h
  refine Rn.fi 4 (c := s0 = (-2)) (p1 := 42) (l1 := [some (.ref 0), some (.int x1), some (.int x2), some (.int s0)]) (s1 := []) (n1 := 94) (M1 := (I, J, xrf)) (p2 := 37) (l2 := [some (.ref 0), some (.int x1), some (.int x2), some (.int s0)]) (s2 := []) (n2 := 94) (M2 := (I, J, xrf)) (fun f => rfl) (fun hc => ?_) (fun hc => ?_)
  · rw [if_pos hc] at h
    exact p_X11_hangs_9 x1 x2 s0 I J h hC
  · rw [if_neg hc] at h
    exact p_X11_hangs_8 x1 x2 s0 I J h hC
theorem p_X11_hangs_6 {L : Nat} {xs : Nat → Int32} {d : Nat} {Q : xO → Prop} (x1 : Int32) (x2 : Int32) (I : xI) (J : xJ) {t : Int32 × xI × xJ} (h : f_X11_hangs_6 x1 x2 I J = some t) (hC : (c_X11_hangs Q) t) : Rn L xs (d + 6) 167 26 [some (.ref 0), some (.int x1), some (.int x2), none] [.ref 48] 94 (I, J, xrf) Q := by
  unfold f_X11_hangs_6 at h
  refine Rn.go 1 (j' := 167) (pc' := 27) (ls' := [some (.ref 0), some (.int x1), some (.int x2), none]) (st' := [.int x1, .ref 48]) (n' := 94) (M' := (I, J, xrf)) (fun f => rfl) ?_
  obtain ⟨o, ho, h⟩ := Option.bind_eq_some_iff.mp h
  refine Rn.call (d1 := d + 5) (j1 := 36) (ls1 := [some (.ref 48), some (.int x1), none, none]) (rest := []) (fun f => rfl) ?_
  refine p_X3_leastSet (d := d + 3) x1 I J (t := o) ho ?_
  exact p_X11_hangs_7 x1 x2 o.1 o.2.1 o.2.2 h hC
theorem p_X11_hangs_5 {L : Nat} {xs : Nat → Int32} {d : Nat} {Q : xO → Prop} (x1 : Int32) (x2 : Int32) (I : xI) (J : xJ) {t : Int32 × xI × xJ} (h : f_X11_hangs_5 x1 x2 I J = some t) (hC : (c_X11_hangs Q) t) : Rn L xs (d + 6) 167 22 [some (.ref 0), some (.int x1), some (.int x2), none] [] 94 (I, J, xrf) Q := by
  unfold f_X11_hangs_5 at h
  refine Rn.go 1 (j' := 167) (pc' := 23) (ls' := [some (.ref 0), some (.int x1), some (.int x2), none]) (st' := [.ref 0]) (n' := 94) (M' := (I, J, xrf)) (fun f => rfl) ?_
  obtain ⟨o, ho, h⟩ := Option.bind_eq_some_iff.mp h
  refine Rn.call (d1 := d + 5) (j1 := 180) (ls1 := [some (.ref 0)]) (rest := []) (fun f => rfl) ?_
  refine p_X11_hangingNow (d := d + 0) I J (t := o) ho ?_
  exact p_X11_hangs_6 x1 x2 o.2.1 o.2.2 h hC
theorem p_X11_hangs_3 {L : Nat} {xs : Nat → Int32} {d : Nat} {Q : xO → Prop} (x1 : Int32) (x2 : Int32) (I : xI) (J : xJ) {t : Int32 × xI × xJ} (h : f_X11_hangs_3 x1 x2 I J = some t) (hC : (c_X11_hangs Q) t) : Rn L xs (d + 6) 167 15 [some (.ref 0), some (.int x1), some (.int x2), none] [] 94 (I, J, xrf) Q := by
  unfold f_X11_hangs_3 at h
  refine Rn.fi 3 (c := x2 ≤ 1) (p1 := 22) (l1 := [some (.ref 0), some (.int x1), some (.int x2), none]) (s1 := []) (n1 := 94) (M1 := (I, J, xrf)) (p2 := 20) (l2 := [some (.ref 0), some (.int x1), some (.int x2), none]) (s2 := []) (n2 := 94) (M2 := (I, J, xrf)) (fun f => rfl) (fun hc => ?_) (fun hc => ?_)
  · rw [if_pos hc] at h
    exact p_X11_hangs_5 x1 x2 I J h hC
  · rw [if_neg hc] at h
    exact p_X11_hangs_4 x1 x2 I J h hC
theorem p_X11_hangs_2 {L : Nat} {xs : Nat → Int32} {d : Nat} {Q : xO → Prop} (x1 : Int32) (x2 : Int32) (I : xI) (J : xJ) {t : Int32 × xI × xJ} (h : f_X11_hangs_2 x1 x2 I J = some t) (hC : (c_X11_hangs Q) t) : Rn L xs (d + 6) 167 11 [some (.ref 0), some (.int x1), some (.int x2), none] [] 94 (I, J, xrf) Q := by
  unfold f_X11_hangs_2 at h
  refine Rn.fi 2 (c := x2 < 0) (p1 := 20) (l1 := [some (.ref 0), some (.int x1), some (.int x2), none]) (s1 := []) (n1 := 94) (M1 := (I, J, xrf)) (p2 := 15) (l2 := [some (.ref 0), some (.int x1), some (.int x2), none]) (s2 := []) (n2 := 94) (M2 := (I, J, xrf)) (fun f => rfl) (fun hc => ?_) (fun hc => ?_)
  · rw [if_pos hc] at h
    exact p_X11_hangs_4 x1 x2 I J h hC
  · rw [if_neg hc] at h
    exact p_X11_hangs_3 x1 x2 I J h hC
theorem p_X11_hangs_1 {L : Nat} {xs : Nat → Int32} {d : Nat} {Q : xO → Prop} (x1 : Int32) (x2 : Int32) (s0 : Int32) (I : xI) (J : xJ) {t : Int32 × xI × xJ} (h : f_X11_hangs_1 x1 x2 s0 I J = some t) (hC : (c_X11_hangs Q) t) : Rn L xs (d + 6) 167 8 [some (.ref 0), some (.int x1), some (.int x2), none] [.int s0] 94 (I, J, xrf) Q := by
  unfold f_X11_hangs_1 at h
  refine Rn.fi 1 (c := s0 = 0) (p1 := 20) (l1 := [some (.ref 0), some (.int x1), some (.int x2), none]) (s1 := []) (n1 := 94) (M1 := (I, J, xrf)) (p2 := 11) (l2 := [some (.ref 0), some (.int x1), some (.int x2), none]) (s2 := []) (n2 := 94) (M2 := (I, J, xrf)) (fun f => rfl) (fun hc => ?_) (fun hc => ?_)
  · rw [if_pos hc] at h
    exact p_X11_hangs_4 x1 x2 I J h hC
  · rw [if_neg hc] at h
    exact p_X11_hangs_2 x1 x2 I J h hC
theorem p_X11_hangs_0 {L : Nat} {xs : Nat → Int32} {d : Nat} {Q : xO → Prop} (x1 : Int32) (x2 : Int32) (I : xI) (J : xJ) {t : Int32 × xI × xJ} (h : f_X11_hangs_0 x1 x2 I J = some t) (hC : (c_X11_hangs Q) t) : Rn L xs (d + 6) 167 0 [some (.ref 0), some (.int x1), some (.int x2), none] [] 94 (I, J, xrf) Q := by
  unfold f_X11_hangs_0 at h
  refine Rn.go 3 (j' := 167) (pc' := 5) (ls' := [some (.ref 0), some (.int x1), some (.int x2), none]) (st' := [.int x1, .ref 1]) (n' := 94) (M' := (I, J, xrf)) (fun f => rfl) ?_
  obtain ⟨o, ho, h⟩ := Option.bind_eq_some_iff.mp h
  refine Rn.call (d1 := d + 5) (j1 := 54) (ls1 := [some (.ref 1), some (.int x1)]) (rest := []) (fun f => rfl) ?_
  refine p_X5_hasBit (d := d + 3) x1 I J (t := o) ho ?_
  exact p_X11_hangs_1 x1 x2 o.1 o.2.1 o.2.2 h hC
theorem p_X11_hangs {L : Nat} {xs : Nat → Int32} {d : Nat} {Q : xO → Prop} (x1 : Int32) (x2 : Int32) (I : xI) (J : xJ) {t : Int32 × xI × xJ} (h : f_X11_hangs x1 x2 I J = some t) (hC : Q ((some (.int t.1)), 94, (t.2.1, t.2.2, xrf))) : Rn L xs (d + 6) 167 0 [some (.ref 0), some (.int x1), some (.int x2), none] [] 94 (I, J, xrf) Q := p_X11_hangs_0 x1 x2 I J h hC
/-! X3_total -/
def c_X3_total (Q : xO → Prop) (t : Int32 × xI × xJ) : Prop := Q ((some (.int t.1)), 94, (t.2.1, t.2.2, xrf))
def c_X3_total_1 (L : Nat) (xs : Nat → Int32) (d : Nat) (Q : xO → Prop) (t : (Int32 × Int32 × (Option Value) × xI × xJ) ⊕ (Int32 × xI × xJ)) : Prop := match t with
  | .inl s => Rn L xs (d + 3) 37 4 [some (.ref 48), some (.int s.1), some (.int s.2.1), s.2.2.1] [] 94 (s.2.2.2.1, s.2.2.2.2, xrf) Q
  | .inr t => (c_X3_total Q) t
def f_X3_total_8 (x1 : Int32) (x2 : Int32) (z3 : Option Value) (I : xI) (J : xJ) : Option (Int32 × xI × xJ) := some (x1, I, J)
def f_X3_total_7 (x1 : Int32) (x2 : Int32) (x3 : Int32) (s0 : Int32) (s1 : Int32) (I : xI) (J : xJ) : Option ((Int32 × Int32 × (Option Value) × xI × xJ) ⊕ (Int32 × xI × xJ)) := some (.inl (((s0 + s1)), ((x2 + 1)), (some (.int x3)), I, J))
def f_X3_total_6 (x1 : Int32) (x2 : Int32) (x3 : Int32) (I : xI) (J : xJ) : Option ((Int32 × Int32 × (Option Value) × xI × xJ) ⊕ (Int32 × xI × xJ)) := (f_J6_bitCount_0f7a4 x3 I J).bind fun o => f_X3_total_7 x1 x2 x3 x1 o.1 o.2.1 o.2.2
def f_X3_total_5 (x1 : Int32) (x2 : Int32) (x3 : Int32) (I : xI) (J : xJ) : Option (Int32 × xI × xJ) := some ((-2), I, J)
def f_X3_total_4 (x1 : Int32) (x2 : Int32) (z3 : Option Value) (s0 : Int32) (I : xI) (J : xJ) : Option ((Int32 × Int32 × (Option Value) × xI × xJ) ⊕ (Int32 × xI × xJ)) := if s0 = (-2) then ((f_X3_total_5 x1 x2 s0 I J)).map .inr else f_X3_total_6 x1 x2 s0 I J
def f_X3_total_3 (x1 : Int32) (x2 : Int32) (z3 : Option Value) (I : xI) (J : xJ) : Option ((Int32 × Int32 × (Option Value) × xI × xJ) ⊕ (Int32 × xI × xJ)) := (f_X3_leastSet x2 I J).bind fun o => f_X3_total_4 x1 x2 z3 o.1 o.2.1 o.2.2
def f_X3_total_2 (x1 : Int32) (x2 : Int32) (z3 : Option Value) (s0 : Int32) (s1 : Int32) (I : xI) (J : xJ) : Option ((Int32 × Int32 × (Option Value) × xI × xJ) ⊕ (Int32 × xI × xJ)) := if s1 ≤ s0 then ((f_X3_total_8 x1 x2 z3 I J)).map .inr else f_X3_total_3 x1 x2 z3 I J
def b_X3_total_1 (x1 : Int32) (x2 : Int32) (z3 : Option Value) (I : xI) (J : xJ) : Option ((Int32 × Int32 × (Option Value) × xI × xJ) ⊕ (Int32 × xI × xJ)) := (f_X5_bits I J).bind fun o => f_X3_total_2 x1 x2 z3 x2 o.1 o.2.1 o.2.2
def f_X3_total_1 (x1 : Int32) (x2 : Int32) (z3 : Option Value) (I : xI) (J : xJ) : Option (Int32 × xI × xJ) := xloop (fun s : Int32 × Int32 × (Option Value) × xI × xJ => b_X3_total_1 s.1 s.2.1 s.2.2.1 s.2.2.2.1 s.2.2.2.2) 5000 (x1, x2, z3, I, J)
def f_X3_total_0 (I : xI) (J : xJ) : Option (Int32 × xI × xJ) := f_X3_total_1 0 0 none I J
def f_X3_total (I : xI) (J : xJ) : Option (Int32 × xI × xJ) := f_X3_total_0 I J
theorem p_X3_total_8 {L : Nat} {xs : Nat → Int32} {d : Nat} {Q : xO → Prop} (x1 : Int32) (x2 : Int32) (z3 : Option Value) (I : xI) (J : xJ) {t : Int32 × xI × xJ} (h : f_X3_total_8 x1 x2 z3 I J = some t) (hC : (c_X3_total Q) t) : Rn L xs (d + 3) 37 43 [some (.ref 48), some (.int x1), some (.int x2), z3] [] 94 (I, J, xrf) Q := by
  unfold f_X3_total_8 at h
  cases h
  exact Rn.ret 2 (o := ((some (.int x1)), 94, (I, J, xrf))) (fun f => rfl) hC
theorem p_X3_total_7 {L : Nat} {xs : Nat → Int32} {d : Nat} {Q : xO → Prop} (x1 : Int32) (x2 : Int32) (x3 : Int32) (s0 : Int32) (s1 : Int32) (I : xI) (J : xJ) {t : (Int32 × Int32 × (Option Value) × xI × xJ) ⊕ (Int32 × xI × xJ)} (h : f_X3_total_7 x1 x2 x3 s0 s1 I J = some t) (hC : (c_X3_total_1 L xs d Q) t) : Rn L xs (d + 3) 37 35 [some (.ref 48), some (.int x1), some (.int x2), some (.int x3)] [.int s1, .int s0] 94 (I, J, xrf) Q := by
  unfold f_X3_total_7 at h
  refine Rn.go 4 (j' := 37) (pc' := 4) (ls' := [some (.ref 48), some (.int ((s0 + s1))), some (.int ((x2 + 1))), some (.int x3)]) (st' := []) (n' := 94) (M' := (I, J, xrf)) (fun f => rfl) ?_
  cases h; exact hC
theorem p_X3_total_6 {L : Nat} {xs : Nat → Int32} {d : Nat} {Q : xO → Prop} (x1 : Int32) (x2 : Int32) (x3 : Int32) (I : xI) (J : xJ) {t : (Int32 × Int32 × (Option Value) × xI × xJ) ⊕ (Int32 × xI × xJ)} (h : f_X3_total_6 x1 x2 x3 I J = some t) (hC : (c_X3_total_1 L xs d Q) t) : Rn L xs (d + 3) 37 30 [some (.ref 48), some (.int x1), some (.int x2), some (.int x3)] [] 94 (I, J, xrf) Q := by
  unfold f_X3_total_6 at h
  refine Rn.go 2 (j' := 37) (pc' := 32) (ls' := [some (.ref 48), some (.int x1), some (.int x2), some (.int x3)]) (st' := [.int x3, .int x1]) (n' := 94) (M' := (I, J, xrf)) (fun f => rfl) ?_
  obtain ⟨o, ho, h⟩ := Option.bind_eq_some_iff.mp h
  refine Rn.call (d1 := d + 2) (j1 := 299) (ls1 := [some (.int x3)]) (rest := [.int x1]) (fun f => rfl) ?_
  refine p_J6_bitCount_0f7a4 (d := d + 1) x3 I J (t := o) ho ?_
  exact p_X3_total_7 x1 x2 x3 x1 o.1 o.2.1 o.2.2 h hC
theorem p_X3_total_5 {L : Nat} {xs : Nat → Int32} {d : Nat} {Q : xO → Prop} (x1 : Int32) (x2 : Int32) (x3 : Int32) (I : xI) (J : xJ) {t : Int32 × xI × xJ} (h : f_X3_total_5 x1 x2 x3 I J = some t) (hC : (c_X3_total Q) t) : Rn L xs (d + 3) 37 27 [some (.ref 48), some (.int x1), some (.int x2), some (.int x3)] [] 94 (I, J, xrf) Q := by
  unfold f_X3_total_5 at h
  cases h
  exact Rn.ret 2 (o := ((some (.int ((-2)))), 94, (I, J, xrf))) (fun f => rfl) hC
theorem p_X3_total_4 {L : Nat} {xs : Nat → Int32} {d : Nat} {Q : xO → Prop} (x1 : Int32) (x2 : Int32) (z3 : Option Value) (s0 : Int32) (I : xI) (J : xJ) {t : (Int32 × Int32 × (Option Value) × xI × xJ) ⊕ (Int32 × xI × xJ)} (h : f_X3_total_4 x1 x2 z3 s0 I J = some t) (hC : (c_X3_total_1 L xs d Q) t) : Rn L xs (d + 3) 37 20 [some (.ref 48), some (.int x1), some (.int x2), z3] [.int s0] 94 (I, J, xrf) Q := by
  unfold f_X3_total_4 at h
  refine Rn.fi 4 (c := s0 = (-2)) (p1 := 27) (l1 := [some (.ref 48), some (.int x1), some (.int x2), some (.int s0)]) (s1 := []) (n1 := 94) (M1 := (I, J, xrf)) (p2 := 30) (l2 := [some (.ref 48), some (.int x1), some (.int x2), some (.int s0)]) (s2 := []) (n2 := 94) (M2 := (I, J, xrf)) (fun f => rfl) (fun hc => ?_) (fun hc => ?_)
  · rw [if_pos hc] at h
    obtain ⟨t0, h0, rfl⟩ := Option.map_eq_some_iff.mp h
    exact p_X3_total_5 x1 x2 s0 I J h0 hC
  · rw [if_neg hc] at h
    exact p_X3_total_6 x1 x2 s0 I J h hC
theorem p_X3_total_3 {L : Nat} {xs : Nat → Int32} {d : Nat} {Q : xO → Prop} (x1 : Int32) (x2 : Int32) (z3 : Option Value) (I : xI) (J : xJ) {t : (Int32 × Int32 × (Option Value) × xI × xJ) ⊕ (Int32 × xI × xJ)} (h : f_X3_total_3 x1 x2 z3 I J = some t) (hC : (c_X3_total_1 L xs d Q) t) : Rn L xs (d + 3) 37 15 [some (.ref 48), some (.int x1), some (.int x2), z3] [] 94 (I, J, xrf) Q := by
  unfold f_X3_total_3 at h
  refine Rn.go 2 (j' := 37) (pc' := 17) (ls' := [some (.ref 48), some (.int x1), some (.int x2), z3]) (st' := [.int x2, .ref 48]) (n' := 94) (M' := (I, J, xrf)) (fun f => rfl) ?_
  obtain ⟨o, ho, h⟩ := Option.bind_eq_some_iff.mp h
  refine Rn.call (d1 := d + 2) (j1 := 36) (ls1 := [some (.ref 48), some (.int x2), none, none]) (rest := []) (fun f => rfl) ?_
  refine p_X3_leastSet (d := d + 0) x2 I J (t := o) ho ?_
  exact p_X3_total_4 x1 x2 z3 o.1 o.2.1 o.2.2 h hC
theorem p_X3_total_2 {L : Nat} {xs : Nat → Int32} {d : Nat} {Q : xO → Prop} (x1 : Int32) (x2 : Int32) (z3 : Option Value) (s0 : Int32) (s1 : Int32) (I : xI) (J : xJ) {t : (Int32 × Int32 × (Option Value) × xI × xJ) ⊕ (Int32 × xI × xJ)} (h : f_X3_total_2 x1 x2 z3 s0 s1 I J = some t) (hC : (c_X3_total_1 L xs d Q) t) : Rn L xs (d + 3) 37 12 [some (.ref 48), some (.int x1), some (.int x2), z3] [.int s1, .int s0] 94 (I, J, xrf) Q := by
  unfold f_X3_total_2 at h
  refine Rn.fi 1 (c := s1 ≤ s0) (p1 := 43) (l1 := [some (.ref 48), some (.int x1), some (.int x2), z3]) (s1 := []) (n1 := 94) (M1 := (I, J, xrf)) (p2 := 15) (l2 := [some (.ref 48), some (.int x1), some (.int x2), z3]) (s2 := []) (n2 := 94) (M2 := (I, J, xrf)) (fun f => rfl) (fun hc => ?_) (fun hc => ?_)
  · rw [if_pos hc] at h
    obtain ⟨t0, h0, rfl⟩ := Option.map_eq_some_iff.mp h
    exact p_X3_total_8 x1 x2 z3 I J h0 hC
  · rw [if_neg hc] at h
    exact p_X3_total_3 x1 x2 z3 I J h hC
theorem q_X3_total_1 {L : Nat} {xs : Nat → Int32} {d : Nat} {Q : xO → Prop} (x1 : Int32) (x2 : Int32) (z3 : Option Value) (I : xI) (J : xJ) {t : (Int32 × Int32 × (Option Value) × xI × xJ) ⊕ (Int32 × xI × xJ)} (h : b_X3_total_1 x1 x2 z3 I J = some t) (hC : (c_X3_total_1 L xs d Q) t) : Rn L xs (d + 3) 37 4 [some (.ref 48), some (.int x1), some (.int x2), z3] [] 94 (I, J, xrf) Q := by
  unfold b_X3_total_1 at h
  refine Rn.go 3 (j' := 37) (pc' := 9) (ls' := [some (.ref 48), some (.int x1), some (.int x2), z3]) (st' := [.ref 1, .int x2]) (n' := 94) (M' := (I, J, xrf)) (fun f => rfl) ?_
  obtain ⟨o, ho, h⟩ := Option.bind_eq_some_iff.mp h
  refine Rn.call (d1 := d + 2) (j1 := 62) (ls1 := [some (.ref 1)]) (rest := [.int x2]) (fun f => rfl) ?_
  refine p_X5_bits (d := d + 1) I J (t := o) ho ?_
  exact p_X3_total_2 x1 x2 z3 x2 o.1 o.2.1 o.2.2 h hC
theorem p_X3_total_1 {L : Nat} {xs : Nat → Int32} {d : Nat} {Q : xO → Prop} (x1 : Int32) (x2 : Int32) (z3 : Option Value) (I : xI) (J : xJ) {t : Int32 × xI × xJ} (h : f_X3_total_1 x1 x2 z3 I J = some t) (hC : (c_X3_total Q) t) : Rn L xs (d + 3) 37 4 [some (.ref 48), some (.int x1), some (.int x2), z3] [] 94 (I, J, xrf) Q := by
  unfold f_X3_total_1 at h
  exact xloop_some (P := fun s : Int32 × Int32 × (Option Value) × xI × xJ => Rn L xs (d + 3) 37 4 [some (.ref 48), some (.int s.1), some (.int s.2.1), s.2.2.1] [] 94 (s.2.2.2.1, s.2.2.2.2, xrf) Q) t (fun s ⟨s', hb, hp⟩ => q_X3_total_1 s.1 s.2.1 s.2.2.1 s.2.2.2.1 s.2.2.2.2 hb hp) (fun s hb => q_X3_total_1 s.1 s.2.1 s.2.2.1 s.2.2.2.1 s.2.2.2.2 hb hC) _ _ h
theorem p_X3_total_0 {L : Nat} {xs : Nat → Int32} {d : Nat} {Q : xO → Prop} (I : xI) (J : xJ) {t : Int32 × xI × xJ} (h : f_X3_total_0 I J = some t) (hC : (c_X3_total Q) t) : Rn L xs (d + 3) 37 0 [some (.ref 48), none, none, none] [] 94 (I, J, xrf) Q := by
  unfold f_X3_total_0 at h
  refine Rn.go 4 (j' := 37) (pc' := 4) (ls' := [some (.ref 48), some (.int 0), some (.int 0), none]) (st' := []) (n' := 94) (M' := (I, J, xrf)) (fun f => rfl) ?_
  exact p_X3_total_1 0 0 none I J h hC
theorem p_X3_total {L : Nat} {xs : Nat → Int32} {d : Nat} {Q : xO → Prop} (I : xI) (J : xJ) {t : Int32 × xI × xJ} (h : f_X3_total I J = some t) (hC : Q ((some (.int t.1)), 94, (t.2.1, t.2.2, xrf))) : Rn L xs (d + 3) 37 0 [some (.ref 48), none, none, none] [] 94 (I, J, xrf) Q := p_X3_total_0 I J h hC
/-! X11_cost -/
def c_X11_cost (Q : xO → Prop) (t : Int32 × xI × xJ) : Prop := Q ((some (.int t.1)), 94, (t.2.1, t.2.2, xrf))
def f_X11_cost_2 (s0 : Int32) (I : xI) (J : xJ) : Option (Int32 × xI × xJ) := some (s0, I, J)
def f_X11_cost_1 (I : xI) (J : xJ) : Option (Int32 × xI × xJ) := (f_X3_total I J).bind fun o => f_X11_cost_2 o.1 o.2.1 o.2.2
def f_X11_cost_0 (I : xI) (J : xJ) : Option (Int32 × xI × xJ) := (f_X11_hangingNow I J).bind fun o => f_X11_cost_1 o.2.1 o.2.2
def f_X11_cost (I : xI) (J : xJ) : Option (Int32 × xI × xJ) := f_X11_cost_0 I J
theorem p_X11_cost_2 {L : Nat} {xs : Nat → Int32} {d : Nat} {Q : xO → Prop} (s0 : Int32) (I : xI) (J : xJ) {t : Int32 × xI × xJ} (h : f_X11_cost_2 s0 I J = some t) (hC : (c_X11_cost Q) t) : Rn L xs (d + 6) 168 7 [some (.ref 0)] [.int s0] 94 (I, J, xrf) Q := by
  unfold f_X11_cost_2 at h
  cases h
  exact Rn.ret 1 (o := ((some (.int s0)), 94, (I, J, xrf))) (fun f => rfl) hC
theorem p_X11_cost_1 {L : Nat} {xs : Nat → Int32} {d : Nat} {Q : xO → Prop} (I : xI) (J : xJ) {t : Int32 × xI × xJ} (h : f_X11_cost_1 I J = some t) (hC : (c_X11_cost Q) t) : Rn L xs (d + 6) 168 4 [some (.ref 0)] [.ref 48] 94 (I, J, xrf) Q := by
  unfold f_X11_cost_1 at h
  obtain ⟨o, ho, h⟩ := Option.bind_eq_some_iff.mp h
  refine Rn.call (d1 := d + 5) (j1 := 37) (ls1 := [some (.ref 48), none, none, none]) (rest := []) (fun f => rfl) ?_
  refine p_X3_total (d := d + 2) I J (t := o) ho ?_
  exact p_X11_cost_2 o.1 o.2.1 o.2.2 h hC
theorem p_X11_cost_0 {L : Nat} {xs : Nat → Int32} {d : Nat} {Q : xO → Prop} (I : xI) (J : xJ) {t : Int32 × xI × xJ} (h : f_X11_cost_0 I J = some t) (hC : (c_X11_cost Q) t) : Rn L xs (d + 6) 168 0 [some (.ref 0)] [] 94 (I, J, xrf) Q := by
  unfold f_X11_cost_0 at h
  refine Rn.go 1 (j' := 168) (pc' := 1) (ls' := [some (.ref 0)]) (st' := [.ref 0]) (n' := 94) (M' := (I, J, xrf)) (fun f => rfl) ?_
  obtain ⟨o, ho, h⟩ := Option.bind_eq_some_iff.mp h
  refine Rn.call (d1 := d + 5) (j1 := 180) (ls1 := [some (.ref 0)]) (rest := []) (fun f => rfl) ?_
  refine p_X11_hangingNow (d := d + 0) I J (t := o) ho ?_
  exact p_X11_cost_1 o.2.1 o.2.2 h hC
theorem p_X11_cost {L : Nat} {xs : Nat → Int32} {d : Nat} {Q : xO → Prop} (I : xI) (J : xJ) {t : Int32 × xI × xJ} (h : f_X11_cost I J = some t) (hC : Q ((some (.int t.1)), 94, (t.2.1, t.2.2, xrf))) : Rn L xs (d + 6) 168 0 [some (.ref 0)] [] 94 (I, J, xrf) Q := p_X11_cost_0 I J h hC
/-! X5_isProper -/
def c_X5_isProper (Q : xO → Prop) (t : Int32 × xI × xJ) : Prop := Q ((some (.int t.1)), 94, (t.2.1, t.2.2, xrf))
def c_X5_isProper_1 (L : Nat) (xs : Nat → Int32) (d : Nat) (Q : xO → Prop) (t : (Int32 × Int32 × xI × xJ) ⊕ (Int32 × xI × xJ)) : Prop := match t with
  | .inl s => Rn L xs (d + 2) 63 4 [some (.ref 1), some (.int s.1), some (.int s.2.1)] [] 94 (s.2.2.1, s.2.2.2, xrf) Q
  | .inr t => (c_X5_isProper Q) t
def f_X5_isProper_7 (x1 : Int32) (x2 : Int32) (I : xI) (J : xJ) : Option (Int32 × xI × xJ) := some (1, I, J)
def f_X5_isProper_5 (x1 : Int32) (x2 : Int32) (I : xI) (J : xJ) : Option (Int32 × xI × xJ) := some (0, I, J)
def f_X5_isProper_6 (x1 : Int32) (x2 : Int32) (I : xI) (J : xJ) : Option ((Int32 × Int32 × xI × xJ) ⊕ (Int32 × xI × xJ)) := if x2 < 0 ∨ 6 ≤ x2.toNatClampNeg then none else some (.inl (((x1 ||| (1 <<< ((I 4 x2.toNatClampNeg) &&& 31)))), ((x2 + 1)), I, J))
def f_X5_isProper_4 (x1 : Int32) (x2 : Int32) (I : xI) (J : xJ) : Option ((Int32 × Int32 × xI × xJ) ⊕ (Int32 × xI × xJ)) := if x2 < 0 ∨ 6 ≤ x2.toNatClampNeg then none else if ((x1 >>> ((I 4 x2.toNatClampNeg) &&& 31)) &&& 1) = 1 then ((f_X5_isProper_5 x1 x2 I J)).map .inr else f_X5_isProper_6 x1 x2 I J
def f_X5_isProper_3 (x1 : Int32) (x2 : Int32) (s0 : Int32) (s1 : Int32) (s2 : Int32) (I : xI) (J : xJ) : Option ((Int32 × Int32 × xI × xJ) ⊕ (Int32 × xI × xJ)) := if (s1 <<< (s2 &&& 31)) ≤ s0 then ((f_X5_isProper_5 x1 x2 I J)).map .inr else f_X5_isProper_4 x1 x2 I J
def f_X5_isProper_2 (x1 : Int32) (x2 : Int32) (I : xI) (J : xJ) : Option ((Int32 × Int32 × xI × xJ) ⊕ (Int32 × xI × xJ)) := if x2 < 0 ∨ 6 ≤ x2.toNatClampNeg then none else (f_X5_bits I J).bind fun o => f_X5_isProper_3 x1 x2 ((I 4 x2.toNatClampNeg)) 1 o.1 o.2.1 o.2.2
def b_X5_isProper_1 (x1 : Int32) (x2 : Int32) (I : xI) (J : xJ) : Option ((Int32 × Int32 × xI × xJ) ⊕ (Int32 × xI × xJ)) := if (I 1 0) ≤ x2 then ((f_X5_isProper_7 x1 x2 I J)).map .inr else f_X5_isProper_2 x1 x2 I J
def f_X5_isProper_1 (x1 : Int32) (x2 : Int32) (I : xI) (J : xJ) : Option (Int32 × xI × xJ) := xloop (fun s : Int32 × Int32 × xI × xJ => b_X5_isProper_1 s.1 s.2.1 s.2.2.1 s.2.2.2) 5000 (x1, x2, I, J)
def f_X5_isProper_0 (I : xI) (J : xJ) : Option (Int32 × xI × xJ) := f_X5_isProper_1 0 0 I J
def f_X5_isProper (I : xI) (J : xJ) : Option (Int32 × xI × xJ) := f_X5_isProper_0 I J
theorem p_X5_isProper_7 {L : Nat} {xs : Nat → Int32} {d : Nat} {Q : xO → Prop} (x1 : Int32) (x2 : Int32) (I : xI) (J : xJ) {t : Int32 × xI × xJ} (h : f_X5_isProper_7 x1 x2 I J = some t) (hC : (c_X5_isProper Q) t) : Rn L xs (d + 2) 63 60 [some (.ref 1), some (.int x1), some (.int x2)] [] 94 (I, J, xrf) Q := by
  unfold f_X5_isProper_7 at h
  cases h
  exact Rn.ret 2 (o := ((some (.int 1)), 94, (I, J, xrf))) (fun f => rfl) hC
theorem p_X5_isProper_5 {L : Nat} {xs : Nat → Int32} {d : Nat} {Q : xO → Prop} (x1 : Int32) (x2 : Int32) (I : xI) (J : xJ) {t : Int32 × xI × xJ} (h : f_X5_isProper_5 x1 x2 I J = some t) (hC : (c_X5_isProper Q) t) : Rn L xs (d + 2) 63 41 [some (.ref 1), some (.int x1), some (.int x2)] [] 94 (I, J, xrf) Q := by
  unfold f_X5_isProper_5 at h
  cases h
  exact Rn.ret 2 (o := ((some (.int 0)), 94, (I, J, xrf))) (fun f => rfl) hC
theorem p_X5_isProper_6 {L : Nat} {xs : Nat → Int32} {d : Nat} {Q : xO → Prop} (x1 : Int32) (x2 : Int32) (I : xI) (J : xJ) {t : (Int32 × Int32 × xI × xJ) ⊕ (Int32 × xI × xJ)} (h : f_X5_isProper_6 x1 x2 I J = some t) (hC : (c_X5_isProper_1 L xs d Q) t) : Rn L xs (d + 2) 63 43 [some (.ref 1), some (.int x1), some (.int x2)] [] 94 (I, J, xrf) Q := by
  unfold f_X5_isProper_6 at h
  obtain ⟨hc, h⟩ := xif h
  refine Rn.ok 6 (c := x2 < 0 ∨ 6 ≤ x2.toNatClampNeg) (p1 := 51) (l1 := [some (.ref 1), some (.int x1), some (.int x2)]) (s1 := [.int ((I 4 x2.toNatClampNeg)), .int 1, .int x1]) (n1 := 94) (M1 := (I, J, xrf)) (fun f => rfl) hc ?_
  refine Rn.go 5 (j' := 63) (pc' := 4) (ls' := [some (.ref 1), some (.int ((x1 ||| (1 <<< ((I 4 x2.toNatClampNeg) &&& 31))))), some (.int ((x2 + 1)))]) (st' := []) (n' := 94) (M' := (I, J, xrf)) (fun f => rfl) ?_
  cases h; exact hC
theorem p_X5_isProper_4 {L : Nat} {xs : Nat → Int32} {d : Nat} {Q : xO → Prop} (x1 : Int32) (x2 : Int32) (I : xI) (J : xJ) {t : (Int32 × Int32 × xI × xJ) ⊕ (Int32 × xI × xJ)} (h : f_X5_isProper_4 x1 x2 I J = some t) (hC : (c_X5_isProper_1 L xs d Q) t) : Rn L xs (d + 2) 63 27 [some (.ref 1), some (.int x1), some (.int x2)] [] 94 (I, J, xrf) Q := by
  unfold f_X5_isProper_4 at h
  obtain ⟨hc, h⟩ := xif h
  refine Rn.ok 5 (c := x2 < 0 ∨ 6 ≤ x2.toNatClampNeg) (p1 := 34) (l1 := [some (.ref 1), some (.int x1), some (.int x2)]) (s1 := [.int ((I 4 x2.toNatClampNeg)), .int x1]) (n1 := 94) (M1 := (I, J, xrf)) (fun f => rfl) hc ?_
  refine Rn.fi 5 (c := ((x1 >>> ((I 4 x2.toNatClampNeg) &&& 31)) &&& 1) = 1) (p1 := 41) (l1 := [some (.ref 1), some (.int x1), some (.int x2)]) (s1 := []) (n1 := 94) (M1 := (I, J, xrf)) (p2 := 43) (l2 := [some (.ref 1), some (.int x1), some (.int x2)]) (s2 := []) (n2 := 94) (M2 := (I, J, xrf)) (fun f => rfl) (fun hc => ?_) (fun hc => ?_)
  · rw [if_pos hc] at h
    obtain ⟨t0, h0, rfl⟩ := Option.map_eq_some_iff.mp h
    exact p_X5_isProper_5 x1 x2 I J h0 hC
  · rw [if_neg hc] at h
    exact p_X5_isProper_6 x1 x2 I J h hC
theorem p_X5_isProper_3 {L : Nat} {xs : Nat → Int32} {d : Nat} {Q : xO → Prop} (x1 : Int32) (x2 : Int32) (s0 : Int32) (s1 : Int32) (s2 : Int32) (I : xI) (J : xJ) {t : (Int32 × Int32 × xI × xJ) ⊕ (Int32 × xI × xJ)} (h : f_X5_isProper_3 x1 x2 s0 s1 s2 I J = some t) (hC : (c_X5_isProper_1 L xs d Q) t) : Rn L xs (d + 2) 63 23 [some (.ref 1), some (.int x1), some (.int x2)] [.int s2, .int s1, .int s0] 94 (I, J, xrf) Q := by
  unfold f_X5_isProper_3 at h
  refine Rn.fi 2 (c := (s1 <<< (s2 &&& 31)) ≤ s0) (p1 := 41) (l1 := [some (.ref 1), some (.int x1), some (.int x2)]) (s1 := []) (n1 := 94) (M1 := (I, J, xrf)) (p2 := 27) (l2 := [some (.ref 1), some (.int x1), some (.int x2)]) (s2 := []) (n2 := 94) (M2 := (I, J, xrf)) (fun f => rfl) (fun hc => ?_) (fun hc => ?_)
  · rw [if_pos hc] at h
    obtain ⟨t0, h0, rfl⟩ := Option.map_eq_some_iff.mp h
    exact p_X5_isProper_5 x1 x2 I J h0 hC
  · rw [if_neg hc] at h
    exact p_X5_isProper_4 x1 x2 I J h hC
theorem p_X5_isProper_2 {L : Nat} {xs : Nat → Int32} {d : Nat} {Q : xO → Prop} (x1 : Int32) (x2 : Int32) (I : xI) (J : xJ) {t : (Int32 × Int32 × xI × xJ) ⊕ (Int32 × xI × xJ)} (h : f_X5_isProper_2 x1 x2 I J = some t) (hC : (c_X5_isProper_1 L xs d Q) t) : Rn L xs (d + 2) 63 12 [some (.ref 1), some (.int x1), some (.int x2)] [] 94 (I, J, xrf) Q := by
  unfold f_X5_isProper_2 at h
  obtain ⟨hc, h⟩ := xif h
  refine Rn.ok 4 (c := x2 < 0 ∨ 6 ≤ x2.toNatClampNeg) (p1 := 18) (l1 := [some (.ref 1), some (.int x1), some (.int x2)]) (s1 := [.int ((I 4 x2.toNatClampNeg))]) (n1 := 94) (M1 := (I, J, xrf)) (fun f => rfl) hc ?_
  refine Rn.go 2 (j' := 63) (pc' := 20) (ls' := [some (.ref 1), some (.int x1), some (.int x2)]) (st' := [.ref 1, .int 1, .int ((I 4 x2.toNatClampNeg))]) (n' := 94) (M' := (I, J, xrf)) (fun f => rfl) ?_
  obtain ⟨o, ho, h⟩ := Option.bind_eq_some_iff.mp h
  refine Rn.call (d1 := d + 1) (j1 := 62) (ls1 := [some (.ref 1)]) (rest := [.int 1, .int ((I 4 x2.toNatClampNeg))]) (fun f => rfl) ?_
  refine p_X5_bits (d := d + 0) I J (t := o) ho ?_
  exact p_X5_isProper_3 x1 x2 ((I 4 x2.toNatClampNeg)) 1 o.1 o.2.1 o.2.2 h hC
theorem q_X5_isProper_1 {L : Nat} {xs : Nat → Int32} {d : Nat} {Q : xO → Prop} (x1 : Int32) (x2 : Int32) (I : xI) (J : xJ) {t : (Int32 × Int32 × xI × xJ) ⊕ (Int32 × xI × xJ)} (h : b_X5_isProper_1 x1 x2 I J = some t) (hC : (c_X5_isProper_1 L xs d Q) t) : Rn L xs (d + 2) 63 4 [some (.ref 1), some (.int x1), some (.int x2)] [] 94 (I, J, xrf) Q := by
  unfold b_X5_isProper_1 at h
  refine Rn.fi 4 (c := (I 1 0) ≤ x2) (p1 := 60) (l1 := [some (.ref 1), some (.int x1), some (.int x2)]) (s1 := []) (n1 := 94) (M1 := (I, J, xrf)) (p2 := 12) (l2 := [some (.ref 1), some (.int x1), some (.int x2)]) (s2 := []) (n2 := 94) (M2 := (I, J, xrf)) (fun f => rfl) (fun hc => ?_) (fun hc => ?_)
  · rw [if_pos hc] at h
    obtain ⟨t0, h0, rfl⟩ := Option.map_eq_some_iff.mp h
    exact p_X5_isProper_7 x1 x2 I J h0 hC
  · rw [if_neg hc] at h
    exact p_X5_isProper_2 x1 x2 I J h hC
theorem p_X5_isProper_1 {L : Nat} {xs : Nat → Int32} {d : Nat} {Q : xO → Prop} (x1 : Int32) (x2 : Int32) (I : xI) (J : xJ) {t : Int32 × xI × xJ} (h : f_X5_isProper_1 x1 x2 I J = some t) (hC : (c_X5_isProper Q) t) : Rn L xs (d + 2) 63 4 [some (.ref 1), some (.int x1), some (.int x2)] [] 94 (I, J, xrf) Q := by
  unfold f_X5_isProper_1 at h
  exact xloop_some (P := fun s : Int32 × Int32 × xI × xJ => Rn L xs (d + 2) 63 4 [some (.ref 1), some (.int s.1), some (.int s.2.1)] [] 94 (s.2.2.1, s.2.2.2, xrf) Q) t (fun s ⟨s', hb, hp⟩ => q_X5_isProper_1 s.1 s.2.1 s.2.2.1 s.2.2.2 hb hp) (fun s hb => q_X5_isProper_1 s.1 s.2.1 s.2.2.1 s.2.2.2 hb hC) _ _ h
theorem p_X5_isProper_0 {L : Nat} {xs : Nat → Int32} {d : Nat} {Q : xO → Prop} (I : xI) (J : xJ) {t : Int32 × xI × xJ} (h : f_X5_isProper_0 I J = some t) (hC : (c_X5_isProper Q) t) : Rn L xs (d + 2) 63 0 [some (.ref 1), none, none] [] 94 (I, J, xrf) Q := by
  unfold f_X5_isProper_0 at h
  refine Rn.go 4 (j' := 63) (pc' := 4) (ls' := [some (.ref 1), some (.int 0), some (.int 0)]) (st' := []) (n' := 94) (M' := (I, J, xrf)) (fun f => rfl) ?_
  exact p_X5_isProper_1 0 0 I J h hC
theorem p_X5_isProper {L : Nat} {xs : Nat → Int32} {d : Nat} {Q : xO → Prop} (I : xI) (J : xJ) {t : Int32 × xI × xJ} (h : f_X5_isProper I J = some t) (hC : Q ((some (.int t.1)), 94, (t.2.1, t.2.2, xrf))) : Rn L xs (d + 2) 63 0 [some (.ref 1), none, none] [] 94 (I, J, xrf) Q := p_X5_isProper_0 I J h hC
/-! X2_look_4 -/
def c_X2_look_4 (Q : xO → Prop) (t : Unit × xI × xJ) : Prop := Q (none, 94, (t.2.1, t.2.2, xrf))
def c_X2_look_4_1 (L : Nat) (xs : Nat → Int32) (d : Nat) (Q : xO → Prop) (t : (Int32 × Int32 × Int32 × (Option Value) × xI × xJ) ⊕ (Unit × xI × xJ)) : Prop := match t with
  | .inl s => Rn L xs (d + 2) 26 13 [some (.ref 51), some (.ref 4), some (.int s.1), some (.int s.2.1), some (.int s.2.2.1), s.2.2.2.1] [] 94 (s.2.2.2.2.1, s.2.2.2.2.2, xrf) Q
  | .inr t => (c_X2_look_4 Q) t
def f_X2_look_4_7 (x2 : Int32) (x3 : Int32) (x4 : Int32) (z5 : Option Value) (I : xI) (J : xJ) : Option (Unit × xI × xJ) := some ((), I, J)
def f_X2_look_4_6 (x2 : Int32) (x3 : Int32) (x4 : Int32) (x5 : Int32) (I : xI) (J : xJ) : Option ((Int32 × Int32 × Int32 × (Option Value) × xI × xJ) ⊕ (Unit × xI × xJ)) := some (.inl (x2, x3, ((x4 + 1)), (some (.int x5)), I, J))
def f_X2_look_4_5 (x2 : Int32) (x3 : Int32) (x4 : Int32) (x5 : Int32) (I : xI) (J : xJ) : Option ((Int32 × Int32 × Int32 × (Option Value) × xI × xJ) ⊕ (Unit × xI × xJ)) := if x4 < 0 ∨ 6 ≤ x4.toNatClampNeg then none else if x5 < 0 ∨ 6 ≤ x5.toNatClampNeg then none else if ((((xup I 51 5 (((I 51 5) ||| (1 <<< ((I 4 x4.toNatClampNeg) &&& 31)))))) 4 x5.toNatClampNeg) &&& 7) < 0 ∨ 8 ≤ (((((xup I 51 5 (((I 51 5) ||| (1 <<< ((I 4 x4.toNatClampNeg) &&& 31)))))) 4 x5.toNatClampNeg) &&& 7)).toNatClampNeg then none else if x4 < 0 ∨ 6 ≤ x4.toNatClampNeg then none else f_X2_look_4_6 x2 x3 x4 x5 ((xup ((xup I 51 5 (((I 51 5) ||| (1 <<< ((I 4 x4.toNatClampNeg) &&& 31)))))) 51 6 (((((xup I 51 5 (((I 51 5) ||| (1 <<< ((I 4 x4.toNatClampNeg) &&& 31)))))) 51 6) ||| ((zst1004 (((((xup I 51 5 (((I 51 5) ||| (1 <<< ((I 4 x4.toNatClampNeg) &&& 31)))))) 4 x5.toNatClampNeg) &&& 7)).toNatClampNeg) <<< ((((xup I 51 5 (((I 51 5) ||| (1 <<< ((I 4 x4.toNatClampNeg) &&& 31)))))) 4 x4.toNatClampNeg) &&& 31)))))) J
def f_X2_look_4_4 (x2 : Int32) (x3 : Int32) (x4 : Int32) (x5 : Int32) (I : xI) (J : xJ) : Option ((Int32 × Int32 × Int32 × (Option Value) × xI × xJ) ⊕ (Unit × xI × xJ)) := if x2 ≤ x5 then f_X2_look_4_6 x2 x3 x4 x5 I J else f_X2_look_4_5 x2 x3 x4 x5 I J
def f_X2_look_4_3 (x2 : Int32) (x3 : Int32) (x4 : Int32) (z5 : Option Value) (s0 : Int32) (I : xI) (J : xJ) : Option ((Int32 × Int32 × Int32 × (Option Value) × xI × xJ) ⊕ (Unit × xI × xJ)) := if s0 < 0 then f_X2_look_4_6 x2 x3 x4 s0 I J else f_X2_look_4_4 x2 x3 x4 s0 I J
def f_X2_look_4_2 (x2 : Int32) (x3 : Int32) (x4 : Int32) (z5 : Option Value) (I : xI) (J : xJ) : Option ((Int32 × Int32 × Int32 × (Option Value) × xI × xJ) ⊕ (Unit × xI × xJ)) := (f_X5_targetOf x4 x3 I J).bind fun o => f_X2_look_4_3 x2 x3 x4 z5 o.1 o.2.1 o.2.2
def b_X2_look_4_1 (x2 : Int32) (x3 : Int32) (x4 : Int32) (z5 : Option Value) (I : xI) (J : xJ) : Option ((Int32 × Int32 × Int32 × (Option Value) × xI × xJ) ⊕ (Unit × xI × xJ)) := if x2 ≤ x4 then ((f_X2_look_4_7 x2 x3 x4 z5 I J)).map .inr else f_X2_look_4_2 x2 x3 x4 z5 I J
def f_X2_look_4_1 (x2 : Int32) (x3 : Int32) (x4 : Int32) (z5 : Option Value) (I : xI) (J : xJ) : Option (Unit × xI × xJ) := xloop (fun s : Int32 × Int32 × Int32 × (Option Value) × xI × xJ => b_X2_look_4_1 s.1 s.2.1 s.2.2.1 s.2.2.2.1 s.2.2.2.2.1 s.2.2.2.2.2) 5000 (x2, x3, x4, z5, I, J)
def f_X2_look_4_0 (x2 : Int32) (x3 : Int32) (I : xI) (J : xJ) : Option (Unit × xI × xJ) := f_X2_look_4_1 x2 x3 0 none ((xup ((xup I 51 5 0)) 51 6 0)) J
def f_X2_look_4 (x2 : Int32) (x3 : Int32) (I : xI) (J : xJ) : Option (Unit × xI × xJ) := f_X2_look_4_0 x2 x3 I J
theorem p_X2_look_4_7 {L : Nat} {xs : Nat → Int32} {d : Nat} {Q : xO → Prop} (x2 : Int32) (x3 : Int32) (x4 : Int32) (z5 : Option Value) (I : xI) (J : xJ) {t : Unit × xI × xJ} (h : f_X2_look_4_7 x2 x3 x4 z5 I J = some t) (hC : (c_X2_look_4 Q) t) : Rn L xs (d + 2) 26 88 [some (.ref 51), some (.ref 4), some (.int x2), some (.int x3), some (.int x4), z5] [] 94 (I, J, xrf) Q := by
  unfold f_X2_look_4_7 at h
  cases h
  exact Rn.ret 1 (o := (none, 94, (I, J, xrf))) (fun f => rfl) hC
theorem p_X2_look_4_6 {L : Nat} {xs : Nat → Int32} {d : Nat} {Q : xO → Prop} (x2 : Int32) (x3 : Int32) (x4 : Int32) (x5 : Int32) (I : xI) (J : xJ) {t : (Int32 × Int32 × Int32 × (Option Value) × xI × xJ) ⊕ (Unit × xI × xJ)} (h : f_X2_look_4_6 x2 x3 x4 x5 I J = some t) (hC : (c_X2_look_4_1 L xs d Q) t) : Rn L xs (d + 2) 26 82 [some (.ref 51), some (.ref 4), some (.int x2), some (.int x3), some (.int x4), some (.int x5)] [] 94 (I, J, xrf) Q := by
  unfold f_X2_look_4_6 at h
  refine Rn.go 2 (j' := 26) (pc' := 13) (ls' := [some (.ref 51), some (.ref 4), some (.int x2), some (.int x3), some (.int ((x4 + 1))), some (.int x5)]) (st' := []) (n' := 94) (M' := (I, J, xrf)) (fun f => rfl) ?_
  cases h; exact hC
theorem p_X2_look_4_5 {L : Nat} {xs : Nat → Int32} {d : Nat} {Q : xO → Prop} (x2 : Int32) (x3 : Int32) (x4 : Int32) (x5 : Int32) (I : xI) (J : xJ) {t : (Int32 × Int32 × Int32 × (Option Value) × xI × xJ) ⊕ (Unit × xI × xJ)} (h : f_X2_look_4_5 x2 x3 x4 x5 I J = some t) (hC : (c_X2_look_4_1 L xs d Q) t) : Rn L xs (d + 2) 26 42 [some (.ref 51), some (.ref 4), some (.int x2), some (.int x3), some (.int x4), some (.int x5)] [] 94 (I, J, xrf) Q := by
  unfold f_X2_look_4_5 at h
  obtain ⟨hc, h⟩ := xif h
  refine Rn.ok 7 (c := x4 < 0 ∨ 6 ≤ x4.toNatClampNeg) (p1 := 52) (l1 := [some (.ref 51), some (.ref 4), some (.int x2), some (.int x3), some (.int x4), some (.int x5)]) (s1 := [.int ((I 4 x4.toNatClampNeg)), .int 1, .int ((I 51 5)), .ref 51]) (n1 := 94) (M1 := (I, J, xrf)) (fun f => rfl) hc ?_
  obtain ⟨hc, h⟩ := xif h
  refine Rn.ok 10 (c := x5 < 0 ∨ 6 ≤ x5.toNatClampNeg) (p1 := 69) (l1 := [some (.ref 51), some (.ref 4), some (.int x2), some (.int x3), some (.int x4), some (.int x5)]) (s1 := [.int ((((xup I 51 5 (((I 51 5) ||| (1 <<< ((I 4 x4.toNatClampNeg) &&& 31)))))) 4 x5.toNatClampNeg)), .ref 1004, .int ((((xup I 51 5 (((I 51 5) ||| (1 <<< ((I 4 x4.toNatClampNeg) &&& 31)))))) 51 6)), .ref 51]) (n1 := 94) (M1 := ((xup I 51 5 (((I 51 5) ||| (1 <<< ((I 4 x4.toNatClampNeg) &&& 31))))), J, xrf)) (fun f => rfl) hc ?_
  obtain ⟨hc, h⟩ := xif h
  refine Rn.ok 3 (c := ((((xup I 51 5 (((I 51 5) ||| (1 <<< ((I 4 x4.toNatClampNeg) &&& 31)))))) 4 x5.toNatClampNeg) &&& 7) < 0 ∨ 8 ≤ (((((xup I 51 5 (((I 51 5) ||| (1 <<< ((I 4 x4.toNatClampNeg) &&& 31)))))) 4 x5.toNatClampNeg) &&& 7)).toNatClampNeg) (p1 := 73) (l1 := [some (.ref 51), some (.ref 4), some (.int x2), some (.int x3), some (.int x4), some (.int x5)]) (s1 := [.int ((zst1004 (((((xup I 51 5 (((I 51 5) ||| (1 <<< ((I 4 x4.toNatClampNeg) &&& 31)))))) 4 x5.toNatClampNeg) &&& 7)).toNatClampNeg)), .int ((((xup I 51 5 (((I 51 5) ||| (1 <<< ((I 4 x4.toNatClampNeg) &&& 31)))))) 51 6)), .ref 51]) (n1 := 94) (M1 := ((xup I 51 5 (((I 51 5) ||| (1 <<< ((I 4 x4.toNatClampNeg) &&& 31))))), J, xrf)) (fun f => rfl) hc ?_
  obtain ⟨hc, h⟩ := xif h
  refine Rn.ok 3 (c := x4 < 0 ∨ 6 ≤ x4.toNatClampNeg) (p1 := 77) (l1 := [some (.ref 51), some (.ref 4), some (.int x2), some (.int x3), some (.int x4), some (.int x5)]) (s1 := [.int ((((xup I 51 5 (((I 51 5) ||| (1 <<< ((I 4 x4.toNatClampNeg) &&& 31)))))) 4 x4.toNatClampNeg)), .int ((zst1004 (((((xup I 51 5 (((I 51 5) ||| (1 <<< ((I 4 x4.toNatClampNeg) &&& 31)))))) 4 x5.toNatClampNeg) &&& 7)).toNatClampNeg)), .int ((((xup I 51 5 (((I 51 5) ||| (1 <<< ((I 4 x4.toNatClampNeg) &&& 31)))))) 51 6)), .ref 51]) (n1 := 94) (M1 := ((xup I 51 5 (((I 51 5) ||| (1 <<< ((I 4 x4.toNatClampNeg) &&& 31))))), J, xrf)) (fun f => rfl) hc ?_
  refine Rn.go 3 (j' := 26) (pc' := 82) (ls' := [some (.ref 51), some (.ref 4), some (.int x2), some (.int x3), some (.int x4), some (.int x5)]) (st' := []) (n' := 94) (M' := ((xup ((xup I 51 5 (((I 51 5) ||| (1 <<< ((I 4 x4.toNatClampNeg) &&& 31)))))) 51 6 (((((xup I 51 5 (((I 51 5) ||| (1 <<< ((I 4 x4.toNatClampNeg) &&& 31)))))) 51 6) ||| ((zst1004 (((((xup I 51 5 (((I 51 5) ||| (1 <<< ((I 4 x4.toNatClampNeg) &&& 31)))))) 4 x5.toNatClampNeg) &&& 7)).toNatClampNeg) <<< ((((xup I 51 5 (((I 51 5) ||| (1 <<< ((I 4 x4.toNatClampNeg) &&& 31)))))) 4 x4.toNatClampNeg) &&& 31))))), J, xrf)) (fun f => rfl) ?_
  exact p_X2_look_4_6 x2 x3 x4 x5 ((xup ((xup I 51 5 (((I 51 5) ||| (1 <<< ((I 4 x4.toNatClampNeg) &&& 31)))))) 51 6 (((((xup I 51 5 (((I 51 5) ||| (1 <<< ((I 4 x4.toNatClampNeg) &&& 31)))))) 51 6) ||| ((zst1004 (((((xup I 51 5 (((I 51 5) ||| (1 <<< ((I 4 x4.toNatClampNeg) &&& 31)))))) 4 x5.toNatClampNeg) &&& 7)).toNatClampNeg) <<< ((((xup I 51 5 (((I 51 5) ||| (1 <<< ((I 4 x4.toNatClampNeg) &&& 31)))))) 4 x4.toNatClampNeg) &&& 31)))))) J h hC
theorem p_X2_look_4_4 {L : Nat} {xs : Nat → Int32} {d : Nat} {Q : xO → Prop} (x2 : Int32) (x3 : Int32) (x4 : Int32) (x5 : Int32) (I : xI) (J : xJ) {t : (Int32 × Int32 × Int32 × (Option Value) × xI × xJ) ⊕ (Unit × xI × xJ)} (h : f_X2_look_4_4 x2 x3 x4 x5 I J = some t) (hC : (c_X2_look_4_1 L xs d Q) t) : Rn L xs (d + 2) 26 36 [some (.ref 51), some (.ref 4), some (.int x2), some (.int x3), some (.int x4), some (.int x5)] [] 94 (I, J, xrf) Q := by
  unfold f_X2_look_4_4 at h
  refine Rn.fi 3 (c := x2 ≤ x5) (p1 := 82) (l1 := [some (.ref 51), some (.ref 4), some (.int x2), some (.int x3), some (.int x4), some (.int x5)]) (s1 := []) (n1 := 94) (M1 := (I, J, xrf)) (p2 := 42) (l2 := [some (.ref 51), some (.ref 4), some (.int x2), some (.int x3), some (.int x4), some (.int x5)]) (s2 := []) (n2 := 94) (M2 := (I, J, xrf)) (fun f => rfl) (fun hc => ?_) (fun hc => ?_)
  · rw [if_pos hc] at h
    exact p_X2_look_4_6 x2 x3 x4 x5 I J h hC
  · rw [if_neg hc] at h
    exact p_X2_look_4_5 x2 x3 x4 x5 I J h hC
theorem p_X2_look_4_3 {L : Nat} {xs : Nat → Int32} {d : Nat} {Q : xO → Prop} (x2 : Int32) (x3 : Int32) (x4 : Int32) (z5 : Option Value) (s0 : Int32) (I : xI) (J : xJ) {t : (Int32 × Int32 × Int32 × (Option Value) × xI × xJ) ⊕ (Unit × xI × xJ)} (h : f_X2_look_4_3 x2 x3 x4 z5 s0 I J = some t) (hC : (c_X2_look_4_1 L xs d Q) t) : Rn L xs (d + 2) 26 29 [some (.ref 51), some (.ref 4), some (.int x2), some (.int x3), some (.int x4), z5] [.int s0] 94 (I, J, xrf) Q := by
  unfold f_X2_look_4_3 at h
  refine Rn.fi 3 (c := s0 < 0) (p1 := 82) (l1 := [some (.ref 51), some (.ref 4), some (.int x2), some (.int x3), some (.int x4), some (.int s0)]) (s1 := []) (n1 := 94) (M1 := (I, J, xrf)) (p2 := 36) (l2 := [some (.ref 51), some (.ref 4), some (.int x2), some (.int x3), some (.int x4), some (.int s0)]) (s2 := []) (n2 := 94) (M2 := (I, J, xrf)) (fun f => rfl) (fun hc => ?_) (fun hc => ?_)
  · rw [if_pos hc] at h
    exact p_X2_look_4_6 x2 x3 x4 s0 I J h hC
  · rw [if_neg hc] at h
    exact p_X2_look_4_4 x2 x3 x4 s0 I J h hC
theorem p_X2_look_4_2 {L : Nat} {xs : Nat → Int32} {d : Nat} {Q : xO → Prop} (x2 : Int32) (x3 : Int32) (x4 : Int32) (z5 : Option Value) (I : xI) (J : xJ) {t : (Int32 × Int32 × Int32 × (Option Value) × xI × xJ) ⊕ (Unit × xI × xJ)} (h : f_X2_look_4_2 x2 x3 x4 z5 I J = some t) (hC : (c_X2_look_4_1 L xs d Q) t) : Rn L xs (d + 2) 26 19 [some (.ref 51), some (.ref 4), some (.int x2), some (.int x3), some (.int x4), z5] [] 94 (I, J, xrf) Q := by
  unfold f_X2_look_4_2 at h
  refine Rn.go 4 (j' := 26) (pc' := 26) (ls' := [some (.ref 51), some (.ref 4), some (.int x2), some (.int x3), some (.int x4), z5]) (st' := [.int x3, .int x4, .ref 1]) (n' := 94) (M' := (I, J, xrf)) (fun f => rfl) ?_
  obtain ⟨o, ho, h⟩ := Option.bind_eq_some_iff.mp h
  refine Rn.call (d1 := d + 1) (j1 := 57) (ls1 := [some (.ref 1), some (.int x4), some (.int x3)]) (rest := []) (fun f => rfl) ?_
  refine p_X5_targetOf (d := d + 0) x4 x3 I J (t := o) ho ?_
  exact p_X2_look_4_3 x2 x3 x4 z5 o.1 o.2.1 o.2.2 h hC
theorem q_X2_look_4_1 {L : Nat} {xs : Nat → Int32} {d : Nat} {Q : xO → Prop} (x2 : Int32) (x3 : Int32) (x4 : Int32) (z5 : Option Value) (I : xI) (J : xJ) {t : (Int32 × Int32 × Int32 × (Option Value) × xI × xJ) ⊕ (Unit × xI × xJ)} (h : b_X2_look_4_1 x2 x3 x4 z5 I J = some t) (hC : (c_X2_look_4_1 L xs d Q) t) : Rn L xs (d + 2) 26 13 [some (.ref 51), some (.ref 4), some (.int x2), some (.int x3), some (.int x4), z5] [] 94 (I, J, xrf) Q := by
  unfold b_X2_look_4_1 at h
  refine Rn.fi 3 (c := x2 ≤ x4) (p1 := 88) (l1 := [some (.ref 51), some (.ref 4), some (.int x2), some (.int x3), some (.int x4), z5]) (s1 := []) (n1 := 94) (M1 := (I, J, xrf)) (p2 := 19) (l2 := [some (.ref 51), some (.ref 4), some (.int x2), some (.int x3), some (.int x4), z5]) (s2 := []) (n2 := 94) (M2 := (I, J, xrf)) (fun f => rfl) (fun hc => ?_) (fun hc => ?_)
  · rw [if_pos hc] at h
    obtain ⟨t0, h0, rfl⟩ := Option.map_eq_some_iff.mp h
    exact p_X2_look_4_7 x2 x3 x4 z5 I J h0 hC
  · rw [if_neg hc] at h
    exact p_X2_look_4_2 x2 x3 x4 z5 I J h hC
theorem p_X2_look_4_1 {L : Nat} {xs : Nat → Int32} {d : Nat} {Q : xO → Prop} (x2 : Int32) (x3 : Int32) (x4 : Int32) (z5 : Option Value) (I : xI) (J : xJ) {t : Unit × xI × xJ} (h : f_X2_look_4_1 x2 x3 x4 z5 I J = some t) (hC : (c_X2_look_4 Q) t) : Rn L xs (d + 2) 26 13 [some (.ref 51), some (.ref 4), some (.int x2), some (.int x3), some (.int x4), z5] [] 94 (I, J, xrf) Q := by
  unfold f_X2_look_4_1 at h
  exact xloop_some (P := fun s : Int32 × Int32 × Int32 × (Option Value) × xI × xJ => Rn L xs (d + 2) 26 13 [some (.ref 51), some (.ref 4), some (.int s.1), some (.int s.2.1), some (.int s.2.2.1), s.2.2.2.1] [] 94 (s.2.2.2.2.1, s.2.2.2.2.2, xrf) Q) t (fun s ⟨s', hb, hp⟩ => q_X2_look_4_1 s.1 s.2.1 s.2.2.1 s.2.2.2.1 s.2.2.2.2.1 s.2.2.2.2.2 hb hp) (fun s hb => q_X2_look_4_1 s.1 s.2.1 s.2.2.1 s.2.2.2.1 s.2.2.2.2.1 s.2.2.2.2.2 hb hC) _ _ h
theorem p_X2_look_4_0 {L : Nat} {xs : Nat → Int32} {d : Nat} {Q : xO → Prop} (x2 : Int32) (x3 : Int32) (I : xI) (J : xJ) {t : Unit × xI × xJ} (h : f_X2_look_4_0 x2 x3 I J = some t) (hC : (c_X2_look_4 Q) t) : Rn L xs (d + 2) 26 0 [some (.ref 51), some (.ref 4), some (.int x2), some (.int x3), none, none] [] 94 (I, J, xrf) Q := by
  unfold f_X2_look_4_0 at h
  refine Rn.go 8 (j' := 26) (pc' := 13) (ls' := [some (.ref 51), some (.ref 4), some (.int x2), some (.int x3), some (.int 0), none]) (st' := []) (n' := 94) (M' := ((xup ((xup I 51 5 0)) 51 6 0), J, xrf)) (fun f => rfl) ?_
  exact p_X2_look_4_1 x2 x3 0 none ((xup ((xup I 51 5 0)) 51 6 0)) J h hC
theorem p_X2_look_4 {L : Nat} {xs : Nat → Int32} {d : Nat} {Q : xO → Prop} (x2 : Int32) (x3 : Int32) (I : xI) (J : xJ) {t : Unit × xI × xJ} (h : f_X2_look_4 x2 x3 I J = some t) (hC : Q (none, 94, (t.2.1, t.2.2, xrf))) : Rn L xs (d + 2) 26 0 [some (.ref 51), some (.ref 4), some (.int x2), some (.int x3), none, none] [] 94 (I, J, xrf) Q := p_X2_look_4_0 x2 x3 I J h hC
/-! X2_aim -/
def c_X2_aim (Q : xO → Prop) (t : Unit × xI × xJ) : Prop := Q (none, 94, (t.2.1, t.2.2, xrf))
def f_X2_aim_0 (x1 : Int32) (I : xI) (J : xJ) : Option (Unit × xI × xJ) := some ((), (xup ((xup I 51 7 ((((I 51 6) >>> ((8 * x1) &&& 31)) &&& 255)))) 51 8 (((((xup I 51 7 ((((I 51 6) >>> ((8 * x1) &&& 31)) &&& 255)))) 51 5) &&& ((((xup I 51 7 ((((I 51 6) >>> ((8 * x1) &&& 31)) &&& 255)))) 51 7) ^^^ (-1))))), J)
def f_X2_aim (x1 : Int32) (I : xI) (J : xJ) : Option (Unit × xI × xJ) := f_X2_aim_0 x1 I J
theorem p_X2_aim_0 {L : Nat} {xs : Nat → Int32} {d : Nat} {Q : xO → Prop} (x1 : Int32) (I : xI) (J : xJ) {t : Unit × xI × xJ} (h : f_X2_aim_0 x1 I J = some t) (hC : (c_X2_aim Q) t) : Rn L xs (d + 1) 27 0 [some (.ref 51), some (.int x1)] [] 94 (I, J, xrf) Q := by
  unfold f_X2_aim_0 at h
  cases h
  exact Rn.ret 20 (o := (none, 94, ((xup ((xup I 51 7 ((((I 51 6) >>> ((8 * x1) &&& 31)) &&& 255)))) 51 8 (((((xup I 51 7 ((((I 51 6) >>> ((8 * x1) &&& 31)) &&& 255)))) 51 5) &&& ((((xup I 51 7 ((((I 51 6) >>> ((8 * x1) &&& 31)) &&& 255)))) 51 7) ^^^ (-1))))), J, xrf))) (fun f => rfl) hC
theorem p_X2_aim {L : Nat} {xs : Nat → Int32} {d : Nat} {Q : xO → Prop} (x1 : Int32) (I : xI) (J : xJ) {t : Unit × xI × xJ} (h : f_X2_aim x1 I J = some t) (hC : Q (none, 94, (t.2.1, t.2.2, xrf))) : Rn L xs (d + 1) 27 0 [some (.ref 51), some (.int x1)] [] 94 (I, J, xrf) Q := p_X2_aim_0 x1 I J h hC
/-! X2_least -/
def c_X2_least (Q : xO → Prop) (t : Int32 × xI × xJ) : Prop := Q ((some (.int t.1)), 94, (t.2.1, t.2.2, xrf))
def c_X2_least_8 (L : Nat) (xs : Nat → Int32) (d r : Nat) (Q : xO → Prop) (t : (Int32 × Int32 × Int32 × Int32 × Int32 × Int32 × (Option Value) × xI × xJ) ⊕ (Int32 × xI × xJ)) : Prop := match t with
  | .inl s => Rn L xs (d + r + 2) 28 71 [some (.ref 51), some (.int s.1), some (.int s.2.1), some (.int s.2.2.1), some (.int s.2.2.2.1), some (.int s.2.2.2.2.1), some (.int s.2.2.2.2.2.1), s.2.2.2.2.2.2.1] [] 94 (s.2.2.2.2.2.2.2.1, s.2.2.2.2.2.2.2.2, xrf) Q
  | .inr t => (c_X2_least Q) t
def f_X2_least_2 (self : Int32 → Int32 → xI → xJ → Option (Int32 × xI × xJ)) (x1 : Int32) (x2 : Int32) (I : xI) (J : xJ) : Option (Int32 × xI × xJ) := some (0, I, J)
def f_X2_least_16 (self : Int32 → Int32 → xI → xJ → Option (Int32 × xI × xJ)) (x1 : Int32) (x2 : Int32) (x3 : Int32) (x4 : Int32) (x5 : Int32) (x6 : Int32) (z7 : Option Value) (I : xI) (J : xJ) : Option (Int32 × xI × xJ) := some (x5, I, J)
def f_X2_least_15 (self : Int32 → Int32 → xI → xJ → Option (Int32 × xI × xJ)) (x1 : Int32) (x2 : Int32) (x3 : Int32) (x4 : Int32) (x5 : Int32) (x6 : Int32) (z7 : Option Value) (I : xI) (J : xJ) : Option (Int32 × xI × xJ) := if x3 < 0 ∨ 6561 ≤ x3.toNatClampNeg then none else f_X2_least_16 self x1 x2 x3 x4 x5 x6 z7 ((xup I 54 x3.toNatClampNeg ((Int8.toInt32 (Int32.toInt8 ((Int8.toInt32 (Int32.toInt8 ((x5 + 1)))))))))) J
def f_X2_least_14 (self : Int32 → Int32 → xI → xJ → Option (Int32 × xI × xJ)) (x1 : Int32) (x2 : Int32) (x3 : Int32) (x4 : Int32) (x5 : Int32) (x6 : Int32) (z7 : Option Value) (I : xI) (J : xJ) : Option (Int32 × xI × xJ) := if 6561 ≤ x3 then f_X2_least_16 self x1 x2 x3 x4 x5 x6 z7 I J else f_X2_least_15 self x1 x2 x3 x4 x5 x6 z7 I J
def f_X2_least_13 (self : Int32 → Int32 → xI → xJ → Option (Int32 × xI × xJ)) (x1 : Int32) (x2 : Int32) (x3 : Int32) (x4 : Int32) (x5 : Int32) (x6 : Int32) (x7 : Int32) (I : xI) (J : xJ) : Option ((Int32 × Int32 × Int32 × Int32 × Int32 × Int32 × (Option Value) × xI × xJ) ⊕ (Int32 × xI × xJ)) := some (.inl (x1, x2, x3, x4, x5, ((x6 + 1)), (some (.int x7)), I, J))
def f_X2_least_12 (self : Int32 → Int32 → xI → xJ → Option (Int32 × xI × xJ)) (x1 : Int32) (x2 : Int32) (x3 : Int32) (x4 : Int32) (x5 : Int32) (x6 : Int32) (x7 : Int32) (s0 : Int32) (s1 : Int32) (s2 : Int32) (I : xI) (J : xJ) : Option ((Int32 × Int32 × Int32 × Int32 × Int32 × Int32 × (Option Value) × xI × xJ) ⊕ (Int32 × xI × xJ)) := f_X2_least_13 self x1 x2 x3 x4 ((if (s1 + s2) < s0 then (s1 + s2) else s0)) x6 x7 I J
def f_X2_least_11 (self : Int32 → Int32 → xI → xJ → Option (Int32 × xI × xJ)) (x1 : Int32) (x2 : Int32) (x3 : Int32) (x4 : Int32) (x5 : Int32) (x6 : Int32) (x7 : Int32) (I : xI) (J : xJ) : Option ((Int32 × Int32 × Int32 × Int32 × Int32 × Int32 × (Option Value) × xI × xJ) ⊕ (Int32 × xI × xJ)) := (self ((x1 &&& (x7 ^^^ (-1)))) ((x2 + 1)) I J).bind fun o => f_X2_least_12 self x1 x2 x3 x4 x5 x6 x7 x5 1 o.1 o.2.1 o.2.2
def f_X2_least_10 (self : Int32 → Int32 → xI → xJ → Option (Int32 × xI × xJ)) (x1 : Int32) (x2 : Int32) (x3 : Int32) (x4 : Int32) (x5 : Int32) (x6 : Int32) (x7 : Int32) (I : xI) (J : xJ) : Option ((Int32 × Int32 × Int32 × Int32 × Int32 × Int32 × (Option Value) × xI × xJ) ⊕ (Int32 × xI × xJ)) := if (x7 &&& (I 51 8)) = 0 then f_X2_least_11 self x1 x2 x3 x4 x5 x6 x7 I J else f_X2_least_13 self x1 x2 x3 x4 x5 x6 x7 I J
def f_X2_least_9 (self : Int32 → Int32 → xI → xJ → Option (Int32 × xI × xJ)) (x1 : Int32) (x2 : Int32) (x3 : Int32) (x4 : Int32) (x5 : Int32) (x6 : Int32) (z7 : Option Value) (I : xI) (J : xJ) : Option ((Int32 × Int32 × Int32 × Int32 × Int32 × Int32 × (Option Value) × xI × xJ) ⊕ (Int32 × xI × xJ)) := if x6 < 0 ∨ 27 ≤ x6.toNatClampNeg then none else if (((I 52 x6.toNatClampNeg) >>> (x4 &&& 31)) &&& 1) = 1 then f_X2_least_10 self x1 x2 x3 x4 x5 x6 ((I 52 x6.toNatClampNeg)) I J else f_X2_least_13 self x1 x2 x3 x4 x5 x6 ((I 52 x6.toNatClampNeg)) I J
def b_X2_least_8 (self : Int32 → Int32 → xI → xJ → Option (Int32 × xI × xJ)) (x1 : Int32) (x2 : Int32) (x3 : Int32) (x4 : Int32) (x5 : Int32) (x6 : Int32) (z7 : Option Value) (I : xI) (J : xJ) : Option ((Int32 × Int32 × Int32 × Int32 × Int32 × Int32 × (Option Value) × xI × xJ) ⊕ (Int32 × xI × xJ)) := if 27 ≤ x6 then ((f_X2_least_14 self x1 x2 x3 x4 x5 x6 z7 I J)).map .inr else f_X2_least_9 self x1 x2 x3 x4 x5 x6 z7 I J
def f_X2_least_8 (self : Int32 → Int32 → xI → xJ → Option (Int32 × xI × xJ)) (x1 : Int32) (x2 : Int32) (x3 : Int32) (x4 : Int32) (x5 : Int32) (x6 : Int32) (z7 : Option Value) (I : xI) (J : xJ) : Option (Int32 × xI × xJ) := xloop (fun s : Int32 × Int32 × Int32 × Int32 × Int32 × Int32 × (Option Value) × xI × xJ => b_X2_least_8 self s.1 s.2.1 s.2.2.1 s.2.2.2.1 s.2.2.2.2.1 s.2.2.2.2.2.1 s.2.2.2.2.2.2.1 s.2.2.2.2.2.2.2.1 s.2.2.2.2.2.2.2.2) 5000 (x1, x2, x3, x4, x5, x6, z7, I, J)
def f_X2_least_7 (self : Int32 → Int32 → xI → xJ → Option (Int32 × xI × xJ)) (x1 : Int32) (x2 : Int32) (x3 : Int32) (s0 : Int32) (I : xI) (J : xJ) : Option (Int32 × xI × xJ) := f_X2_least_8 self x1 x2 x3 s0 8 0 none I J
def f_X2_least_6 (self : Int32 → Int32 → xI → xJ → Option (Int32 × xI × xJ)) (x1 : Int32) (x2 : Int32) (x3 : Int32) (I : xI) (J : xJ) : Option (Int32 × xI × xJ) := (f_J6_numberOfTrailingZeros_0f7a4 x1 I J).bind fun o => f_X2_least_7 self x1 x2 x3 o.1 o.2.1 o.2.2
def f_X2_least_5 (self : Int32 → Int32 → xI → xJ → Option (Int32 × xI × xJ)) (x1 : Int32) (x2 : Int32) (x3 : Int32) (I : xI) (J : xJ) : Option (Int32 × xI × xJ) := if x3 < 0 ∨ 6561 ≤ x3.toNatClampNeg then none else some (((I 54 x3.toNatClampNeg) - 1), I, J)
def f_X2_least_4 (self : Int32 → Int32 → xI → xJ → Option (Int32 × xI × xJ)) (x1 : Int32) (x2 : Int32) (x3 : Int32) (I : xI) (J : xJ) : Option (Int32 × xI × xJ) := if x3 < 0 ∨ 6561 ≤ x3.toNatClampNeg then none else if (I 54 x3.toNatClampNeg) = 0 then f_X2_least_6 self x1 x2 x3 I J else f_X2_least_5 self x1 x2 x3 I J
def f_X2_least_3 (self : Int32 → Int32 → xI → xJ → Option (Int32 × xI × xJ)) (x1 : Int32) (x2 : Int32) (I : xI) (J : xJ) : Option (Int32 × xI × xJ) := if x1 < 0 ∨ 256 ≤ x1.toNatClampNeg then none else if (I 51 8) < 0 ∨ 256 ≤ ((I 51 8)).toNatClampNeg then none else if 6561 ≤ ((I 53 x1.toNatClampNeg) + (2 * (I 53 ((I 51 8)).toNatClampNeg))) then f_X2_least_6 self x1 x2 (((I 53 x1.toNatClampNeg) + (2 * (I 53 ((I 51 8)).toNatClampNeg)))) I J else f_X2_least_4 self x1 x2 (((I 53 x1.toNatClampNeg) + (2 * (I 53 ((I 51 8)).toNatClampNeg)))) I J
def f_X2_least_1 (self : Int32 → Int32 → xI → xJ → Option (Int32 × xI × xJ)) (x1 : Int32) (x2 : Int32) (I : xI) (J : xJ) : Option (Int32 × xI × xJ) := if x2 < 8 then f_X2_least_3 self x1 x2 I J else f_X2_least_2 self x1 x2 I J
def f_X2_least_0 (self : Int32 → Int32 → xI → xJ → Option (Int32 × xI × xJ)) (x1 : Int32) (x2 : Int32) (I : xI) (J : xJ) : Option (Int32 × xI × xJ) := if x1 = 0 then f_X2_least_2 self x1 x2 I J else f_X2_least_1 self x1 x2 I J
def f_X2_least : Nat → Int32 → Int32 → xI → xJ → Option (Int32 × xI × xJ)
  | 0, _, _, _, _ => none
  | r + 1, x1, x2, I, J => f_X2_least_0 (f_X2_least r) x1 x2 I J
theorem p_X2_least_2 {L : Nat} {xs : Nat → Int32} {d r : Nat} {Q : xO → Prop} {self : Int32 → Int32 → xI → xJ → Option (Int32 × xI × xJ)} (hself : ∀ (a1 : Int32) (a2 : Int32) (I : xI) (J : xJ) (o : Int32 × xI × xJ), self a1 a2 I J = some o → ∀ Q : xO → Prop, Q ((some (.int o.1)), 94, (o.2.1, o.2.2, xrf)) → Rn L xs (d + r + 1) 28 0 [some (.ref 51), some (.int a1), some (.int a2), none, none, none, none, none] [] 94 (I, J, xrf) Q) (x1 : Int32) (x2 : Int32) (I : xI) (J : xJ) {t : Int32 × xI × xJ} (h : f_X2_least_2 self x1 x2 I J = some t) (hC : (c_X2_least Q) t) : Rn L xs (d + r + 2) 28 10 [some (.ref 51), some (.int x1), some (.int x2), none, none, none, none, none] [] 94 (I, J, xrf) Q := by
  unfold f_X2_least_2 at h
  cases h
  exact Rn.ret 2 (o := ((some (.int 0)), 94, (I, J, xrf))) (fun f => rfl) hC
theorem p_X2_least_16 {L : Nat} {xs : Nat → Int32} {d r : Nat} {Q : xO → Prop} {self : Int32 → Int32 → xI → xJ → Option (Int32 × xI × xJ)} (hself : ∀ (a1 : Int32) (a2 : Int32) (I : xI) (J : xJ) (o : Int32 × xI × xJ), self a1 a2 I J = some o → ∀ Q : xO → Prop, Q ((some (.int o.1)), 94, (o.2.1, o.2.2, xrf)) → Rn L xs (d + r + 1) 28 0 [some (.ref 51), some (.int a1), some (.int a2), none, none, none, none, none] [] 94 (I, J, xrf) Q) (x1 : Int32) (x2 : Int32) (x3 : Int32) (x4 : Int32) (x5 : Int32) (x6 : Int32) (z7 : Option Value) (I : xI) (J : xJ) {t : Int32 × xI × xJ} (h : f_X2_least_16 self x1 x2 x3 x4 x5 x6 z7 I J = some t) (hC : (c_X2_least Q) t) : Rn L xs (d + r + 2) 28 156 [some (.ref 51), some (.int x1), some (.int x2), some (.int x3), some (.int x4), some (.int x5), some (.int x6), z7] [] 94 (I, J, xrf) Q := by
  unfold f_X2_least_16 at h
  cases h
  exact Rn.ret 2 (o := ((some (.int x5)), 94, (I, J, xrf))) (fun f => rfl) hC
theorem p_X2_least_15 {L : Nat} {xs : Nat → Int32} {d r : Nat} {Q : xO → Prop} {self : Int32 → Int32 → xI → xJ → Option (Int32 × xI × xJ)} (hself : ∀ (a1 : Int32) (a2 : Int32) (I : xI) (J : xJ) (o : Int32 × xI × xJ), self a1 a2 I J = some o → ∀ Q : xO → Prop, Q ((some (.int o.1)), 94, (o.2.1, o.2.2, xrf)) → Rn L xs (d + r + 1) 28 0 [some (.ref 51), some (.int a1), some (.int a2), none, none, none, none, none] [] 94 (I, J, xrf) Q) (x1 : Int32) (x2 : Int32) (x3 : Int32) (x4 : Int32) (x5 : Int32) (x6 : Int32) (z7 : Option Value) (I : xI) (J : xJ) {t : Int32 × xI × xJ} (h : f_X2_least_15 self x1 x2 x3 x4 x5 x6 z7 I J = some t) (hC : (c_X2_least Q) t) : Rn L xs (d + r + 2) 28 145 [some (.ref 51), some (.int x1), some (.int x2), some (.int x3), some (.int x4), some (.int x5), some (.int x6), z7] [] 94 (I, J, xrf) Q := by
  unfold f_X2_least_15 at h
  obtain ⟨hc, h⟩ := xif h
  refine Rn.ok 8 (c := x3 < 0 ∨ 6561 ≤ x3.toNatClampNeg) (p1 := 156) (l1 := [some (.ref 51), some (.int x1), some (.int x2), some (.int x3), some (.int x4), some (.int x5), some (.int x6), z7]) (s1 := []) (n1 := 94) (M1 := ((xup I 54 x3.toNatClampNeg ((Int8.toInt32 (Int32.toInt8 ((Int8.toInt32 (Int32.toInt8 ((x5 + 1))))))))), J, xrf)) (fun f => rfl) hc ?_
  exact p_X2_least_16 hself x1 x2 x3 x4 x5 x6 z7 ((xup I 54 x3.toNatClampNeg ((Int8.toInt32 (Int32.toInt8 ((Int8.toInt32 (Int32.toInt8 ((x5 + 1)))))))))) J h hC
theorem p_X2_least_14 {L : Nat} {xs : Nat → Int32} {d r : Nat} {Q : xO → Prop} {self : Int32 → Int32 → xI → xJ → Option (Int32 × xI × xJ)} (hself : ∀ (a1 : Int32) (a2 : Int32) (I : xI) (J : xJ) (o : Int32 × xI × xJ), self a1 a2 I J = some o → ∀ Q : xO → Prop, Q ((some (.int o.1)), 94, (o.2.1, o.2.2, xrf)) → Rn L xs (d + r + 1) 28 0 [some (.ref 51), some (.int a1), some (.int a2), none, none, none, none, none] [] 94 (I, J, xrf) Q) (x1 : Int32) (x2 : Int32) (x3 : Int32) (x4 : Int32) (x5 : Int32) (x6 : Int32) (z7 : Option Value) (I : xI) (J : xJ) {t : Int32 × xI × xJ} (h : f_X2_least_14 self x1 x2 x3 x4 x5 x6 z7 I J = some t) (hC : (c_X2_least Q) t) : Rn L xs (d + r + 2) 28 136 [some (.ref 51), some (.int x1), some (.int x2), some (.int x3), some (.int x4), some (.int x5), some (.int x6), z7] [] 94 (I, J, xrf) Q := by
  unfold f_X2_least_14 at h
  refine Rn.fi 5 (c := 6561 ≤ x3) (p1 := 156) (l1 := [some (.ref 51), some (.int x1), some (.int x2), some (.int x3), some (.int x4), some (.int x5), some (.int x6), z7]) (s1 := []) (n1 := 94) (M1 := (I, J, xrf)) (p2 := 145) (l2 := [some (.ref 51), some (.int x1), some (.int x2), some (.int x3), some (.int x4), some (.int x5), some (.int x6), z7]) (s2 := []) (n2 := 94) (M2 := (I, J, xrf)) (fun f => rfl) (fun hc => ?_) (fun hc => ?_)
  · rw [if_pos hc] at h
    exact p_X2_least_16 hself x1 x2 x3 x4 x5 x6 z7 I J h hC
  · rw [if_neg hc] at h
    exact p_X2_least_15 hself x1 x2 x3 x4 x5 x6 z7 I J h hC
theorem p_X2_least_13 {L : Nat} {xs : Nat → Int32} {d r : Nat} {Q : xO → Prop} {self : Int32 → Int32 → xI → xJ → Option (Int32 × xI × xJ)} (hself : ∀ (a1 : Int32) (a2 : Int32) (I : xI) (J : xJ) (o : Int32 × xI × xJ), self a1 a2 I J = some o → ∀ Q : xO → Prop, Q ((some (.int o.1)), 94, (o.2.1, o.2.2, xrf)) → Rn L xs (d + r + 1) 28 0 [some (.ref 51), some (.int a1), some (.int a2), none, none, none, none, none] [] 94 (I, J, xrf) Q) (x1 : Int32) (x2 : Int32) (x3 : Int32) (x4 : Int32) (x5 : Int32) (x6 : Int32) (x7 : Int32) (I : xI) (J : xJ) {t : (Int32 × Int32 × Int32 × Int32 × Int32 × Int32 × (Option Value) × xI × xJ) ⊕ (Int32 × xI × xJ)} (h : f_X2_least_13 self x1 x2 x3 x4 x5 x6 x7 I J = some t) (hC : (c_X2_least_8 L xs d r Q) t) : Rn L xs (d + r + 2) 28 130 [some (.ref 51), some (.int x1), some (.int x2), some (.int x3), some (.int x4), some (.int x5), some (.int x6), some (.int x7)] [] 94 (I, J, xrf) Q := by
  unfold f_X2_least_13 at h
  refine Rn.go 2 (j' := 28) (pc' := 71) (ls' := [some (.ref 51), some (.int x1), some (.int x2), some (.int x3), some (.int x4), some (.int x5), some (.int ((x6 + 1))), some (.int x7)]) (st' := []) (n' := 94) (M' := (I, J, xrf)) (fun f => rfl) ?_
  cases h; exact hC
theorem p_X2_least_12 {L : Nat} {xs : Nat → Int32} {d r : Nat} {Q : xO → Prop} {self : Int32 → Int32 → xI → xJ → Option (Int32 × xI × xJ)} (hself : ∀ (a1 : Int32) (a2 : Int32) (I : xI) (J : xJ) (o : Int32 × xI × xJ), self a1 a2 I J = some o → ∀ Q : xO → Prop, Q ((some (.int o.1)), 94, (o.2.1, o.2.2, xrf)) → Rn L xs (d + r + 1) 28 0 [some (.ref 51), some (.int a1), some (.int a2), none, none, none, none, none] [] 94 (I, J, xrf) Q) (x1 : Int32) (x2 : Int32) (x3 : Int32) (x4 : Int32) (x5 : Int32) (x6 : Int32) (x7 : Int32) (s0 : Int32) (s1 : Int32) (s2 : Int32) (I : xI) (J : xJ) {t : (Int32 × Int32 × Int32 × Int32 × Int32 × Int32 × (Option Value) × xI × xJ) ⊕ (Int32 × xI × xJ)} (h : f_X2_least_12 self x1 x2 x3 x4 x5 x6 x7 s0 s1 s2 I J = some t) (hC : (c_X2_least_8 L xs d r Q) t) : Rn L xs (d + r + 2) 28 124 [some (.ref 51), some (.int x1), some (.int x2), some (.int x3), some (.int x4), some (.int x5), some (.int x6), some (.int x7)] [.int s2, .int s1, .int s0] 94 (I, J, xrf) Q := by
  unfold f_X2_least_12 at h
  refine Rn.go 3 (j' := 28) (pc' := 130) (ls' := [some (.ref 51), some (.int x1), some (.int x2), some (.int x3), some (.int x4), some (.int ((if (s1 + s2) < s0 then (s1 + s2) else s0))), some (.int x6), some (.int x7)]) (st' := []) (n' := 94) (M' := (I, J, xrf)) (fun f => rfl) ?_
  exact p_X2_least_13 hself x1 x2 x3 x4 ((if (s1 + s2) < s0 then (s1 + s2) else s0)) x6 x7 I J h hC
theorem p_X2_least_11 {L : Nat} {xs : Nat → Int32} {d r : Nat} {Q : xO → Prop} {self : Int32 → Int32 → xI → xJ → Option (Int32 × xI × xJ)} (hself : ∀ (a1 : Int32) (a2 : Int32) (I : xI) (J : xJ) (o : Int32 × xI × xJ), self a1 a2 I J = some o → ∀ Q : xO → Prop, Q ((some (.int o.1)), 94, (o.2.1, o.2.2, xrf)) → Rn L xs (d + r + 1) 28 0 [some (.ref 51), some (.int a1), some (.int a2), none, none, none, none, none] [] 94 (I, J, xrf) Q) (x1 : Int32) (x2 : Int32) (x3 : Int32) (x4 : Int32) (x5 : Int32) (x6 : Int32) (x7 : Int32) (I : xI) (J : xJ) {t : (Int32 × Int32 × Int32 × Int32 × Int32 × Int32 × (Option Value) × xI × xJ) ⊕ (Int32 × xI × xJ)} (h : f_X2_least_11 self x1 x2 x3 x4 x5 x6 x7 I J = some t) (hC : (c_X2_least_8 L xs d r Q) t) : Rn L xs (d + r + 2) 28 108 [some (.ref 51), some (.int x1), some (.int x2), some (.int x3), some (.int x4), some (.int x5), some (.int x6), some (.int x7)] [] 94 (I, J, xrf) Q := by
  unfold f_X2_least_11 at h
  refine Rn.go 11 (j' := 28) (pc' := 121) (ls' := [some (.ref 51), some (.int x1), some (.int x2), some (.int x3), some (.int x4), some (.int x5), some (.int x6), some (.int x7)]) (st' := [.int ((x2 + 1)), .int ((x1 &&& (x7 ^^^ (-1)))), .ref 51, .int 1, .int x5]) (n' := 94) (M' := (I, J, xrf)) (fun f => rfl) ?_
  obtain ⟨o, ho, h⟩ := Option.bind_eq_some_iff.mp h
  refine Rn.call (d1 := d + r + 1) (j1 := 28) (ls1 := [some (.ref 51), some (.int ((x1 &&& (x7 ^^^ (-1))))), some (.int ((x2 + 1))), none, none, none, none, none]) (rest := [.int 1, .int x5]) (fun f => rfl) ?_
  refine hself ((x1 &&& (x7 ^^^ (-1)))) ((x2 + 1)) (I) (J) o ho _ ?_
  exact p_X2_least_12 hself x1 x2 x3 x4 x5 x6 x7 x5 1 o.1 o.2.1 o.2.2 h hC
theorem p_X2_least_10 {L : Nat} {xs : Nat → Int32} {d r : Nat} {Q : xO → Prop} {self : Int32 → Int32 → xI → xJ → Option (Int32 × xI × xJ)} (hself : ∀ (a1 : Int32) (a2 : Int32) (I : xI) (J : xJ) (o : Int32 × xI × xJ), self a1 a2 I J = some o → ∀ Q : xO → Prop, Q ((some (.int o.1)), 94, (o.2.1, o.2.2, xrf)) → Rn L xs (d + r + 1) 28 0 [some (.ref 51), some (.int a1), some (.int a2), none, none, none, none, none] [] 94 (I, J, xrf) Q) (x1 : Int32) (x2 : Int32) (x3 : Int32) (x4 : Int32) (x5 : Int32) (x6 : Int32) (x7 : Int32) (I : xI) (J : xJ) {t : (Int32 × Int32 × Int32 × Int32 × Int32 × Int32 × (Option Value) × xI × xJ) ⊕ (Int32 × xI × xJ)} (h : f_X2_least_10 self x1 x2 x3 x4 x5 x6 x7 I J = some t) (hC : (c_X2_least_8 L xs d r Q) t) : Rn L xs (d + r + 2) 28 98 [some (.ref 51), some (.int x1), some (.int x2), some (.int x3), some (.int x4), some (.int x5), some (.int x6), some (.int x7)] [] 94 (I, J, xrf) Q := by
  unfold f_X2_least_10 at h
  refine Rn.fi 5 (c := (x7 &&& (I 51 8)) = 0) (p1 := 108) (l1 := [some (.ref 51), some (.int x1), some (.int x2), some (.int x3), some (.int x4), some (.int x5), some (.int x6), some (.int x7)]) (s1 := []) (n1 := 94) (M1 := (I, J, xrf)) (p2 := 130) (l2 := [some (.ref 51), some (.int x1), some (.int x2), some (.int x3), some (.int x4), some (.int x5), some (.int x6), some (.int x7)]) (s2 := []) (n2 := 94) (M2 := (I, J, xrf)) (fun f => rfl) (fun hc => ?_) (fun hc => ?_)
  · rw [if_pos hc] at h
    exact p_X2_least_11 hself x1 x2 x3 x4 x5 x6 x7 I J h hC
  · rw [if_neg hc] at h
    exact p_X2_least_13 hself x1 x2 x3 x4 x5 x6 x7 I J h hC
theorem p_X2_least_9 {L : Nat} {xs : Nat → Int32} {d r : Nat} {Q : xO → Prop} {self : Int32 → Int32 → xI → xJ → Option (Int32 × xI × xJ)} (hself : ∀ (a1 : Int32) (a2 : Int32) (I : xI) (J : xJ) (o : Int32 × xI × xJ), self a1 a2 I J = some o → ∀ Q : xO → Prop, Q ((some (.int o.1)), 94, (o.2.1, o.2.2, xrf)) → Rn L xs (d + r + 1) 28 0 [some (.ref 51), some (.int a1), some (.int a2), none, none, none, none, none] [] 94 (I, J, xrf) Q) (x1 : Int32) (x2 : Int32) (x3 : Int32) (x4 : Int32) (x5 : Int32) (x6 : Int32) (z7 : Option Value) (I : xI) (J : xJ) {t : (Int32 × Int32 × Int32 × Int32 × Int32 × Int32 × (Option Value) × xI × xJ) ⊕ (Int32 × xI × xJ)} (h : f_X2_least_9 self x1 x2 x3 x4 x5 x6 z7 I J = some t) (hC : (c_X2_least_8 L xs d r Q) t) : Rn L xs (d + r + 2) 28 78 [some (.ref 51), some (.int x1), some (.int x2), some (.int x3), some (.int x4), some (.int x5), some (.int x6), z7] [] 94 (I, J, xrf) Q := by
  unfold f_X2_least_9 at h
  obtain ⟨hc, h⟩ := xif h
  refine Rn.ok 4 (c := x6 < 0 ∨ 27 ≤ x6.toNatClampNeg) (p1 := 85) (l1 := [some (.ref 51), some (.int x1), some (.int x2), some (.int x3), some (.int x4), some (.int x5), some (.int x6), z7]) (s1 := [.int ((I 52 x6.toNatClampNeg))]) (n1 := 94) (M1 := (I, J, xrf)) (fun f => rfl) hc ?_
  refine Rn.fi 8 (c := (((I 52 x6.toNatClampNeg) >>> (x4 &&& 31)) &&& 1) = 1) (p1 := 98) (l1 := [some (.ref 51), some (.int x1), some (.int x2), some (.int x3), some (.int x4), some (.int x5), some (.int x6), some (.int ((I 52 x6.toNatClampNeg)))]) (s1 := []) (n1 := 94) (M1 := (I, J, xrf)) (p2 := 130) (l2 := [some (.ref 51), some (.int x1), some (.int x2), some (.int x3), some (.int x4), some (.int x5), some (.int x6), some (.int ((I 52 x6.toNatClampNeg)))]) (s2 := []) (n2 := 94) (M2 := (I, J, xrf)) (fun f => rfl) (fun hc => ?_) (fun hc => ?_)
  · rw [if_pos hc] at h
    exact p_X2_least_10 hself x1 x2 x3 x4 x5 x6 ((I 52 x6.toNatClampNeg)) I J h hC
  · rw [if_neg hc] at h
    exact p_X2_least_13 hself x1 x2 x3 x4 x5 x6 ((I 52 x6.toNatClampNeg)) I J h hC
theorem q_X2_least_8 {L : Nat} {xs : Nat → Int32} {d r : Nat} {Q : xO → Prop} {self : Int32 → Int32 → xI → xJ → Option (Int32 × xI × xJ)} (hself : ∀ (a1 : Int32) (a2 : Int32) (I : xI) (J : xJ) (o : Int32 × xI × xJ), self a1 a2 I J = some o → ∀ Q : xO → Prop, Q ((some (.int o.1)), 94, (o.2.1, o.2.2, xrf)) → Rn L xs (d + r + 1) 28 0 [some (.ref 51), some (.int a1), some (.int a2), none, none, none, none, none] [] 94 (I, J, xrf) Q) (x1 : Int32) (x2 : Int32) (x3 : Int32) (x4 : Int32) (x5 : Int32) (x6 : Int32) (z7 : Option Value) (I : xI) (J : xJ) {t : (Int32 × Int32 × Int32 × Int32 × Int32 × Int32 × (Option Value) × xI × xJ) ⊕ (Int32 × xI × xJ)} (h : b_X2_least_8 self x1 x2 x3 x4 x5 x6 z7 I J = some t) (hC : (c_X2_least_8 L xs d r Q) t) : Rn L xs (d + r + 2) 28 71 [some (.ref 51), some (.int x1), some (.int x2), some (.int x3), some (.int x4), some (.int x5), some (.int x6), z7] [] 94 (I, J, xrf) Q := by
  unfold b_X2_least_8 at h
  refine Rn.fi 3 (c := 27 ≤ x6) (p1 := 136) (l1 := [some (.ref 51), some (.int x1), some (.int x2), some (.int x3), some (.int x4), some (.int x5), some (.int x6), z7]) (s1 := []) (n1 := 94) (M1 := (I, J, xrf)) (p2 := 78) (l2 := [some (.ref 51), some (.int x1), some (.int x2), some (.int x3), some (.int x4), some (.int x5), some (.int x6), z7]) (s2 := []) (n2 := 94) (M2 := (I, J, xrf)) (fun f => rfl) (fun hc => ?_) (fun hc => ?_)
  · rw [if_pos hc] at h
    obtain ⟨t0, h0, rfl⟩ := Option.map_eq_some_iff.mp h
    exact p_X2_least_14 hself x1 x2 x3 x4 x5 x6 z7 I J h0 hC
  · rw [if_neg hc] at h
    exact p_X2_least_9 hself x1 x2 x3 x4 x5 x6 z7 I J h hC
theorem p_X2_least_8 {L : Nat} {xs : Nat → Int32} {d r : Nat} {Q : xO → Prop} {self : Int32 → Int32 → xI → xJ → Option (Int32 × xI × xJ)} (hself : ∀ (a1 : Int32) (a2 : Int32) (I : xI) (J : xJ) (o : Int32 × xI × xJ), self a1 a2 I J = some o → ∀ Q : xO → Prop, Q ((some (.int o.1)), 94, (o.2.1, o.2.2, xrf)) → Rn L xs (d + r + 1) 28 0 [some (.ref 51), some (.int a1), some (.int a2), none, none, none, none, none] [] 94 (I, J, xrf) Q) (x1 : Int32) (x2 : Int32) (x3 : Int32) (x4 : Int32) (x5 : Int32) (x6 : Int32) (z7 : Option Value) (I : xI) (J : xJ) {t : Int32 × xI × xJ} (h : f_X2_least_8 self x1 x2 x3 x4 x5 x6 z7 I J = some t) (hC : (c_X2_least Q) t) : Rn L xs (d + r + 2) 28 71 [some (.ref 51), some (.int x1), some (.int x2), some (.int x3), some (.int x4), some (.int x5), some (.int x6), z7] [] 94 (I, J, xrf) Q := by
  unfold f_X2_least_8 at h
  exact xloop_some (P := fun s : Int32 × Int32 × Int32 × Int32 × Int32 × Int32 × (Option Value) × xI × xJ => Rn L xs (d + r + 2) 28 71 [some (.ref 51), some (.int s.1), some (.int s.2.1), some (.int s.2.2.1), some (.int s.2.2.2.1), some (.int s.2.2.2.2.1), some (.int s.2.2.2.2.2.1), s.2.2.2.2.2.2.1] [] 94 (s.2.2.2.2.2.2.2.1, s.2.2.2.2.2.2.2.2, xrf) Q) t (fun s ⟨s', hb, hp⟩ => q_X2_least_8 hself s.1 s.2.1 s.2.2.1 s.2.2.2.1 s.2.2.2.2.1 s.2.2.2.2.2.1 s.2.2.2.2.2.2.1 s.2.2.2.2.2.2.2.1 s.2.2.2.2.2.2.2.2 hb hp) (fun s hb => q_X2_least_8 hself s.1 s.2.1 s.2.2.1 s.2.2.2.1 s.2.2.2.2.1 s.2.2.2.2.2.1 s.2.2.2.2.2.2.1 s.2.2.2.2.2.2.2.1 s.2.2.2.2.2.2.2.2 hb hC) _ _ h
theorem p_X2_least_7 {L : Nat} {xs : Nat → Int32} {d r : Nat} {Q : xO → Prop} {self : Int32 → Int32 → xI → xJ → Option (Int32 × xI × xJ)} (hself : ∀ (a1 : Int32) (a2 : Int32) (I : xI) (J : xJ) (o : Int32 × xI × xJ), self a1 a2 I J = some o → ∀ Q : xO → Prop, Q ((some (.int o.1)), 94, (o.2.1, o.2.2, xrf)) → Rn L xs (d + r + 1) 28 0 [some (.ref 51), some (.int a1), some (.int a2), none, none, none, none, none] [] 94 (I, J, xrf) Q) (x1 : Int32) (x2 : Int32) (x3 : Int32) (s0 : Int32) (I : xI) (J : xJ) {t : Int32 × xI × xJ} (h : f_X2_least_7 self x1 x2 x3 s0 I J = some t) (hC : (c_X2_least Q) t) : Rn L xs (d + r + 2) 28 62 [some (.ref 51), some (.int x1), some (.int x2), some (.int x3), none, none, none, none] [.int s0] 94 (I, J, xrf) Q := by
  unfold f_X2_least_7 at h
  refine Rn.go 5 (j' := 28) (pc' := 71) (ls' := [some (.ref 51), some (.int x1), some (.int x2), some (.int x3), some (.int s0), some (.int 8), some (.int 0), none]) (st' := []) (n' := 94) (M' := (I, J, xrf)) (fun f => rfl) ?_
  exact p_X2_least_8 hself x1 x2 x3 s0 8 0 none I J h hC
theorem p_X2_least_6 {L : Nat} {xs : Nat → Int32} {d r : Nat} {Q : xO → Prop} {self : Int32 → Int32 → xI → xJ → Option (Int32 × xI × xJ)} (hself : ∀ (a1 : Int32) (a2 : Int32) (I : xI) (J : xJ) (o : Int32 × xI × xJ), self a1 a2 I J = some o → ∀ Q : xO → Prop, Q ((some (.int o.1)), 94, (o.2.1, o.2.2, xrf)) → Rn L xs (d + r + 1) 28 0 [some (.ref 51), some (.int a1), some (.int a2), none, none, none, none, none] [] 94 (I, J, xrf) Q) (x1 : Int32) (x2 : Int32) (x3 : Int32) (I : xI) (J : xJ) {t : Int32 × xI × xJ} (h : f_X2_least_6 self x1 x2 x3 I J = some t) (hC : (c_X2_least Q) t) : Rn L xs (d + r + 2) 28 58 [some (.ref 51), some (.int x1), some (.int x2), some (.int x3), none, none, none, none] [] 94 (I, J, xrf) Q := by
  unfold f_X2_least_6 at h
  refine Rn.go 1 (j' := 28) (pc' := 59) (ls' := [some (.ref 51), some (.int x1), some (.int x2), some (.int x3), none, none, none, none]) (st' := [.int x1]) (n' := 94) (M' := (I, J, xrf)) (fun f => rfl) ?_
  obtain ⟨o, ho, h⟩ := Option.bind_eq_some_iff.mp h
  refine Rn.call (d1 := d + r + 1) (j1 := 298) (ls1 := [some (.int x1), none]) (rest := []) (fun f => rfl) ?_
  refine p_J6_numberOfTrailingZeros_0f7a4 (d := d + r + 0) x1 I J (t := o) ho ?_
  exact p_X2_least_7 hself x1 x2 x3 o.1 o.2.1 o.2.2 h hC
theorem p_X2_least_5 {L : Nat} {xs : Nat → Int32} {d r : Nat} {Q : xO → Prop} {self : Int32 → Int32 → xI → xJ → Option (Int32 × xI × xJ)} (hself : ∀ (a1 : Int32) (a2 : Int32) (I : xI) (J : xJ) (o : Int32 × xI × xJ), self a1 a2 I J = some o → ∀ Q : xO → Prop, Q ((some (.int o.1)), 94, (o.2.1, o.2.2, xrf)) → Rn L xs (d + r + 1) 28 0 [some (.ref 51), some (.int a1), some (.int a2), none, none, none, none, none] [] 94 (I, J, xrf) Q) (x1 : Int32) (x2 : Int32) (x3 : Int32) (I : xI) (J : xJ) {t : Int32 × xI × xJ} (h : f_X2_least_5 self x1 x2 x3 I J = some t) (hC : (c_X2_least Q) t) : Rn L xs (d + r + 2) 28 49 [some (.ref 51), some (.int x1), some (.int x2), some (.int x3), none, none, none, none] [] 94 (I, J, xrf) Q := by
  unfold f_X2_least_5 at h
  obtain ⟨hc, h⟩ := xif h
  refine Rn.ok 4 (c := x3 < 0 ∨ 6561 ≤ x3.toNatClampNeg) (p1 := 55) (l1 := [some (.ref 51), some (.int x1), some (.int x2), some (.int x3), none, none, none, none]) (s1 := [.int ((I 54 x3.toNatClampNeg))]) (n1 := 94) (M1 := (I, J, xrf)) (fun f => rfl) hc ?_
  cases h
  exact Rn.ret 3 (o := ((some (.int (((I 54 x3.toNatClampNeg) - 1)))), 94, (I, J, xrf))) (fun f => rfl) hC
theorem p_X2_least_4 {L : Nat} {xs : Nat → Int32} {d r : Nat} {Q : xO → Prop} {self : Int32 → Int32 → xI → xJ → Option (Int32 × xI × xJ)} (hself : ∀ (a1 : Int32) (a2 : Int32) (I : xI) (J : xJ) (o : Int32 × xI × xJ), self a1 a2 I J = some o → ∀ Q : xO → Prop, Q ((some (.int o.1)), 94, (o.2.1, o.2.2, xrf)) → Rn L xs (d + r + 1) 28 0 [some (.ref 51), some (.int a1), some (.int a2), none, none, none, none, none] [] 94 (I, J, xrf) Q) (x1 : Int32) (x2 : Int32) (x3 : Int32) (I : xI) (J : xJ) {t : Int32 × xI × xJ} (h : f_X2_least_4 self x1 x2 x3 I J = some t) (hC : (c_X2_least Q) t) : Rn L xs (d + r + 2) 28 40 [some (.ref 51), some (.int x1), some (.int x2), some (.int x3), none, none, none, none] [] 94 (I, J, xrf) Q := by
  unfold f_X2_least_4 at h
  obtain ⟨hc, h⟩ := xif h
  refine Rn.ok 4 (c := x3 < 0 ∨ 6561 ≤ x3.toNatClampNeg) (p1 := 46) (l1 := [some (.ref 51), some (.int x1), some (.int x2), some (.int x3), none, none, none, none]) (s1 := [.int ((I 54 x3.toNatClampNeg))]) (n1 := 94) (M1 := (I, J, xrf)) (fun f => rfl) hc ?_
  refine Rn.fi 1 (c := (I 54 x3.toNatClampNeg) = 0) (p1 := 58) (l1 := [some (.ref 51), some (.int x1), some (.int x2), some (.int x3), none, none, none, none]) (s1 := []) (n1 := 94) (M1 := (I, J, xrf)) (p2 := 49) (l2 := [some (.ref 51), some (.int x1), some (.int x2), some (.int x3), none, none, none, none]) (s2 := []) (n2 := 94) (M2 := (I, J, xrf)) (fun f => rfl) (fun hc => ?_) (fun hc => ?_)
  · rw [if_pos hc] at h
    exact p_X2_least_6 hself x1 x2 x3 I J h hC
  · rw [if_neg hc] at h
    exact p_X2_least_5 hself x1 x2 x3 I J h hC
theorem p_X2_least_3 {L : Nat} {xs : Nat → Int32} {d r : Nat} {Q : xO → Prop} {self : Int32 → Int32 → xI → xJ → Option (Int32 × xI × xJ)} (hself : ∀ (a1 : Int32) (a2 : Int32) (I : xI) (J : xJ) (o : Int32 × xI × xJ), self a1 a2 I J = some o → ∀ Q : xO → Prop, Q ((some (.int o.1)), 94, (o.2.1, o.2.2, xrf)) → Rn L xs (d + r + 1) 28 0 [some (.ref 51), some (.int a1), some (.int a2), none, none, none, none, none] [] 94 (I, J, xrf) Q) (x1 : Int32) (x2 : Int32) (I : xI) (J : xJ) {t : Int32 × xI × xJ} (h : f_X2_least_3 self x1 x2 I J = some t) (hC : (c_X2_least Q) t) : Rn L xs (d + r + 2) 28 12 [some (.ref 51), some (.int x1), some (.int x2), none, none, none, none, none] [] 94 (I, J, xrf) Q := by
  unfold f_X2_least_3 at h
  obtain ⟨hc, h⟩ := xif h
  refine Rn.ok 4 (c := x1 < 0 ∨ 256 ≤ x1.toNatClampNeg) (p1 := 18) (l1 := [some (.ref 51), some (.int x1), some (.int x2), none, none, none, none, none]) (s1 := [.int ((I 53 x1.toNatClampNeg))]) (n1 := 94) (M1 := (I, J, xrf)) (fun f => rfl) hc ?_
  obtain ⟨hc, h⟩ := xif h
  refine Rn.ok 6 (c := (I 51 8) < 0 ∨ 256 ≤ ((I 51 8)).toNatClampNeg) (p1 := 28) (l1 := [some (.ref 51), some (.int x1), some (.int x2), none, none, none, none, none]) (s1 := [.int ((I 53 ((I 51 8)).toNatClampNeg)), .int 2, .int ((I 53 x1.toNatClampNeg))]) (n1 := 94) (M1 := (I, J, xrf)) (fun f => rfl) hc ?_
  refine Rn.fi 8 (c := 6561 ≤ ((I 53 x1.toNatClampNeg) + (2 * (I 53 ((I 51 8)).toNatClampNeg)))) (p1 := 58) (l1 := [some (.ref 51), some (.int x1), some (.int x2), some (.int (((I 53 x1.toNatClampNeg) + (2 * (I 53 ((I 51 8)).toNatClampNeg))))), none, none, none, none]) (s1 := []) (n1 := 94) (M1 := (I, J, xrf)) (p2 := 40) (l2 := [some (.ref 51), some (.int x1), some (.int x2), some (.int (((I 53 x1.toNatClampNeg) + (2 * (I 53 ((I 51 8)).toNatClampNeg))))), none, none, none, none]) (s2 := []) (n2 := 94) (M2 := (I, J, xrf)) (fun f => rfl) (fun hc => ?_) (fun hc => ?_)
  · rw [if_pos hc] at h
    exact p_X2_least_6 hself x1 x2 (((I 53 x1.toNatClampNeg) + (2 * (I 53 ((I 51 8)).toNatClampNeg)))) I J h hC
  · rw [if_neg hc] at h
    exact p_X2_least_4 hself x1 x2 (((I 53 x1.toNatClampNeg) + (2 * (I 53 ((I 51 8)).toNatClampNeg)))) I J h hC
theorem p_X2_least_1 {L : Nat} {xs : Nat → Int32} {d r : Nat} {Q : xO → Prop} {self : Int32 → Int32 → xI → xJ → Option (Int32 × xI × xJ)} (hself : ∀ (a1 : Int32) (a2 : Int32) (I : xI) (J : xJ) (o : Int32 × xI × xJ), self a1 a2 I J = some o → ∀ Q : xO → Prop, Q ((some (.int o.1)), 94, (o.2.1, o.2.2, xrf)) → Rn L xs (d + r + 1) 28 0 [some (.ref 51), some (.int a1), some (.int a2), none, none, none, none, none] [] 94 (I, J, xrf) Q) (x1 : Int32) (x2 : Int32) (I : xI) (J : xJ) {t : Int32 × xI × xJ} (h : f_X2_least_1 self x1 x2 I J = some t) (hC : (c_X2_least Q) t) : Rn L xs (d + r + 2) 28 4 [some (.ref 51), some (.int x1), some (.int x2), none, none, none, none, none] [] 94 (I, J, xrf) Q := by
  unfold f_X2_least_1 at h
  refine Rn.fi 3 (c := x2 < 8) (p1 := 12) (l1 := [some (.ref 51), some (.int x1), some (.int x2), none, none, none, none, none]) (s1 := []) (n1 := 94) (M1 := (I, J, xrf)) (p2 := 10) (l2 := [some (.ref 51), some (.int x1), some (.int x2), none, none, none, none, none]) (s2 := []) (n2 := 94) (M2 := (I, J, xrf)) (fun f => rfl) (fun hc => ?_) (fun hc => ?_)
  · rw [if_pos hc] at h
    exact p_X2_least_3 hself x1 x2 I J h hC
  · rw [if_neg hc] at h
    exact p_X2_least_2 hself x1 x2 I J h hC
theorem p_X2_least_0 {L : Nat} {xs : Nat → Int32} {d r : Nat} {Q : xO → Prop} {self : Int32 → Int32 → xI → xJ → Option (Int32 × xI × xJ)} (hself : ∀ (a1 : Int32) (a2 : Int32) (I : xI) (J : xJ) (o : Int32 × xI × xJ), self a1 a2 I J = some o → ∀ Q : xO → Prop, Q ((some (.int o.1)), 94, (o.2.1, o.2.2, xrf)) → Rn L xs (d + r + 1) 28 0 [some (.ref 51), some (.int a1), some (.int a2), none, none, none, none, none] [] 94 (I, J, xrf) Q) (x1 : Int32) (x2 : Int32) (I : xI) (J : xJ) {t : Int32 × xI × xJ} (h : f_X2_least_0 self x1 x2 I J = some t) (hC : (c_X2_least Q) t) : Rn L xs (d + r + 2) 28 0 [some (.ref 51), some (.int x1), some (.int x2), none, none, none, none, none] [] 94 (I, J, xrf) Q := by
  unfold f_X2_least_0 at h
  refine Rn.fi 2 (c := x1 = 0) (p1 := 10) (l1 := [some (.ref 51), some (.int x1), some (.int x2), none, none, none, none, none]) (s1 := []) (n1 := 94) (M1 := (I, J, xrf)) (p2 := 4) (l2 := [some (.ref 51), some (.int x1), some (.int x2), none, none, none, none, none]) (s2 := []) (n2 := 94) (M2 := (I, J, xrf)) (fun f => rfl) (fun hc => ?_) (fun hc => ?_)
  · rw [if_pos hc] at h
    exact p_X2_least_2 hself x1 x2 I J h hC
  · rw [if_neg hc] at h
    exact p_X2_least_1 hself x1 x2 I J h hC
theorem p_X2_least {L : Nat} {xs : Nat → Int32} {d : Nat} {Q : xO → Prop} (r : Nat) (x1 : Int32) (x2 : Int32) (I : xI) (J : xJ) {t : Int32 × xI × xJ} (h : f_X2_least r x1 x2 I J = some t) (hC : Q ((some (.int t.1)), 94, (t.2.1, t.2.2, xrf))) : Rn L xs (d + r + 2) 28 0 [some (.ref 51), some (.int x1), some (.int x2), none, none, none, none, none] [] 94 (I, J, xrf) Q := by
  induction r generalizing Q t x1 x2 I J with
  | zero => exact absurd h (by simp [f_X2_least])
  | succ r ih =>
    have q := p_X2_least_0 (L := L) (xs := xs) (Q := Q) (d := d + 1) (r := r) (self := f_X2_least r) (fun a1 a2 I J o ho Q hQ => by have := ih a1 a2 I J ho hQ; rw [show d + 1 + r + 1 = d + r + 2 by omega]; exact this) x1 x2 I J h hC
    rw [show d + 1 + r + 2 = d + (r + 1) + 2 by omega] at q
    exact q
/-! X2_choose -/
def c_X2_choose (Q : xO → Prop) (t : Int32 × xI × xJ) : Prop := Q ((some (.int t.1)), 94, (t.2.1, t.2.2, xrf))
def c_X2_choose_6 (L : Nat) (xs : Nat → Int32) (d r : Nat) (Q : xO → Prop) (t : (Int32 × Int32 × Int32 × Int32 × Int32 × (Option Value) × xI × xJ) ⊕ (Int32 × xI × xJ)) : Prop := match t with
  | .inl s => Rn L xs (d + r + 15) 30 19 [some (.ref 51), some (.int s.1), some (.int s.2.1), some (.int s.2.2.1), some (.int s.2.2.2.1), some (.int s.2.2.2.2.1), s.2.2.2.2.2.1] [] 94 (s.2.2.2.2.2.2.1, s.2.2.2.2.2.2.2, xrf) Q
  | .inr t => (c_X2_choose Q) t
def f_X2_choose_15 (self : Int32 → Int32 → Int32 → Int32 → xI → xJ → Option (Int32 × xI × xJ)) (x1 : Int32) (x2 : Int32) (x3 : Int32) (x4 : Int32) (x5 : Int32) (z6 : Option Value) (I : xI) (J : xJ) : Option (Int32 × xI × xJ) := some (0, I, J)
def f_X2_choose_14 (self : Int32 → Int32 → Int32 → Int32 → xI → xJ → Option (Int32 × xI × xJ)) (x1 : Int32) (x2 : Int32) (x3 : Int32) (x4 : Int32) (x5 : Int32) (x6 : Int32) (I : xI) (J : xJ) : Option ((Int32 × Int32 × Int32 × Int32 × Int32 × (Option Value) × xI × xJ) ⊕ (Int32 × xI × xJ)) := some (.inl (x1, x2, x3, x4, ((x5 + 1)), (some (.int x6)), I, J))
def f_X2_choose_13 (self : Int32 → Int32 → Int32 → Int32 → xI → xJ → Option (Int32 × xI × xJ)) (x1 : Int32) (x2 : Int32) (x3 : Int32) (x4 : Int32) (x5 : Int32) (x6 : Int32) (I : xI) (J : xJ) : Option (Int32 × xI × xJ) := some (1, I, J)
def f_X2_choose_12 (self : Int32 → Int32 → Int32 → Int32 → xI → xJ → Option (Int32 × xI × xJ)) (x1 : Int32) (x2 : Int32) (x3 : Int32) (x4 : Int32) (x5 : Int32) (x6 : Int32) (s0 : Int32) (I : xI) (J : xJ) : Option ((Int32 × Int32 × Int32 × Int32 × Int32 × (Option Value) × xI × xJ) ⊕ (Int32 × xI × xJ)) := if s0 = 0 then f_X2_choose_14 self x1 x2 x3 x4 x5 x6 I J else ((f_X2_choose_13 self x1 x2 x3 x4 x5 x6 I J)).map .inr
def f_X2_choose_11 (self : Int32 → Int32 → Int32 → Int32 → xI → xJ → Option (Int32 × xI × xJ)) (x1 : Int32) (x2 : Int32) (x3 : Int32) (x4 : Int32) (x5 : Int32) (x6 : Int32) (I : xI) (J : xJ) : Option ((Int32 × Int32 × Int32 × Int32 × Int32 × (Option Value) × xI × xJ) ⊕ (Int32 × xI × xJ)) := if x2 < 0 ∨ 8 ≤ x2.toNatClampNeg then none else (self ((x5 + 1)) ((x2 + 1)) x3 ((x4 &&& (x6 ^^^ (-1)))) ((xup I 55 x2.toNatClampNeg x5)) J).bind fun o => f_X2_choose_12 self x1 x2 x3 x4 x5 x6 o.1 o.2.1 o.2.2
def f_X2_choose_10 (self : Int32 → Int32 → Int32 → Int32 → xI → xJ → Option (Int32 × xI × xJ)) (x1 : Int32) (x2 : Int32) (x3 : Int32) (x4 : Int32) (x5 : Int32) (x6 : Int32) (s0 : Int32) (I : xI) (J : xJ) : Option ((Int32 × Int32 × Int32 × Int32 × Int32 × (Option Value) × xI × xJ) ⊕ (Int32 × xI × xJ)) := if (x3 - x2) ≤ s0 then f_X2_choose_14 self x1 x2 x3 x4 x5 x6 I J else f_X2_choose_11 self x1 x2 x3 x4 x5 x6 I J
def f_X2_choose_9 (self : Int32 → Int32 → Int32 → Int32 → xI → xJ → Option (Int32 × xI × xJ)) (x1 : Int32) (x2 : Int32) (x3 : Int32) (x4 : Int32) (x5 : Int32) (x6 : Int32) (I : xI) (J : xJ) : Option ((Int32 × Int32 × Int32 × Int32 × Int32 × (Option Value) × xI × xJ) ⊕ (Int32 × xI × xJ)) := (f_X2_least 12 ((x4 &&& (x6 ^^^ (-1)))) 0 I J).bind fun o => f_X2_choose_10 self x1 x2 x3 x4 x5 x6 o.1 o.2.1 o.2.2
def f_X2_choose_8 (self : Int32 → Int32 → Int32 → Int32 → xI → xJ → Option (Int32 × xI × xJ)) (x1 : Int32) (x2 : Int32) (x3 : Int32) (x4 : Int32) (x5 : Int32) (z6 : Option Value) (I : xI) (J : xJ) : Option ((Int32 × Int32 × Int32 × Int32 × Int32 × (Option Value) × xI × xJ) ⊕ (Int32 × xI × xJ)) := if x5 < 0 ∨ 27 ≤ x5.toNatClampNeg then none else if ((I 52 x5.toNatClampNeg) &&& (I 51 8)) = 0 then f_X2_choose_9 self x1 x2 x3 x4 x5 ((I 52 x5.toNatClampNeg)) I J else f_X2_choose_14 self x1 x2 x3 x4 x5 ((I 52 x5.toNatClampNeg)) I J
def f_X2_choose_7 (self : Int32 → Int32 → Int32 → Int32 → xI → xJ → Option (Int32 × xI × xJ)) (x1 : Int32) (x2 : Int32) (x3 : Int32) (x4 : Int32) (x5 : Int32) (z6 : Option Value) (s0 : Int32) (s2 : Int32) (I : xI) (J : xJ) : Option ((Int32 × Int32 × Int32 × Int32 × Int32 × (Option Value) × xI × xJ) ⊕ (Int32 × xI × xJ)) := if s2 < 0 ∨ 4 ≤ s2.toNatClampNeg then none else if (zst1003 s2.toNatClampNeg) ≤ s0 then ((f_X2_choose_15 self x1 x2 x3 x4 x5 z6 I J)).map .inr else f_X2_choose_8 self x1 x2 x3 x4 x5 z6 I J
def b_X2_choose_6 (self : Int32 → Int32 → Int32 → Int32 → xI → xJ → Option (Int32 × xI × xJ)) (x1 : Int32) (x2 : Int32) (x3 : Int32) (x4 : Int32) (x5 : Int32) (z6 : Option Value) (I : xI) (J : xJ) : Option ((Int32 × Int32 × Int32 × Int32 × Int32 × (Option Value) × xI × xJ) ⊕ (Int32 × xI × xJ)) := (f_X5_bits I J).bind fun o => f_X2_choose_7 self x1 x2 x3 x4 x5 z6 x5 o.1 o.2.1 o.2.2
def f_X2_choose_6 (self : Int32 → Int32 → Int32 → Int32 → xI → xJ → Option (Int32 × xI × xJ)) (x1 : Int32) (x2 : Int32) (x3 : Int32) (x4 : Int32) (x5 : Int32) (z6 : Option Value) (I : xI) (J : xJ) : Option (Int32 × xI × xJ) := xloop (fun s : Int32 × Int32 × Int32 × Int32 × Int32 × (Option Value) × xI × xJ => b_X2_choose_6 self s.1 s.2.1 s.2.2.1 s.2.2.2.1 s.2.2.2.2.1 s.2.2.2.2.2.1 s.2.2.2.2.2.2.1 s.2.2.2.2.2.2.2) 5000 (x1, x2, x3, x4, x5, z6, I, J)
def f_X2_choose_5 (self : Int32 → Int32 → Int32 → Int32 → xI → xJ → Option (Int32 × xI × xJ)) (x1 : Int32) (x2 : Int32) (x3 : Int32) (x4 : Int32) (I : xI) (J : xJ) : Option (Int32 × xI × xJ) := f_X2_choose_6 self x1 x2 x3 x4 x1 none I J
def f_X2_choose_4 (self : Int32 → Int32 → Int32 → Int32 → xI → xJ → Option (Int32 × xI × xJ)) (x1 : Int32) (x2 : Int32) (x3 : Int32) (x4 : Int32) (s0 : Int32) (I : xI) (J : xJ) : Option (Int32 × xI × xJ) := if s0 = 0 ∨ s0 = 1 then some (s0, I, J) else none
def f_X2_choose_3 (self : Int32 → Int32 → Int32 → Int32 → xI → xJ → Option (Int32 × xI × xJ)) (x1 : Int32) (x2 : Int32) (x3 : Int32) (x4 : Int32) (I : xI) (J : xJ) : Option (Int32 × xI × xJ) := f_X2_choose_4 self x1 x2 x3 x4 0 I J
def f_X2_choose_2 (self : Int32 → Int32 → Int32 → Int32 → xI → xJ → Option (Int32 × xI × xJ)) (x1 : Int32) (x2 : Int32) (x3 : Int32) (x4 : Int32) (I : xI) (J : xJ) : Option (Int32 × xI × xJ) := f_X2_choose_4 self x1 x2 x3 x4 1 I J
def f_X2_choose_1 (self : Int32 → Int32 → Int32 → Int32 → xI → xJ → Option (Int32 × xI × xJ)) (x1 : Int32) (x2 : Int32) (x3 : Int32) (x4 : Int32) (I : xI) (J : xJ) : Option (Int32 × xI × xJ) := if x4 = 0 then f_X2_choose_2 self x1 x2 x3 x4 I J else f_X2_choose_3 self x1 x2 x3 x4 I J
def f_X2_choose_0 (self : Int32 → Int32 → Int32 → Int32 → xI → xJ → Option (Int32 × xI × xJ)) (x1 : Int32) (x2 : Int32) (x3 : Int32) (x4 : Int32) (I : xI) (J : xJ) : Option (Int32 × xI × xJ) := if x2 < x3 then f_X2_choose_5 self x1 x2 x3 x4 I J else f_X2_choose_1 self x1 x2 x3 x4 I J
def f_X2_choose : Nat → Int32 → Int32 → Int32 → Int32 → xI → xJ → Option (Int32 × xI × xJ)
  | 0, _, _, _, _, _, _ => none
  | r + 1, x1, x2, x3, x4, I, J => f_X2_choose_0 (f_X2_choose r) x1 x2 x3 x4 I J
theorem p_X2_choose_15 {L : Nat} {xs : Nat → Int32} {d r : Nat} {Q : xO → Prop} {self : Int32 → Int32 → Int32 → Int32 → xI → xJ → Option (Int32 × xI × xJ)} (hself : ∀ (a1 : Int32) (a2 : Int32) (a3 : Int32) (a4 : Int32) (I : xI) (J : xJ) (o : Int32 × xI × xJ), self a1 a2 a3 a4 I J = some o → ∀ Q : xO → Prop, Q ((some (.int o.1)), 94, (o.2.1, o.2.2, xrf)) → Rn L xs (d + r + 14) 30 0 [some (.ref 51), some (.int a1), some (.int a2), some (.int a3), some (.int a4), none, none] [] 94 (I, J, xrf) Q) (x1 : Int32) (x2 : Int32) (x3 : Int32) (x4 : Int32) (x5 : Int32) (z6 : Option Value) (I : xI) (J : xJ) {t : Int32 × xI × xJ} (h : f_X2_choose_15 self x1 x2 x3 x4 x5 z6 I J = some t) (hC : (c_X2_choose Q) t) : Rn L xs (d + r + 15) 30 110 [some (.ref 51), some (.int x1), some (.int x2), some (.int x3), some (.int x4), some (.int x5), z6] [] 94 (I, J, xrf) Q := by
  unfold f_X2_choose_15 at h
  cases h
  exact Rn.ret 2 (o := ((some (.int 0)), 94, (I, J, xrf))) (fun f => rfl) hC
theorem p_X2_choose_14 {L : Nat} {xs : Nat → Int32} {d r : Nat} {Q : xO → Prop} {self : Int32 → Int32 → Int32 → Int32 → xI → xJ → Option (Int32 × xI × xJ)} (hself : ∀ (a1 : Int32) (a2 : Int32) (a3 : Int32) (a4 : Int32) (I : xI) (J : xJ) (o : Int32 × xI × xJ), self a1 a2 a3 a4 I J = some o → ∀ Q : xO → Prop, Q ((some (.int o.1)), 94, (o.2.1, o.2.2, xrf)) → Rn L xs (d + r + 14) 30 0 [some (.ref 51), some (.int a1), some (.int a2), some (.int a3), some (.int a4), none, none] [] 94 (I, J, xrf) Q) (x1 : Int32) (x2 : Int32) (x3 : Int32) (x4 : Int32) (x5 : Int32) (x6 : Int32) (I : xI) (J : xJ) {t : (Int32 × Int32 × Int32 × Int32 × Int32 × (Option Value) × xI × xJ) ⊕ (Int32 × xI × xJ)} (h : f_X2_choose_14 self x1 x2 x3 x4 x5 x6 I J = some t) (hC : (c_X2_choose_6 L xs d r Q) t) : Rn L xs (d + r + 15) 30 104 [some (.ref 51), some (.int x1), some (.int x2), some (.int x3), some (.int x4), some (.int x5), some (.int x6)] [] 94 (I, J, xrf) Q := by
  unfold f_X2_choose_14 at h
  refine Rn.go 2 (j' := 30) (pc' := 19) (ls' := [some (.ref 51), some (.int x1), some (.int x2), some (.int x3), some (.int x4), some (.int ((x5 + 1))), some (.int x6)]) (st' := []) (n' := 94) (M' := (I, J, xrf)) (fun f => rfl) ?_
  cases h; exact hC
theorem p_X2_choose_13 {L : Nat} {xs : Nat → Int32} {d r : Nat} {Q : xO → Prop} {self : Int32 → Int32 → Int32 → Int32 → xI → xJ → Option (Int32 × xI × xJ)} (hself : ∀ (a1 : Int32) (a2 : Int32) (a3 : Int32) (a4 : Int32) (I : xI) (J : xJ) (o : Int32 × xI × xJ), self a1 a2 a3 a4 I J = some o → ∀ Q : xO → Prop, Q ((some (.int o.1)), 94, (o.2.1, o.2.2, xrf)) → Rn L xs (d + r + 14) 30 0 [some (.ref 51), some (.int a1), some (.int a2), some (.int a3), some (.int a4), none, none] [] 94 (I, J, xrf) Q) (x1 : Int32) (x2 : Int32) (x3 : Int32) (x4 : Int32) (x5 : Int32) (x6 : Int32) (I : xI) (J : xJ) {t : Int32 × xI × xJ} (h : f_X2_choose_13 self x1 x2 x3 x4 x5 x6 I J = some t) (hC : (c_X2_choose Q) t) : Rn L xs (d + r + 15) 30 102 [some (.ref 51), some (.int x1), some (.int x2), some (.int x3), some (.int x4), some (.int x5), some (.int x6)] [] 94 (I, J, xrf) Q := by
  unfold f_X2_choose_13 at h
  cases h
  exact Rn.ret 2 (o := ((some (.int 1)), 94, (I, J, xrf))) (fun f => rfl) hC
theorem p_X2_choose_12 {L : Nat} {xs : Nat → Int32} {d r : Nat} {Q : xO → Prop} {self : Int32 → Int32 → Int32 → Int32 → xI → xJ → Option (Int32 × xI × xJ)} (hself : ∀ (a1 : Int32) (a2 : Int32) (a3 : Int32) (a4 : Int32) (I : xI) (J : xJ) (o : Int32 × xI × xJ), self a1 a2 a3 a4 I J = some o → ∀ Q : xO → Prop, Q ((some (.int o.1)), 94, (o.2.1, o.2.2, xrf)) → Rn L xs (d + r + 14) 30 0 [some (.ref 51), some (.int a1), some (.int a2), some (.int a3), some (.int a4), none, none] [] 94 (I, J, xrf) Q) (x1 : Int32) (x2 : Int32) (x3 : Int32) (x4 : Int32) (x5 : Int32) (x6 : Int32) (s0 : Int32) (I : xI) (J : xJ) {t : (Int32 × Int32 × Int32 × Int32 × Int32 × (Option Value) × xI × xJ) ⊕ (Int32 × xI × xJ)} (h : f_X2_choose_12 self x1 x2 x3 x4 x5 x6 s0 I J = some t) (hC : (c_X2_choose_6 L xs d r Q) t) : Rn L xs (d + r + 15) 30 99 [some (.ref 51), some (.int x1), some (.int x2), some (.int x3), some (.int x4), some (.int x5), some (.int x6)] [.int s0] 94 (I, J, xrf) Q := by
  unfold f_X2_choose_12 at h
  refine Rn.fi 1 (c := s0 = 0) (p1 := 104) (l1 := [some (.ref 51), some (.int x1), some (.int x2), some (.int x3), some (.int x4), some (.int x5), some (.int x6)]) (s1 := []) (n1 := 94) (M1 := (I, J, xrf)) (p2 := 102) (l2 := [some (.ref 51), some (.int x1), some (.int x2), some (.int x3), some (.int x4), some (.int x5), some (.int x6)]) (s2 := []) (n2 := 94) (M2 := (I, J, xrf)) (fun f => rfl) (fun hc => ?_) (fun hc => ?_)
  · rw [if_pos hc] at h
    exact p_X2_choose_14 hself x1 x2 x3 x4 x5 x6 I J h hC
  · rw [if_neg hc] at h
    obtain ⟨t0, h0, rfl⟩ := Option.map_eq_some_iff.mp h
    exact p_X2_choose_13 hself x1 x2 x3 x4 x5 x6 I J h0 hC
theorem p_X2_choose_11 {L : Nat} {xs : Nat → Int32} {d r : Nat} {Q : xO → Prop} {self : Int32 → Int32 → Int32 → Int32 → xI → xJ → Option (Int32 × xI × xJ)} (hself : ∀ (a1 : Int32) (a2 : Int32) (a3 : Int32) (a4 : Int32) (I : xI) (J : xJ) (o : Int32 × xI × xJ), self a1 a2 a3 a4 I J = some o → ∀ Q : xO → Prop, Q ((some (.int o.1)), 94, (o.2.1, o.2.2, xrf)) → Rn L xs (d + r + 14) 30 0 [some (.ref 51), some (.int a1), some (.int a2), some (.int a3), some (.int a4), none, none] [] 94 (I, J, xrf) Q) (x1 : Int32) (x2 : Int32) (x3 : Int32) (x4 : Int32) (x5 : Int32) (x6 : Int32) (I : xI) (J : xJ) {t : (Int32 × Int32 × Int32 × Int32 × Int32 × (Option Value) × xI × xJ) ⊕ (Int32 × xI × xJ)} (h : f_X2_choose_11 self x1 x2 x3 x4 x5 x6 I J = some t) (hC : (c_X2_choose_6 L xs d r Q) t) : Rn L xs (d + r + 15) 30 72 [some (.ref 51), some (.int x1), some (.int x2), some (.int x3), some (.int x4), some (.int x5), some (.int x6)] [] 94 (I, J, xrf) Q := by
  unfold f_X2_choose_11 at h
  obtain ⟨hc, h⟩ := xif h
  refine Rn.ok 5 (c := x2 < 0 ∨ 8 ≤ x2.toNatClampNeg) (p1 := 80) (l1 := [some (.ref 51), some (.int x1), some (.int x2), some (.int x3), some (.int x4), some (.int x5), some (.int x6)]) (s1 := []) (n1 := 94) (M1 := ((xup I 55 x2.toNatClampNeg x5), J, xrf)) (fun f => rfl) hc ?_
  refine Rn.go 13 (j' := 30) (pc' := 96) (ls' := [some (.ref 51), some (.int x1), some (.int x2), some (.int x3), some (.int x4), some (.int x5), some (.int x6)]) (st' := [.int ((x4 &&& (x6 ^^^ (-1)))), .int x3, .int ((x2 + 1)), .int ((x5 + 1)), .ref 51]) (n' := 94) (M' := ((xup I 55 x2.toNatClampNeg x5), J, xrf)) (fun f => rfl) ?_
  obtain ⟨o, ho, h⟩ := Option.bind_eq_some_iff.mp h
  refine Rn.call (d1 := d + r + 14) (j1 := 30) (ls1 := [some (.ref 51), some (.int ((x5 + 1))), some (.int ((x2 + 1))), some (.int x3), some (.int ((x4 &&& (x6 ^^^ (-1))))), none, none]) (rest := []) (fun f => rfl) ?_
  refine hself ((x5 + 1)) ((x2 + 1)) x3 ((x4 &&& (x6 ^^^ (-1)))) ((xup I 55 x2.toNatClampNeg x5)) (J) o ho _ ?_
  exact p_X2_choose_12 hself x1 x2 x3 x4 x5 x6 o.1 o.2.1 o.2.2 h hC
theorem p_X2_choose_10 {L : Nat} {xs : Nat → Int32} {d r : Nat} {Q : xO → Prop} {self : Int32 → Int32 → Int32 → Int32 → xI → xJ → Option (Int32 × xI × xJ)} (hself : ∀ (a1 : Int32) (a2 : Int32) (a3 : Int32) (a4 : Int32) (I : xI) (J : xJ) (o : Int32 × xI × xJ), self a1 a2 a3 a4 I J = some o → ∀ Q : xO → Prop, Q ((some (.int o.1)), 94, (o.2.1, o.2.2, xrf)) → Rn L xs (d + r + 14) 30 0 [some (.ref 51), some (.int a1), some (.int a2), some (.int a3), some (.int a4), none, none] [] 94 (I, J, xrf) Q) (x1 : Int32) (x2 : Int32) (x3 : Int32) (x4 : Int32) (x5 : Int32) (x6 : Int32) (s0 : Int32) (I : xI) (J : xJ) {t : (Int32 × Int32 × Int32 × Int32 × Int32 × (Option Value) × xI × xJ) ⊕ (Int32 × xI × xJ)} (h : f_X2_choose_10 self x1 x2 x3 x4 x5 x6 s0 I J = some t) (hC : (c_X2_choose_6 L xs d r Q) t) : Rn L xs (d + r + 15) 30 66 [some (.ref 51), some (.int x1), some (.int x2), some (.int x3), some (.int x4), some (.int x5), some (.int x6)] [.int s0] 94 (I, J, xrf) Q := by
  unfold f_X2_choose_10 at h
  refine Rn.fi 4 (c := (x3 - x2) ≤ s0) (p1 := 104) (l1 := [some (.ref 51), some (.int x1), some (.int x2), some (.int x3), some (.int x4), some (.int x5), some (.int x6)]) (s1 := []) (n1 := 94) (M1 := (I, J, xrf)) (p2 := 72) (l2 := [some (.ref 51), some (.int x1), some (.int x2), some (.int x3), some (.int x4), some (.int x5), some (.int x6)]) (s2 := []) (n2 := 94) (M2 := (I, J, xrf)) (fun f => rfl) (fun hc => ?_) (fun hc => ?_)
  · rw [if_pos hc] at h
    exact p_X2_choose_14 hself x1 x2 x3 x4 x5 x6 I J h hC
  · rw [if_neg hc] at h
    exact p_X2_choose_11 hself x1 x2 x3 x4 x5 x6 I J h hC
theorem p_X2_choose_9 {L : Nat} {xs : Nat → Int32} {d r : Nat} {Q : xO → Prop} {self : Int32 → Int32 → Int32 → Int32 → xI → xJ → Option (Int32 × xI × xJ)} (hself : ∀ (a1 : Int32) (a2 : Int32) (a3 : Int32) (a4 : Int32) (I : xI) (J : xJ) (o : Int32 × xI × xJ), self a1 a2 a3 a4 I J = some o → ∀ Q : xO → Prop, Q ((some (.int o.1)), 94, (o.2.1, o.2.2, xrf)) → Rn L xs (d + r + 14) 30 0 [some (.ref 51), some (.int a1), some (.int a2), some (.int a3), some (.int a4), none, none] [] 94 (I, J, xrf) Q) (x1 : Int32) (x2 : Int32) (x3 : Int32) (x4 : Int32) (x5 : Int32) (x6 : Int32) (I : xI) (J : xJ) {t : (Int32 × Int32 × Int32 × Int32 × Int32 × (Option Value) × xI × xJ) ⊕ (Int32 × xI × xJ)} (h : f_X2_choose_9 self x1 x2 x3 x4 x5 x6 I J = some t) (hC : (c_X2_choose_6 L xs d r Q) t) : Rn L xs (d + r + 15) 30 54 [some (.ref 51), some (.int x1), some (.int x2), some (.int x3), some (.int x4), some (.int x5), some (.int x6)] [] 94 (I, J, xrf) Q := by
  unfold f_X2_choose_9 at h
  refine Rn.go 7 (j' := 30) (pc' := 63) (ls' := [some (.ref 51), some (.int x1), some (.int x2), some (.int x3), some (.int x4), some (.int x5), some (.int x6)]) (st' := [.int 0, .int ((x4 &&& (x6 ^^^ (-1)))), .ref 51]) (n' := 94) (M' := (I, J, xrf)) (fun f => rfl) ?_
  obtain ⟨o, ho, h⟩ := Option.bind_eq_some_iff.mp h
  refine Rn.call (d1 := d + r + 14) (j1 := 28) (ls1 := [some (.ref 51), some (.int ((x4 &&& (x6 ^^^ (-1))))), some (.int 0), none, none, none, none, none]) (rest := []) (fun f => rfl) ?_
  refine p_X2_least (d := d + r + 0) 12 ((x4 &&& (x6 ^^^ (-1)))) 0 I J (t := o) ho ?_
  exact p_X2_choose_10 hself x1 x2 x3 x4 x5 x6 o.1 o.2.1 o.2.2 h hC
theorem p_X2_choose_8 {L : Nat} {xs : Nat → Int32} {d r : Nat} {Q : xO → Prop} {self : Int32 → Int32 → Int32 → Int32 → xI → xJ → Option (Int32 × xI × xJ)} (hself : ∀ (a1 : Int32) (a2 : Int32) (a3 : Int32) (a4 : Int32) (I : xI) (J : xJ) (o : Int32 × xI × xJ), self a1 a2 a3 a4 I J = some o → ∀ Q : xO → Prop, Q ((some (.int o.1)), 94, (o.2.1, o.2.2, xrf)) → Rn L xs (d + r + 14) 30 0 [some (.ref 51), some (.int a1), some (.int a2), some (.int a3), some (.int a4), none, none] [] 94 (I, J, xrf) Q) (x1 : Int32) (x2 : Int32) (x3 : Int32) (x4 : Int32) (x5 : Int32) (z6 : Option Value) (I : xI) (J : xJ) {t : (Int32 × Int32 × Int32 × Int32 × Int32 × (Option Value) × xI × xJ) ⊕ (Int32 × xI × xJ)} (h : f_X2_choose_8 self x1 x2 x3 x4 x5 z6 I J = some t) (hC : (c_X2_choose_6 L xs d r Q) t) : Rn L xs (d + r + 15) 30 35 [some (.ref 51), some (.int x1), some (.int x2), some (.int x3), some (.int x4), some (.int x5), z6] [] 94 (I, J, xrf) Q := by
  unfold f_X2_choose_8 at h
  obtain ⟨hc, h⟩ := xif h
  refine Rn.ok 4 (c := x5 < 0 ∨ 27 ≤ x5.toNatClampNeg) (p1 := 42) (l1 := [some (.ref 51), some (.int x1), some (.int x2), some (.int x3), some (.int x4), some (.int x5), z6]) (s1 := [.int ((I 52 x5.toNatClampNeg))]) (n1 := 94) (M1 := (I, J, xrf)) (fun f => rfl) hc ?_
  refine Rn.fi 6 (c := ((I 52 x5.toNatClampNeg) &&& (I 51 8)) = 0) (p1 := 54) (l1 := [some (.ref 51), some (.int x1), some (.int x2), some (.int x3), some (.int x4), some (.int x5), some (.int ((I 52 x5.toNatClampNeg)))]) (s1 := []) (n1 := 94) (M1 := (I, J, xrf)) (p2 := 104) (l2 := [some (.ref 51), some (.int x1), some (.int x2), some (.int x3), some (.int x4), some (.int x5), some (.int ((I 52 x5.toNatClampNeg)))]) (s2 := []) (n2 := 94) (M2 := (I, J, xrf)) (fun f => rfl) (fun hc => ?_) (fun hc => ?_)
  · rw [if_pos hc] at h
    exact p_X2_choose_9 hself x1 x2 x3 x4 x5 ((I 52 x5.toNatClampNeg)) I J h hC
  · rw [if_neg hc] at h
    exact p_X2_choose_14 hself x1 x2 x3 x4 x5 ((I 52 x5.toNatClampNeg)) I J h hC
theorem p_X2_choose_7 {L : Nat} {xs : Nat → Int32} {d r : Nat} {Q : xO → Prop} {self : Int32 → Int32 → Int32 → Int32 → xI → xJ → Option (Int32 × xI × xJ)} (hself : ∀ (a1 : Int32) (a2 : Int32) (a3 : Int32) (a4 : Int32) (I : xI) (J : xJ) (o : Int32 × xI × xJ), self a1 a2 a3 a4 I J = some o → ∀ Q : xO → Prop, Q ((some (.int o.1)), 94, (o.2.1, o.2.2, xrf)) → Rn L xs (d + r + 14) 30 0 [some (.ref 51), some (.int a1), some (.int a2), some (.int a3), some (.int a4), none, none] [] 94 (I, J, xrf) Q) (x1 : Int32) (x2 : Int32) (x3 : Int32) (x4 : Int32) (x5 : Int32) (z6 : Option Value) (s0 : Int32) (s2 : Int32) (I : xI) (J : xJ) {t : (Int32 × Int32 × Int32 × Int32 × Int32 × (Option Value) × xI × xJ) ⊕ (Int32 × xI × xJ)} (h : f_X2_choose_7 self x1 x2 x3 x4 x5 z6 s0 s2 I J = some t) (hC : (c_X2_choose_6 L xs d r Q) t) : Rn L xs (d + r + 15) 30 31 [some (.ref 51), some (.int x1), some (.int x2), some (.int x3), some (.int x4), some (.int x5), z6] [.int s2, .ref 1003, .int s0] 94 (I, J, xrf) Q := by
  unfold f_X2_choose_7 at h
  obtain ⟨hc, h⟩ := xif h
  refine Rn.ok 1 (c := s2 < 0 ∨ 4 ≤ s2.toNatClampNeg) (p1 := 32) (l1 := [some (.ref 51), some (.int x1), some (.int x2), some (.int x3), some (.int x4), some (.int x5), z6]) (s1 := [.int ((zst1003 s2.toNatClampNeg)), .int s0]) (n1 := 94) (M1 := (I, J, xrf)) (fun f => rfl) hc ?_
  refine Rn.fi 1 (c := (zst1003 s2.toNatClampNeg) ≤ s0) (p1 := 110) (l1 := [some (.ref 51), some (.int x1), some (.int x2), some (.int x3), some (.int x4), some (.int x5), z6]) (s1 := []) (n1 := 94) (M1 := (I, J, xrf)) (p2 := 35) (l2 := [some (.ref 51), some (.int x1), some (.int x2), some (.int x3), some (.int x4), some (.int x5), z6]) (s2 := []) (n2 := 94) (M2 := (I, J, xrf)) (fun f => rfl) (fun hc => ?_) (fun hc => ?_)
  · rw [if_pos hc] at h
    obtain ⟨t0, h0, rfl⟩ := Option.map_eq_some_iff.mp h
    exact p_X2_choose_15 hself x1 x2 x3 x4 x5 z6 I J h0 hC
  · rw [if_neg hc] at h
    exact p_X2_choose_8 hself x1 x2 x3 x4 x5 z6 I J h hC
theorem q_X2_choose_6 {L : Nat} {xs : Nat → Int32} {d r : Nat} {Q : xO → Prop} {self : Int32 → Int32 → Int32 → Int32 → xI → xJ → Option (Int32 × xI × xJ)} (hself : ∀ (a1 : Int32) (a2 : Int32) (a3 : Int32) (a4 : Int32) (I : xI) (J : xJ) (o : Int32 × xI × xJ), self a1 a2 a3 a4 I J = some o → ∀ Q : xO → Prop, Q ((some (.int o.1)), 94, (o.2.1, o.2.2, xrf)) → Rn L xs (d + r + 14) 30 0 [some (.ref 51), some (.int a1), some (.int a2), some (.int a3), some (.int a4), none, none] [] 94 (I, J, xrf) Q) (x1 : Int32) (x2 : Int32) (x3 : Int32) (x4 : Int32) (x5 : Int32) (z6 : Option Value) (I : xI) (J : xJ) {t : (Int32 × Int32 × Int32 × Int32 × Int32 × (Option Value) × xI × xJ) ⊕ (Int32 × xI × xJ)} (h : b_X2_choose_6 self x1 x2 x3 x4 x5 z6 I J = some t) (hC : (c_X2_choose_6 L xs d r Q) t) : Rn L xs (d + r + 15) 30 19 [some (.ref 51), some (.int x1), some (.int x2), some (.int x3), some (.int x4), some (.int x5), z6] [] 94 (I, J, xrf) Q := by
  unfold b_X2_choose_6 at h
  refine Rn.go 4 (j' := 30) (pc' := 28) (ls' := [some (.ref 51), some (.int x1), some (.int x2), some (.int x3), some (.int x4), some (.int x5), z6]) (st' := [.ref 1, .ref 1003, .int x5]) (n' := 94) (M' := (I, J, xrf)) (fun f => rfl) ?_
  obtain ⟨o, ho, h⟩ := Option.bind_eq_some_iff.mp h
  refine Rn.call (d1 := d + r + 14) (j1 := 62) (ls1 := [some (.ref 1)]) (rest := [.ref 1003, .int x5]) (fun f => rfl) ?_
  refine p_X5_bits (d := d + r + 13) I J (t := o) ho ?_
  exact p_X2_choose_7 hself x1 x2 x3 x4 x5 z6 x5 o.1 o.2.1 o.2.2 h hC
theorem p_X2_choose_6 {L : Nat} {xs : Nat → Int32} {d r : Nat} {Q : xO → Prop} {self : Int32 → Int32 → Int32 → Int32 → xI → xJ → Option (Int32 × xI × xJ)} (hself : ∀ (a1 : Int32) (a2 : Int32) (a3 : Int32) (a4 : Int32) (I : xI) (J : xJ) (o : Int32 × xI × xJ), self a1 a2 a3 a4 I J = some o → ∀ Q : xO → Prop, Q ((some (.int o.1)), 94, (o.2.1, o.2.2, xrf)) → Rn L xs (d + r + 14) 30 0 [some (.ref 51), some (.int a1), some (.int a2), some (.int a3), some (.int a4), none, none] [] 94 (I, J, xrf) Q) (x1 : Int32) (x2 : Int32) (x3 : Int32) (x4 : Int32) (x5 : Int32) (z6 : Option Value) (I : xI) (J : xJ) {t : Int32 × xI × xJ} (h : f_X2_choose_6 self x1 x2 x3 x4 x5 z6 I J = some t) (hC : (c_X2_choose Q) t) : Rn L xs (d + r + 15) 30 19 [some (.ref 51), some (.int x1), some (.int x2), some (.int x3), some (.int x4), some (.int x5), z6] [] 94 (I, J, xrf) Q := by
  unfold f_X2_choose_6 at h
  exact xloop_some (P := fun s : Int32 × Int32 × Int32 × Int32 × Int32 × (Option Value) × xI × xJ => Rn L xs (d + r + 15) 30 19 [some (.ref 51), some (.int s.1), some (.int s.2.1), some (.int s.2.2.1), some (.int s.2.2.2.1), some (.int s.2.2.2.2.1), s.2.2.2.2.2.1] [] 94 (s.2.2.2.2.2.2.1, s.2.2.2.2.2.2.2, xrf) Q) t (fun s ⟨s', hb, hp⟩ => q_X2_choose_6 hself s.1 s.2.1 s.2.2.1 s.2.2.2.1 s.2.2.2.2.1 s.2.2.2.2.2.1 s.2.2.2.2.2.2.1 s.2.2.2.2.2.2.2 hb hp) (fun s hb => q_X2_choose_6 hself s.1 s.2.1 s.2.2.1 s.2.2.2.1 s.2.2.2.2.1 s.2.2.2.2.2.1 s.2.2.2.2.2.2.1 s.2.2.2.2.2.2.2 hb hC) _ _ h
theorem p_X2_choose_5 {L : Nat} {xs : Nat → Int32} {d r : Nat} {Q : xO → Prop} {self : Int32 → Int32 → Int32 → Int32 → xI → xJ → Option (Int32 × xI × xJ)} (hself : ∀ (a1 : Int32) (a2 : Int32) (a3 : Int32) (a4 : Int32) (I : xI) (J : xJ) (o : Int32 × xI × xJ), self a1 a2 a3 a4 I J = some o → ∀ Q : xO → Prop, Q ((some (.int o.1)), 94, (o.2.1, o.2.2, xrf)) → Rn L xs (d + r + 14) 30 0 [some (.ref 51), some (.int a1), some (.int a2), some (.int a3), some (.int a4), none, none] [] 94 (I, J, xrf) Q) (x1 : Int32) (x2 : Int32) (x3 : Int32) (x4 : Int32) (I : xI) (J : xJ) {t : Int32 × xI × xJ} (h : f_X2_choose_5 self x1 x2 x3 x4 I J = some t) (hC : (c_X2_choose Q) t) : Rn L xs (d + r + 15) 30 16 [some (.ref 51), some (.int x1), some (.int x2), some (.int x3), some (.int x4), none, none] [] 94 (I, J, xrf) Q := by
  unfold f_X2_choose_5 at h
  refine Rn.go 2 (j' := 30) (pc' := 19) (ls' := [some (.ref 51), some (.int x1), some (.int x2), some (.int x3), some (.int x4), some (.int x1), none]) (st' := []) (n' := 94) (M' := (I, J, xrf)) (fun f => rfl) ?_
  exact p_X2_choose_6 hself x1 x2 x3 x4 x1 none I J h hC
theorem p_X2_choose_4 {L : Nat} {xs : Nat → Int32} {d r : Nat} {Q : xO → Prop} {self : Int32 → Int32 → Int32 → Int32 → xI → xJ → Option (Int32 × xI × xJ)} (hself : ∀ (a1 : Int32) (a2 : Int32) (a3 : Int32) (a4 : Int32) (I : xI) (J : xJ) (o : Int32 × xI × xJ), self a1 a2 a3 a4 I J = some o → ∀ Q : xO → Prop, Q ((some (.int o.1)), 94, (o.2.1, o.2.2, xrf)) → Rn L xs (d + r + 14) 30 0 [some (.ref 51), some (.int a1), some (.int a2), some (.int a3), some (.int a4), none, none] [] 94 (I, J, xrf) Q) (x1 : Int32) (x2 : Int32) (x3 : Int32) (x4 : Int32) (s0 : Int32) (I : xI) (J : xJ) {t : Int32 × xI × xJ} (h : f_X2_choose_4 self x1 x2 x3 x4 s0 I J = some t) (hC : (c_X2_choose Q) t) : Rn L xs (d + r + 15) 30 15 [some (.ref 51), some (.int x1), some (.int x2), some (.int x3), some (.int x4), none, none] [.int s0] 94 (I, J, xrf) Q := by
  unfold f_X2_choose_4 at h
  obtain ⟨hc, h⟩ := xifT h
  cases h
  exact Rn.retT 1 (c := s0 = 0 ∨ s0 = 1) (o := ((some (.int s0)), 94, (I, J, xrf))) (fun f => rfl) hc hC
theorem p_X2_choose_3 {L : Nat} {xs : Nat → Int32} {d r : Nat} {Q : xO → Prop} {self : Int32 → Int32 → Int32 → Int32 → xI → xJ → Option (Int32 × xI × xJ)} (hself : ∀ (a1 : Int32) (a2 : Int32) (a3 : Int32) (a4 : Int32) (I : xI) (J : xJ) (o : Int32 × xI × xJ), self a1 a2 a3 a4 I J = some o → ∀ Q : xO → Prop, Q ((some (.int o.1)), 94, (o.2.1, o.2.2, xrf)) → Rn L xs (d + r + 14) 30 0 [some (.ref 51), some (.int a1), some (.int a2), some (.int a3), some (.int a4), none, none] [] 94 (I, J, xrf) Q) (x1 : Int32) (x2 : Int32) (x3 : Int32) (x4 : Int32) (I : xI) (J : xJ) {t : Int32 × xI × xJ} (h : f_X2_choose_3 self x1 x2 x3 x4 I J = some t) (hC : (c_X2_choose Q) t) : Rn L xs (d + r + 15) 30 14 [some (.ref 51), some (.int x1), some (.int x2), some (.int x3), some (.int x4), none, none] [] 94 (I, J, xrf) Q := by
  unfold f_X2_choose_3 at h
  refine Rn.go 1 (j' := 30) (pc' := 15) (ls' := [some (.ref 51), some (.int x1), some (.int x2), some (.int x3), some (.int x4), none, none]) (st' := [.int 0]) (n' := 94) (M' := (I, J, xrf)) (fun f => rfl) ?_
  exact p_X2_choose_4 hself x1 x2 x3 x4 0 I J h hC
theorem p_X2_choose_2 {L : Nat} {xs : Nat → Int32} {d r : Nat} {Q : xO → Prop} {self : Int32 → Int32 → Int32 → Int32 → xI → xJ → Option (Int32 × xI × xJ)} (hself : ∀ (a1 : Int32) (a2 : Int32) (a3 : Int32) (a4 : Int32) (I : xI) (J : xJ) (o : Int32 × xI × xJ), self a1 a2 a3 a4 I J = some o → ∀ Q : xO → Prop, Q ((some (.int o.1)), 94, (o.2.1, o.2.2, xrf)) → Rn L xs (d + r + 14) 30 0 [some (.ref 51), some (.int a1), some (.int a2), some (.int a3), some (.int a4), none, none] [] 94 (I, J, xrf) Q) (x1 : Int32) (x2 : Int32) (x3 : Int32) (x4 : Int32) (I : xI) (J : xJ) {t : Int32 × xI × xJ} (h : f_X2_choose_2 self x1 x2 x3 x4 I J = some t) (hC : (c_X2_choose Q) t) : Rn L xs (d + r + 15) 30 10 [some (.ref 51), some (.int x1), some (.int x2), some (.int x3), some (.int x4), none, none] [] 94 (I, J, xrf) Q := by
  unfold f_X2_choose_2 at h
  refine Rn.go 2 (j' := 30) (pc' := 15) (ls' := [some (.ref 51), some (.int x1), some (.int x2), some (.int x3), some (.int x4), none, none]) (st' := [.int 1]) (n' := 94) (M' := (I, J, xrf)) (fun f => rfl) ?_
  exact p_X2_choose_4 hself x1 x2 x3 x4 1 I J h hC
theorem p_X2_choose_1 {L : Nat} {xs : Nat → Int32} {d r : Nat} {Q : xO → Prop} {self : Int32 → Int32 → Int32 → Int32 → xI → xJ → Option (Int32 × xI × xJ)} (hself : ∀ (a1 : Int32) (a2 : Int32) (a3 : Int32) (a4 : Int32) (I : xI) (J : xJ) (o : Int32 × xI × xJ), self a1 a2 a3 a4 I J = some o → ∀ Q : xO → Prop, Q ((some (.int o.1)), 94, (o.2.1, o.2.2, xrf)) → Rn L xs (d + r + 14) 30 0 [some (.ref 51), some (.int a1), some (.int a2), some (.int a3), some (.int a4), none, none] [] 94 (I, J, xrf) Q) (x1 : Int32) (x2 : Int32) (x3 : Int32) (x4 : Int32) (I : xI) (J : xJ) {t : Int32 × xI × xJ} (h : f_X2_choose_1 self x1 x2 x3 x4 I J = some t) (hC : (c_X2_choose Q) t) : Rn L xs (d + r + 15) 30 5 [some (.ref 51), some (.int x1), some (.int x2), some (.int x3), some (.int x4), none, none] [] 94 (I, J, xrf) Q := by
  unfold f_X2_choose_1 at h
  refine Rn.fi 2 (c := x4 = 0) (p1 := 10) (l1 := [some (.ref 51), some (.int x1), some (.int x2), some (.int x3), some (.int x4), none, none]) (s1 := []) (n1 := 94) (M1 := (I, J, xrf)) (p2 := 14) (l2 := [some (.ref 51), some (.int x1), some (.int x2), some (.int x3), some (.int x4), none, none]) (s2 := []) (n2 := 94) (M2 := (I, J, xrf)) (fun f => rfl) (fun hc => ?_) (fun hc => ?_)
  · rw [if_pos hc] at h
    exact p_X2_choose_2 hself x1 x2 x3 x4 I J h hC
  · rw [if_neg hc] at h
    exact p_X2_choose_3 hself x1 x2 x3 x4 I J h hC
theorem p_X2_choose_0 {L : Nat} {xs : Nat → Int32} {d r : Nat} {Q : xO → Prop} {self : Int32 → Int32 → Int32 → Int32 → xI → xJ → Option (Int32 × xI × xJ)} (hself : ∀ (a1 : Int32) (a2 : Int32) (a3 : Int32) (a4 : Int32) (I : xI) (J : xJ) (o : Int32 × xI × xJ), self a1 a2 a3 a4 I J = some o → ∀ Q : xO → Prop, Q ((some (.int o.1)), 94, (o.2.1, o.2.2, xrf)) → Rn L xs (d + r + 14) 30 0 [some (.ref 51), some (.int a1), some (.int a2), some (.int a3), some (.int a4), none, none] [] 94 (I, J, xrf) Q) (x1 : Int32) (x2 : Int32) (x3 : Int32) (x4 : Int32) (I : xI) (J : xJ) {t : Int32 × xI × xJ} (h : f_X2_choose_0 self x1 x2 x3 x4 I J = some t) (hC : (c_X2_choose Q) t) : Rn L xs (d + r + 15) 30 0 [some (.ref 51), some (.int x1), some (.int x2), some (.int x3), some (.int x4), none, none] [] 94 (I, J, xrf) Q := by
  unfold f_X2_choose_0 at h
  refine Rn.fi 3 (c := x2 < x3) (p1 := 16) (l1 := [some (.ref 51), some (.int x1), some (.int x2), some (.int x3), some (.int x4), none, none]) (s1 := []) (n1 := 94) (M1 := (I, J, xrf)) (p2 := 5) (l2 := [some (.ref 51), some (.int x1), some (.int x2), some (.int x3), some (.int x4), none, none]) (s2 := []) (n2 := 94) (M2 := (I, J, xrf)) (fun f => rfl) (fun hc => ?_) (fun hc => ?_)
  · rw [if_pos hc] at h
    exact p_X2_choose_5 hself x1 x2 x3 x4 I J h hC
  · rw [if_neg hc] at h
    exact p_X2_choose_1 hself x1 x2 x3 x4 I J h hC
theorem p_X2_choose {L : Nat} {xs : Nat → Int32} {d : Nat} {Q : xO → Prop} (r : Nat) (x1 : Int32) (x2 : Int32) (x3 : Int32) (x4 : Int32) (I : xI) (J : xJ) {t : Int32 × xI × xJ} (h : f_X2_choose r x1 x2 x3 x4 I J = some t) (hC : Q ((some (.int t.1)), 94, (t.2.1, t.2.2, xrf))) : Rn L xs (d + r + 15) 30 0 [some (.ref 51), some (.int x1), some (.int x2), some (.int x3), some (.int x4), none, none] [] 94 (I, J, xrf) Q := by
  induction r generalizing Q t x1 x2 x3 x4 I J with
  | zero => exact absurd h (by simp [f_X2_choose])
  | succ r ih =>
    have q := p_X2_choose_0 (L := L) (xs := xs) (Q := Q) (d := d + 1) (r := r) (self := f_X2_choose r) (fun a1 a2 a3 a4 I J o ho Q hQ => by have := ih a1 a2 a3 a4 I J ho hQ; rw [show d + 1 + r + 14 = d + r + 15 by omega]; exact this) x1 x2 x3 x4 I J h hC
    rw [show d + 1 + r + 15 = d + (r + 1) + 15 by omega] at q
    exact q
/-! X2_list -/
def c_X2_list (Q : xO → Prop) (t : Int32 × xI × xJ) : Prop := Q ((some (.int t.1)), 94, (t.2.1, t.2.2, xrf))
def f_X2_list_4 (x1 : Int32) (x2 : Int32) (x3 : Int32) (s0 : Int32) (I : xI) (J : xJ) : Option (Int32 × xI × xJ) := some (x3, I, J)
def f_X2_list_3 (x1 : Int32) (x2 : Int32) (s0 : Int32) (I : xI) (J : xJ) : Option (Int32 × xI × xJ) := (f_X2_choose 12 0 0 s0 ((I 51 7)) I J).bind fun o => f_X2_list_4 x1 x2 s0 o.1 o.2.1 o.2.2
def f_X2_list_2 (x1 : Int32) (x2 : Int32) (I : xI) (J : xJ) : Option (Int32 × xI × xJ) := (f_X2_least 12 ((I 51 7)) 0 I J).bind fun o => f_X2_list_3 x1 x2 o.1 o.2.1 o.2.2
def f_X2_list_1 (x1 : Int32) (x2 : Int32) (I : xI) (J : xJ) : Option (Int32 × xI × xJ) := (f_X2_aim x1 I J).bind fun o => f_X2_list_2 x1 x2 o.2.1 o.2.2
def f_X2_list_0 (x1 : Int32) (x2 : Int32) (I : xI) (J : xJ) : Option (Int32 × xI × xJ) := (f_X2_look_4 ((I 1 0)) x2 I J).bind fun o => f_X2_list_1 x1 x2 o.2.1 o.2.2
def f_X2_list (x1 : Int32) (x2 : Int32) (I : xI) (J : xJ) : Option (Int32 × xI × xJ) := f_X2_list_0 x1 x2 I J
theorem p_X2_list_4 {L : Nat} {xs : Nat → Int32} {d : Nat} {Q : xO → Prop} (x1 : Int32) (x2 : Int32) (x3 : Int32) (s0 : Int32) (I : xI) (J : xJ) {t : Int32 × xI × xJ} (h : f_X2_list_4 x1 x2 x3 s0 I J = some t) (hC : (c_X2_list Q) t) : Rn L xs (d + 28) 29 45 [some (.ref 51), some (.int x1), some (.int x2), some (.int x3)] [.int s0] 94 (I, J, xrf) Q := by
  unfold f_X2_list_4 at h
  cases h
  exact Rn.ret 3 (o := ((some (.int x3)), 94, (I, J, xrf))) (fun f => rfl) hC
theorem p_X2_list_3 {L : Nat} {xs : Nat → Int32} {d : Nat} {Q : xO → Prop} (x1 : Int32) (x2 : Int32) (s0 : Int32) (I : xI) (J : xJ) {t : Int32 × xI × xJ} (h : f_X2_list_3 x1 x2 s0 I J = some t) (hC : (c_X2_list Q) t) : Rn L xs (d + 28) 29 33 [some (.ref 51), some (.int x1), some (.int x2), none] [.int s0] 94 (I, J, xrf) Q := by
  unfold f_X2_list_3 at h
  refine Rn.go 7 (j' := 29) (pc' := 42) (ls' := [some (.ref 51), some (.int x1), some (.int x2), some (.int s0)]) (st' := [.int ((I 51 7)), .int s0, .int 0, .int 0, .ref 51]) (n' := 94) (M' := (I, J, xrf)) (fun f => rfl) ?_
  obtain ⟨o, ho, h⟩ := Option.bind_eq_some_iff.mp h
  refine Rn.call (d1 := d + 27) (j1 := 30) (ls1 := [some (.ref 51), some (.int 0), some (.int 0), some (.int s0), some (.int ((I 51 7))), none, none]) (rest := []) (fun f => rfl) ?_
  refine p_X2_choose (d := d + 0) 12 0 0 s0 ((I 51 7)) I J (t := o) ho ?_
  exact p_X2_list_4 x1 x2 s0 o.1 o.2.1 o.2.2 h hC
theorem p_X2_list_2 {L : Nat} {xs : Nat → Int32} {d : Nat} {Q : xO → Prop} (x1 : Int32) (x2 : Int32) (I : xI) (J : xJ) {t : Int32 × xI × xJ} (h : f_X2_list_2 x1 x2 I J = some t) (hC : (c_X2_list Q) t) : Rn L xs (d + 28) 29 24 [some (.ref 51), some (.int x1), some (.int x2), none] [] 94 (I, J, xrf) Q := by
  unfold f_X2_list_2 at h
  refine Rn.go 4 (j' := 29) (pc' := 30) (ls' := [some (.ref 51), some (.int x1), some (.int x2), none]) (st' := [.int 0, .int ((I 51 7)), .ref 51]) (n' := 94) (M' := (I, J, xrf)) (fun f => rfl) ?_
  obtain ⟨o, ho, h⟩ := Option.bind_eq_some_iff.mp h
  refine Rn.call (d1 := d + 27) (j1 := 28) (ls1 := [some (.ref 51), some (.int ((I 51 7))), some (.int 0), none, none, none, none, none]) (rest := []) (fun f => rfl) ?_
  refine p_X2_least (d := d + 13) 12 ((I 51 7)) 0 I J (t := o) ho ?_
  exact p_X2_list_3 x1 x2 o.1 o.2.1 o.2.2 h hC
theorem p_X2_list_1 {L : Nat} {xs : Nat → Int32} {d : Nat} {Q : xO → Prop} (x1 : Int32) (x2 : Int32) (I : xI) (J : xJ) {t : Int32 × xI × xJ} (h : f_X2_list_1 x1 x2 I J = some t) (hC : (c_X2_list Q) t) : Rn L xs (d + 28) 29 19 [some (.ref 51), some (.int x1), some (.int x2), none] [] 94 (I, J, xrf) Q := by
  unfold f_X2_list_1 at h
  refine Rn.go 2 (j' := 29) (pc' := 21) (ls' := [some (.ref 51), some (.int x1), some (.int x2), none]) (st' := [.int x1, .ref 51]) (n' := 94) (M' := (I, J, xrf)) (fun f => rfl) ?_
  obtain ⟨o, ho, h⟩ := Option.bind_eq_some_iff.mp h
  refine Rn.call (d1 := d + 27) (j1 := 27) (ls1 := [some (.ref 51), some (.int x1)]) (rest := []) (fun f => rfl) ?_
  refine p_X2_aim (d := d + 26) x1 I J (t := o) ho ?_
  exact p_X2_list_2 x1 x2 o.2.1 o.2.2 h hC
theorem p_X2_list_0 {L : Nat} {xs : Nat → Int32} {d : Nat} {Q : xO → Prop} (x1 : Int32) (x2 : Int32) (I : xI) (J : xJ) {t : Int32 × xI × xJ} (h : f_X2_list_0 x1 x2 I J = some t) (hC : (c_X2_list Q) t) : Rn L xs (d + 28) 29 0 [some (.ref 51), some (.int x1), some (.int x2), none] [] 94 (I, J, xrf) Q := by
  unfold f_X2_list_0 at h
  refine Rn.go 8 (j' := 29) (pc' := 16) (ls' := [some (.ref 51), some (.int x1), some (.int x2), none]) (st' := [.int x2, .int ((I 1 0)), .ref 4, .ref 51]) (n' := 94) (M' := (I, J, xrf)) (fun f => rfl) ?_
  obtain ⟨o, ho, h⟩ := Option.bind_eq_some_iff.mp h
  refine Rn.call (d1 := d + 27) (j1 := 26) (ls1 := [some (.ref 51), some (.ref 4), some (.int ((I 1 0))), some (.int x2), none, none]) (rest := []) (fun f => rfl) ?_
  refine p_X2_look_4 (d := d + 25) ((I 1 0)) x2 I J (t := o) ho ?_
  exact p_X2_list_1 x1 x2 o.2.1 o.2.2 h hC
theorem p_X2_list {L : Nat} {xs : Nat → Int32} {d : Nat} {Q : xO → Prop} (x1 : Int32) (x2 : Int32) (I : xI) (J : xJ) {t : Int32 × xI × xJ} (h : f_X2_list x1 x2 I J = some t) (hC : Q ((some (.int t.1)), 94, (t.2.1, t.2.2, xrf))) : Rn L xs (d + 28) 29 0 [some (.ref 51), some (.int x1), some (.int x2), none] [] 94 (I, J, xrf) Q := p_X2_list_0 x1 x2 I J h hC
/-! X11_cube -/
def c_X11_cube (Q : xO → Prop) (t : Int32 × xI × xJ) : Prop := Q ((some (.int t.1)), 94, (t.2.1, t.2.2, xrf))
def f_X11_cube_4 (x1 : Int32) (x2 : Int32) (x3 : Int32) (I : xI) (J : xJ) : Option (Int32 × xI × xJ) := some ((-1), I, J)
def f_X11_cube_15 (x1 : Int32) (x2 : Int32) (x3 : Int32) (x4 : Int32) (s0 : Int32) (I : xI) (J : xJ) : Option (Int32 × xI × xJ) := some (s0, I, J)
def f_X11_cube_14 (x1 : Int32) (x2 : Int32) (x3 : Int32) (x4 : Int32) (I : xI) (J : xJ) : Option (Int32 × xI × xJ) := f_X11_cube_15 x1 x2 x3 x4 ((-1)) I J
def f_X11_cube_13 (x1 : Int32) (x2 : Int32) (x3 : Int32) (x4 : Int32) (I : xI) (J : xJ) : Option (Int32 × xI × xJ) := if x3 < 0 ∨ 8 ≤ x3.toNatClampNeg then none else f_X11_cube_15 x1 x2 x3 x4 ((I 55 x3.toNatClampNeg)) I J
def f_X11_cube_12 (x1 : Int32) (x2 : Int32) (x3 : Int32) (x4 : Int32) (I : xI) (J : xJ) : Option (Int32 × xI × xJ) := if x4 ≤ x3 then f_X11_cube_14 x1 x2 x3 x4 I J else f_X11_cube_13 x1 x2 x3 x4 I J
def f_X11_cube_11 (x1 : Int32) (x2 : Int32) (x3 : Int32) (x4 : Int32) (I : xI) (J : xJ) : Option (Int32 × xI × xJ) := if x3 < 0 then f_X11_cube_14 x1 x2 x3 x4 I J else f_X11_cube_12 x1 x2 x3 x4 I J
def f_X11_cube_10 (x1 : Int32) (x2 : Int32) (x3 : Int32) (x4 : Int32) (I : xI) (J : xJ) : Option (Int32 × xI × xJ) := some (x4, I, J)
def f_X11_cube_9 (x1 : Int32) (x2 : Int32) (x3 : Int32) (s0 : Int32) (I : xI) (J : xJ) : Option (Int32 × xI × xJ) := if x3 = (-1) then f_X11_cube_10 x1 x2 x3 s0 I J else f_X11_cube_11 x1 x2 x3 s0 I J
def f_X11_cube_8 (x1 : Int32) (x2 : Int32) (x3 : Int32) (I : xI) (J : xJ) : Option (Int32 × xI × xJ) := (f_X2_list x1 x2 I J).bind fun o => f_X11_cube_9 x1 x2 x3 o.1 o.2.1 o.2.2
def f_X11_cube_7 (x1 : Int32) (x2 : Int32) (x3 : Int32) (I : xI) (J : xJ) : Option (Int32 × xI × xJ) := some ((-2), I, J)
def f_X11_cube_6 (x1 : Int32) (x2 : Int32) (x3 : Int32) (s0 : Int32) (I : xI) (J : xJ) : Option (Int32 × xI × xJ) := if s0 = 0 then f_X11_cube_7 x1 x2 x3 I J else f_X11_cube_8 x1 x2 x3 I J
def f_X11_cube_5 (x1 : Int32) (x2 : Int32) (x3 : Int32) (I : xI) (J : xJ) : Option (Int32 × xI × xJ) := (f_X5_isProper I J).bind fun o => f_X11_cube_6 x1 x2 x3 o.1 o.2.1 o.2.2
def f_X11_cube_3 (x1 : Int32) (x2 : Int32) (x3 : Int32) (s0 : Int32) (I : xI) (J : xJ) : Option (Int32 × xI × xJ) := if s0 = 0 then f_X11_cube_4 x1 x2 x3 I J else f_X11_cube_5 x1 x2 x3 I J
def f_X11_cube_2 (x1 : Int32) (x2 : Int32) (x3 : Int32) (I : xI) (J : xJ) : Option (Int32 × xI × xJ) := (f_X5_hasInput x2 I J).bind fun o => f_X11_cube_3 x1 x2 x3 o.1 o.2.1 o.2.2
def f_X11_cube_1 (x1 : Int32) (x2 : Int32) (x3 : Int32) (s0 : Int32) (I : xI) (J : xJ) : Option (Int32 × xI × xJ) := if s0 = 0 then f_X11_cube_4 x1 x2 x3 I J else f_X11_cube_2 x1 x2 x3 I J
def f_X11_cube_0 (x1 : Int32) (x2 : Int32) (x3 : Int32) (I : xI) (J : xJ) : Option (Int32 × xI × xJ) := (f_X5_hasBit x1 I J).bind fun o => f_X11_cube_1 x1 x2 x3 o.1 o.2.1 o.2.2
def f_X11_cube (x1 : Int32) (x2 : Int32) (x3 : Int32) (I : xI) (J : xJ) : Option (Int32 × xI × xJ) := f_X11_cube_0 x1 x2 x3 I J
theorem p_X11_cube_4 {L : Nat} {xs : Nat → Int32} {d : Nat} {Q : xO → Prop} (x1 : Int32) (x2 : Int32) (x3 : Int32) (I : xI) (J : xJ) {t : Int32 × xI × xJ} (h : f_X11_cube_4 x1 x2 x3 I J = some t) (hC : (c_X11_cube Q) t) : Rn L xs (d + 29) 169 22 [some (.ref 0), some (.int x1), some (.int x2), some (.int x3), none] [] 94 (I, J, xrf) Q := by
  unfold f_X11_cube_4 at h
  cases h
  exact Rn.ret 2 (o := ((some (.int ((-1)))), 94, (I, J, xrf))) (fun f => rfl) hC
theorem p_X11_cube_15 {L : Nat} {xs : Nat → Int32} {d : Nat} {Q : xO → Prop} (x1 : Int32) (x2 : Int32) (x3 : Int32) (x4 : Int32) (s0 : Int32) (I : xI) (J : xJ) {t : Int32 × xI × xJ} (h : f_X11_cube_15 x1 x2 x3 x4 s0 I J = some t) (hC : (c_X11_cube Q) t) : Rn L xs (d + 29) 169 79 [some (.ref 0), some (.int x1), some (.int x2), some (.int x3), some (.int x4)] [.int s0] 94 (I, J, xrf) Q := by
  unfold f_X11_cube_15 at h
  cases h
  exact Rn.ret 1 (o := ((some (.int s0)), 94, (I, J, xrf))) (fun f => rfl) hC
theorem p_X11_cube_14 {L : Nat} {xs : Nat → Int32} {d : Nat} {Q : xO → Prop} (x1 : Int32) (x2 : Int32) (x3 : Int32) (x4 : Int32) (I : xI) (J : xJ) {t : Int32 × xI × xJ} (h : f_X11_cube_14 x1 x2 x3 x4 I J = some t) (hC : (c_X11_cube Q) t) : Rn L xs (d + 29) 169 78 [some (.ref 0), some (.int x1), some (.int x2), some (.int x3), some (.int x4)] [] 94 (I, J, xrf) Q := by
  unfold f_X11_cube_14 at h
  refine Rn.go 1 (j' := 169) (pc' := 79) (ls' := [some (.ref 0), some (.int x1), some (.int x2), some (.int x3), some (.int x4)]) (st' := [.int ((-1))]) (n' := 94) (M' := (I, J, xrf)) (fun f => rfl) ?_
  exact p_X11_cube_15 x1 x2 x3 x4 ((-1)) I J h hC
theorem p_X11_cube_13 {L : Nat} {xs : Nat → Int32} {d : Nat} {Q : xO → Prop} (x1 : Int32) (x2 : Int32) (x3 : Int32) (x4 : Int32) (I : xI) (J : xJ) {t : Int32 × xI × xJ} (h : f_X11_cube_13 x1 x2 x3 x4 I J = some t) (hC : (c_X11_cube Q) t) : Rn L xs (d + 29) 169 66 [some (.ref 0), some (.int x1), some (.int x2), some (.int x3), some (.int x4)] [] 94 (I, J, xrf) Q := by
  unfold f_X11_cube_13 at h
  obtain ⟨hc, h⟩ := xif h
  refine Rn.ok 5 (c := x3 < 0 ∨ 8 ≤ x3.toNatClampNeg) (p1 := 75) (l1 := [some (.ref 0), some (.int x1), some (.int x2), some (.int x3), some (.int x4)]) (s1 := [.int ((I 55 x3.toNatClampNeg))]) (n1 := 94) (M1 := (I, J, xrf)) (fun f => rfl) hc ?_
  refine Rn.go 1 (j' := 169) (pc' := 79) (ls' := [some (.ref 0), some (.int x1), some (.int x2), some (.int x3), some (.int x4)]) (st' := [.int ((I 55 x3.toNatClampNeg))]) (n' := 94) (M' := (I, J, xrf)) (fun f => rfl) ?_
  exact p_X11_cube_15 x1 x2 x3 x4 ((I 55 x3.toNatClampNeg)) I J h hC
theorem p_X11_cube_12 {L : Nat} {xs : Nat → Int32} {d : Nat} {Q : xO → Prop} (x1 : Int32) (x2 : Int32) (x3 : Int32) (x4 : Int32) (I : xI) (J : xJ) {t : Int32 × xI × xJ} (h : f_X11_cube_12 x1 x2 x3 x4 I J = some t) (hC : (c_X11_cube Q) t) : Rn L xs (d + 29) 169 60 [some (.ref 0), some (.int x1), some (.int x2), some (.int x3), some (.int x4)] [] 94 (I, J, xrf) Q := by
  unfold f_X11_cube_12 at h
  refine Rn.fi 3 (c := x4 ≤ x3) (p1 := 78) (l1 := [some (.ref 0), some (.int x1), some (.int x2), some (.int x3), some (.int x4)]) (s1 := []) (n1 := 94) (M1 := (I, J, xrf)) (p2 := 66) (l2 := [some (.ref 0), some (.int x1), some (.int x2), some (.int x3), some (.int x4)]) (s2 := []) (n2 := 94) (M2 := (I, J, xrf)) (fun f => rfl) (fun hc => ?_) (fun hc => ?_)
  · rw [if_pos hc] at h
    exact p_X11_cube_14 x1 x2 x3 x4 I J h hC
  · rw [if_neg hc] at h
    exact p_X11_cube_13 x1 x2 x3 x4 I J h hC
theorem p_X11_cube_11 {L : Nat} {xs : Nat → Int32} {d : Nat} {Q : xO → Prop} (x1 : Int32) (x2 : Int32) (x3 : Int32) (x4 : Int32) (I : xI) (J : xJ) {t : Int32 × xI × xJ} (h : f_X11_cube_11 x1 x2 x3 x4 I J = some t) (hC : (c_X11_cube Q) t) : Rn L xs (d + 29) 169 56 [some (.ref 0), some (.int x1), some (.int x2), some (.int x3), some (.int x4)] [] 94 (I, J, xrf) Q := by
  unfold f_X11_cube_11 at h
  refine Rn.fi 2 (c := x3 < 0) (p1 := 78) (l1 := [some (.ref 0), some (.int x1), some (.int x2), some (.int x3), some (.int x4)]) (s1 := []) (n1 := 94) (M1 := (I, J, xrf)) (p2 := 60) (l2 := [some (.ref 0), some (.int x1), some (.int x2), some (.int x3), some (.int x4)]) (s2 := []) (n2 := 94) (M2 := (I, J, xrf)) (fun f => rfl) (fun hc => ?_) (fun hc => ?_)
  · rw [if_pos hc] at h
    exact p_X11_cube_14 x1 x2 x3 x4 I J h hC
  · rw [if_neg hc] at h
    exact p_X11_cube_12 x1 x2 x3 x4 I J h hC
theorem p_X11_cube_10 {L : Nat} {xs : Nat → Int32} {d : Nat} {Q : xO → Prop} (x1 : Int32) (x2 : Int32) (x3 : Int32) (x4 : Int32) (I : xI) (J : xJ) {t : Int32 × xI × xJ} (h : f_X11_cube_10 x1 x2 x3 x4 I J = some t) (hC : (c_X11_cube Q) t) : Rn L xs (d + 29) 169 53 [some (.ref 0), some (.int x1), some (.int x2), some (.int x3), some (.int x4)] [] 94 (I, J, xrf) Q := by
  unfold f_X11_cube_10 at h
  cases h
  exact Rn.ret 2 (o := ((some (.int x4)), 94, (I, J, xrf))) (fun f => rfl) hC
theorem p_X11_cube_9 {L : Nat} {xs : Nat → Int32} {d : Nat} {Q : xO → Prop} (x1 : Int32) (x2 : Int32) (x3 : Int32) (s0 : Int32) (I : xI) (J : xJ) {t : Int32 × xI × xJ} (h : f_X11_cube_9 x1 x2 x3 s0 I J = some t) (hC : (c_X11_cube Q) t) : Rn L xs (d + 29) 169 46 [some (.ref 0), some (.int x1), some (.int x2), some (.int x3), none] [.int s0] 94 (I, J, xrf) Q := by
  unfold f_X11_cube_9 at h
  refine Rn.fi 4 (c := x3 = (-1)) (p1 := 53) (l1 := [some (.ref 0), some (.int x1), some (.int x2), some (.int x3), some (.int s0)]) (s1 := []) (n1 := 94) (M1 := (I, J, xrf)) (p2 := 56) (l2 := [some (.ref 0), some (.int x1), some (.int x2), some (.int x3), some (.int s0)]) (s2 := []) (n2 := 94) (M2 := (I, J, xrf)) (fun f => rfl) (fun hc => ?_) (fun hc => ?_)
  · rw [if_pos hc] at h
    exact p_X11_cube_10 x1 x2 x3 s0 I J h hC
  · rw [if_neg hc] at h
    exact p_X11_cube_11 x1 x2 x3 s0 I J h hC
theorem p_X11_cube_8 {L : Nat} {xs : Nat → Int32} {d : Nat} {Q : xO → Prop} (x1 : Int32) (x2 : Int32) (x3 : Int32) (I : xI) (J : xJ) {t : Int32 × xI × xJ} (h : f_X11_cube_8 x1 x2 x3 I J = some t) (hC : (c_X11_cube Q) t) : Rn L xs (d + 29) 169 37 [some (.ref 0), some (.int x1), some (.int x2), some (.int x3), none] [] 94 (I, J, xrf) Q := by
  unfold f_X11_cube_8 at h
  refine Rn.go 4 (j' := 169) (pc' := 43) (ls' := [some (.ref 0), some (.int x1), some (.int x2), some (.int x3), none]) (st' := [.int x2, .int x1, .ref 51]) (n' := 94) (M' := (I, J, xrf)) (fun f => rfl) ?_
  obtain ⟨o, ho, h⟩ := Option.bind_eq_some_iff.mp h
  refine Rn.call (d1 := d + 28) (j1 := 29) (ls1 := [some (.ref 51), some (.int x1), some (.int x2), none]) (rest := []) (fun f => rfl) ?_
  refine p_X2_list (d := d + 0) x1 x2 I J (t := o) ho ?_
  exact p_X11_cube_9 x1 x2 x3 o.1 o.2.1 o.2.2 h hC
theorem p_X11_cube_7 {L : Nat} {xs : Nat → Int32} {d : Nat} {Q : xO → Prop} (x1 : Int32) (x2 : Int32) (x3 : Int32) (I : xI) (J : xJ) {t : Int32 × xI × xJ} (h : f_X11_cube_7 x1 x2 x3 I J = some t) (hC : (c_X11_cube Q) t) : Rn L xs (d + 29) 169 34 [some (.ref 0), some (.int x1), some (.int x2), some (.int x3), none] [] 94 (I, J, xrf) Q := by
  unfold f_X11_cube_7 at h
  cases h
  exact Rn.ret 2 (o := ((some (.int ((-2)))), 94, (I, J, xrf))) (fun f => rfl) hC
theorem p_X11_cube_6 {L : Nat} {xs : Nat → Int32} {d : Nat} {Q : xO → Prop} (x1 : Int32) (x2 : Int32) (x3 : Int32) (s0 : Int32) (I : xI) (J : xJ) {t : Int32 × xI × xJ} (h : f_X11_cube_6 x1 x2 x3 s0 I J = some t) (hC : (c_X11_cube Q) t) : Rn L xs (d + 29) 169 31 [some (.ref 0), some (.int x1), some (.int x2), some (.int x3), none] [.int s0] 94 (I, J, xrf) Q := by
  unfold f_X11_cube_6 at h
  refine Rn.fi 1 (c := s0 = 0) (p1 := 34) (l1 := [some (.ref 0), some (.int x1), some (.int x2), some (.int x3), none]) (s1 := []) (n1 := 94) (M1 := (I, J, xrf)) (p2 := 37) (l2 := [some (.ref 0), some (.int x1), some (.int x2), some (.int x3), none]) (s2 := []) (n2 := 94) (M2 := (I, J, xrf)) (fun f => rfl) (fun hc => ?_) (fun hc => ?_)
  · rw [if_pos hc] at h
    exact p_X11_cube_7 x1 x2 x3 I J h hC
  · rw [if_neg hc] at h
    exact p_X11_cube_8 x1 x2 x3 I J h hC
theorem p_X11_cube_5 {L : Nat} {xs : Nat → Int32} {d : Nat} {Q : xO → Prop} (x1 : Int32) (x2 : Int32) (x3 : Int32) (I : xI) (J : xJ) {t : Int32 × xI × xJ} (h : f_X11_cube_5 x1 x2 x3 I J = some t) (hC : (c_X11_cube Q) t) : Rn L xs (d + 29) 169 24 [some (.ref 0), some (.int x1), some (.int x2), some (.int x3), none] [] 94 (I, J, xrf) Q := by
  unfold f_X11_cube_5 at h
  refine Rn.go 2 (j' := 169) (pc' := 28) (ls' := [some (.ref 0), some (.int x1), some (.int x2), some (.int x3), none]) (st' := [.ref 1]) (n' := 94) (M' := (I, J, xrf)) (fun f => rfl) ?_
  obtain ⟨o, ho, h⟩ := Option.bind_eq_some_iff.mp h
  refine Rn.call (d1 := d + 28) (j1 := 63) (ls1 := [some (.ref 1), none, none]) (rest := []) (fun f => rfl) ?_
  refine p_X5_isProper (d := d + 26) I J (t := o) ho ?_
  exact p_X11_cube_6 x1 x2 x3 o.1 o.2.1 o.2.2 h hC
theorem p_X11_cube_3 {L : Nat} {xs : Nat → Int32} {d : Nat} {Q : xO → Prop} (x1 : Int32) (x2 : Int32) (x3 : Int32) (s0 : Int32) (I : xI) (J : xJ) {t : Int32 × xI × xJ} (h : f_X11_cube_3 x1 x2 x3 s0 I J = some t) (hC : (c_X11_cube Q) t) : Rn L xs (d + 29) 169 19 [some (.ref 0), some (.int x1), some (.int x2), some (.int x3), none] [.int s0] 94 (I, J, xrf) Q := by
  unfold f_X11_cube_3 at h
  refine Rn.fi 1 (c := s0 = 0) (p1 := 22) (l1 := [some (.ref 0), some (.int x1), some (.int x2), some (.int x3), none]) (s1 := []) (n1 := 94) (M1 := (I, J, xrf)) (p2 := 24) (l2 := [some (.ref 0), some (.int x1), some (.int x2), some (.int x3), none]) (s2 := []) (n2 := 94) (M2 := (I, J, xrf)) (fun f => rfl) (fun hc => ?_) (fun hc => ?_)
  · rw [if_pos hc] at h
    exact p_X11_cube_4 x1 x2 x3 I J h hC
  · rw [if_neg hc] at h
    exact p_X11_cube_5 x1 x2 x3 I J h hC
theorem p_X11_cube_2 {L : Nat} {xs : Nat → Int32} {d : Nat} {Q : xO → Prop} (x1 : Int32) (x2 : Int32) (x3 : Int32) (I : xI) (J : xJ) {t : Int32 × xI × xJ} (h : f_X11_cube_2 x1 x2 x3 I J = some t) (hC : (c_X11_cube Q) t) : Rn L xs (d + 29) 169 11 [some (.ref 0), some (.int x1), some (.int x2), some (.int x3), none] [] 94 (I, J, xrf) Q := by
  unfold f_X11_cube_2 at h
  refine Rn.go 3 (j' := 169) (pc' := 16) (ls' := [some (.ref 0), some (.int x1), some (.int x2), some (.int x3), none]) (st' := [.int x2, .ref 1]) (n' := 94) (M' := (I, J, xrf)) (fun f => rfl) ?_
  obtain ⟨o, ho, h⟩ := Option.bind_eq_some_iff.mp h
  refine Rn.call (d1 := d + 28) (j1 := 52) (ls1 := [some (.ref 1), some (.int x2)]) (rest := []) (fun f => rfl) ?_
  refine p_X5_hasInput (d := d + 27) x2 I J (t := o) ho ?_
  exact p_X11_cube_3 x1 x2 x3 o.1 o.2.1 o.2.2 h hC
theorem p_X11_cube_1 {L : Nat} {xs : Nat → Int32} {d : Nat} {Q : xO → Prop} (x1 : Int32) (x2 : Int32) (x3 : Int32) (s0 : Int32) (I : xI) (J : xJ) {t : Int32 × xI × xJ} (h : f_X11_cube_1 x1 x2 x3 s0 I J = some t) (hC : (c_X11_cube Q) t) : Rn L xs (d + 29) 169 8 [some (.ref 0), some (.int x1), some (.int x2), some (.int x3), none] [.int s0] 94 (I, J, xrf) Q := by
  unfold f_X11_cube_1 at h
  refine Rn.fi 1 (c := s0 = 0) (p1 := 22) (l1 := [some (.ref 0), some (.int x1), some (.int x2), some (.int x3), none]) (s1 := []) (n1 := 94) (M1 := (I, J, xrf)) (p2 := 11) (l2 := [some (.ref 0), some (.int x1), some (.int x2), some (.int x3), none]) (s2 := []) (n2 := 94) (M2 := (I, J, xrf)) (fun f => rfl) (fun hc => ?_) (fun hc => ?_)
  · rw [if_pos hc] at h
    exact p_X11_cube_4 x1 x2 x3 I J h hC
  · rw [if_neg hc] at h
    exact p_X11_cube_2 x1 x2 x3 I J h hC
theorem p_X11_cube_0 {L : Nat} {xs : Nat → Int32} {d : Nat} {Q : xO → Prop} (x1 : Int32) (x2 : Int32) (x3 : Int32) (I : xI) (J : xJ) {t : Int32 × xI × xJ} (h : f_X11_cube_0 x1 x2 x3 I J = some t) (hC : (c_X11_cube Q) t) : Rn L xs (d + 29) 169 0 [some (.ref 0), some (.int x1), some (.int x2), some (.int x3), none] [] 94 (I, J, xrf) Q := by
  unfold f_X11_cube_0 at h
  refine Rn.go 3 (j' := 169) (pc' := 5) (ls' := [some (.ref 0), some (.int x1), some (.int x2), some (.int x3), none]) (st' := [.int x1, .ref 1]) (n' := 94) (M' := (I, J, xrf)) (fun f => rfl) ?_
  obtain ⟨o, ho, h⟩ := Option.bind_eq_some_iff.mp h
  refine Rn.call (d1 := d + 28) (j1 := 54) (ls1 := [some (.ref 1), some (.int x1)]) (rest := []) (fun f => rfl) ?_
  refine p_X5_hasBit (d := d + 26) x1 I J (t := o) ho ?_
  exact p_X11_cube_1 x1 x2 x3 o.1 o.2.1 o.2.2 h hC
theorem p_X11_cube {L : Nat} {xs : Nat → Int32} {d : Nat} {Q : xO → Prop} (x1 : Int32) (x2 : Int32) (x3 : Int32) (I : xI) (J : xJ) {t : Int32 × xI × xJ} (h : f_X11_cube x1 x2 x3 I J = some t) (hC : Q ((some (.int t.1)), 94, (t.2.1, t.2.2, xrf))) : Rn L xs (d + 29) 169 0 [some (.ref 0), some (.int x1), some (.int x2), some (.int x3), none] [] 94 (I, J, xrf) Q := p_X11_cube_0 x1 x2 x3 I J h hC
/-! X2_total_4 -/
def c_X2_total_4 (Q : xO → Prop) (t : Int32 × xI × xJ) : Prop := Q ((some (.int t.1)), 94, (t.2.1, t.2.2, xrf))
def c_X2_total_4_1 (L : Nat) (xs : Nat → Int32) (d : Nat) (Q : xO → Prop) (t : (Int32 × Int32 × Int32 × Int32 × (Option Value) × xI × xJ) ⊕ (Int32 × xI × xJ)) : Prop := match t with
  | .inl s => Rn L xs (d + 15) 31 6 [some (.ref 51), some (.ref 4), some (.int s.1), some (.int s.2.1), some (.int s.2.2.1), some (.int s.2.2.2.1), s.2.2.2.2.1] [] 94 (s.2.2.2.2.2.1, s.2.2.2.2.2.2, xrf) Q
  | .inr t => (c_X2_total_4 Q) t
def c_X2_total_4_5 (L : Nat) (xs : Nat → Int32) (d : Nat) (Q : xO → Prop) (t : (Int32 × Int32 × Int32 × Int32 × Int32 × xI × xJ) ⊕ ((Int32 × Int32 × Int32 × Int32 × (Option Value) × xI × xJ) ⊕ (Int32 × xI × xJ))) : Prop := match t with
  | .inl s => Rn L xs (d + 15) 31 35 [some (.ref 51), some (.ref 4), some (.int s.1), some (.int s.2.1), some (.int s.2.2.1), some (.int s.2.2.2.1), some (.int s.2.2.2.2.1)] [] 94 (s.2.2.2.2.2.1, s.2.2.2.2.2.2, xrf) Q
  | .inr t => (c_X2_total_4_1 L xs d Q) t
def f_X2_total_4_12 (x2 : Int32) (x3 : Int32) (x4 : Int32) (x5 : Int32) (z6 : Option Value) (I : xI) (J : xJ) : Option (Int32 × xI × xJ) := some (x4, I, J)
def f_X2_total_4_11 (x2 : Int32) (x3 : Int32) (x4 : Int32) (x5 : Int32) (x6 : Int32) (I : xI) (J : xJ) : Option ((Int32 × Int32 × Int32 × Int32 × (Option Value) × xI × xJ) ⊕ (Int32 × xI × xJ)) := some (.inl (x2, x3, x4, ((x5 + 1)), (some (.int x6)), I, J))
def f_X2_total_4_10 (x2 : Int32) (x3 : Int32) (x4 : Int32) (x5 : Int32) (x6 : Int32) (s0 : Int32) (s1 : Int32) (I : xI) (J : xJ) : Option ((Int32 × Int32 × Int32 × Int32 × Int32 × xI × xJ) ⊕ ((Int32 × Int32 × Int32 × Int32 × (Option Value) × xI × xJ) ⊕ (Int32 × xI × xJ))) := some (.inl (x2, x3, ((s0 + s1)), x5, ((x6 + 1)), I, J))
def f_X2_total_4_9 (x2 : Int32) (x3 : Int32) (x4 : Int32) (x5 : Int32) (x6 : Int32) (I : xI) (J : xJ) : Option ((Int32 × Int32 × Int32 × Int32 × Int32 × xI × xJ) ⊕ ((Int32 × Int32 × Int32 × Int32 × (Option Value) × xI × xJ) ⊕ (Int32 × xI × xJ))) := (f_X2_least 12 ((I 51 7)) 0 I J).bind fun o => f_X2_total_4_10 x2 x3 x4 x5 x6 x4 o.1 o.2.1 o.2.2
def f_X2_total_4_8 (x2 : Int32) (x3 : Int32) (x4 : Int32) (x5 : Int32) (x6 : Int32) (I : xI) (J : xJ) : Option ((Int32 × Int32 × Int32 × Int32 × Int32 × xI × xJ) ⊕ ((Int32 × Int32 × Int32 × Int32 × (Option Value) × xI × xJ) ⊕ (Int32 × xI × xJ))) := (f_X2_aim x6 I J).bind fun o => f_X2_total_4_9 x2 x3 x4 x5 x6 o.2.1 o.2.2
def f_X2_total_4_7 (x2 : Int32) (x3 : Int32) (x4 : Int32) (x5 : Int32) (x6 : Int32) (I : xI) (J : xJ) : Option ((Int32 × Int32 × Int32 × Int32 × Int32 × xI × xJ) ⊕ ((Int32 × Int32 × Int32 × Int32 × (Option Value) × xI × xJ) ⊕ (Int32 × xI × xJ))) := if x3 ≤ x4 then ((f_X2_total_4_11 x2 x3 x4 x5 x6 I J)).map .inr else f_X2_total_4_8 x2 x3 x4 x5 x6 I J
def f_X2_total_4_6 (x2 : Int32) (x3 : Int32) (x4 : Int32) (x5 : Int32) (x6 : Int32) (s0 : Int32) (s1 : Int32) (I : xI) (J : xJ) : Option ((Int32 × Int32 × Int32 × Int32 × Int32 × xI × xJ) ⊕ ((Int32 × Int32 × Int32 × Int32 × (Option Value) × xI × xJ) ⊕ (Int32 × xI × xJ))) := if s1 ≤ s0 then ((f_X2_total_4_11 x2 x3 x4 x5 x6 I J)).map .inr else f_X2_total_4_7 x2 x3 x4 x5 x6 I J
def b_X2_total_4_5 (x2 : Int32) (x3 : Int32) (x4 : Int32) (x5 : Int32) (x6 : Int32) (I : xI) (J : xJ) : Option ((Int32 × Int32 × Int32 × Int32 × Int32 × xI × xJ) ⊕ ((Int32 × Int32 × Int32 × Int32 × (Option Value) × xI × xJ) ⊕ (Int32 × xI × xJ))) := (f_X5_bits I J).bind fun o => f_X2_total_4_6 x2 x3 x4 x5 x6 x6 o.1 o.2.1 o.2.2
def f_X2_total_4_5 (x2 : Int32) (x3 : Int32) (x4 : Int32) (x5 : Int32) (x6 : Int32) (I : xI) (J : xJ) : Option ((Int32 × Int32 × Int32 × Int32 × (Option Value) × xI × xJ) ⊕ (Int32 × xI × xJ)) := xloop (fun s : Int32 × Int32 × Int32 × Int32 × Int32 × xI × xJ => b_X2_total_4_5 s.1 s.2.1 s.2.2.1 s.2.2.2.1 s.2.2.2.2.1 s.2.2.2.2.2.1 s.2.2.2.2.2.2) 5000 (x2, x3, x4, x5, x6, I, J)
def f_X2_total_4_4 (x2 : Int32) (x3 : Int32) (x4 : Int32) (x5 : Int32) (z6 : Option Value) (I : xI) (J : xJ) : Option ((Int32 × Int32 × Int32 × Int32 × (Option Value) × xI × xJ) ⊕ (Int32 × xI × xJ)) := f_X2_total_4_5 x2 x3 x4 x5 0 I J
def f_X2_total_4_3 (x2 : Int32) (x3 : Int32) (x4 : Int32) (x5 : Int32) (z6 : Option Value) (I : xI) (J : xJ) : Option ((Int32 × Int32 × Int32 × Int32 × (Option Value) × xI × xJ) ⊕ (Int32 × xI × xJ)) := (f_X2_look_4 x2 x5 I J).bind fun o => f_X2_total_4_4 x2 x3 x4 x5 z6 o.2.1 o.2.2
def f_X2_total_4_2 (x2 : Int32) (x3 : Int32) (x4 : Int32) (x5 : Int32) (z6 : Option Value) (I : xI) (J : xJ) : Option ((Int32 × Int32 × Int32 × Int32 × (Option Value) × xI × xJ) ⊕ (Int32 × xI × xJ)) := if x3 ≤ x4 then ((f_X2_total_4_12 x2 x3 x4 x5 z6 I J)).map .inr else f_X2_total_4_3 x2 x3 x4 x5 z6 I J
def b_X2_total_4_1 (x2 : Int32) (x3 : Int32) (x4 : Int32) (x5 : Int32) (z6 : Option Value) (I : xI) (J : xJ) : Option ((Int32 × Int32 × Int32 × Int32 × (Option Value) × xI × xJ) ⊕ (Int32 × xI × xJ)) := if (I 1 1) ≤ x5 then ((f_X2_total_4_12 x2 x3 x4 x5 z6 I J)).map .inr else f_X2_total_4_2 x2 x3 x4 x5 z6 I J
def f_X2_total_4_1 (x2 : Int32) (x3 : Int32) (x4 : Int32) (x5 : Int32) (z6 : Option Value) (I : xI) (J : xJ) : Option (Int32 × xI × xJ) := xloop (fun s : Int32 × Int32 × Int32 × Int32 × (Option Value) × xI × xJ => b_X2_total_4_1 s.1 s.2.1 s.2.2.1 s.2.2.2.1 s.2.2.2.2.1 s.2.2.2.2.2.1 s.2.2.2.2.2.2) 5000 (x2, x3, x4, x5, z6, I, J)
def f_X2_total_4_0 (x2 : Int32) (x3 : Int32) (I : xI) (J : xJ) : Option (Int32 × xI × xJ) := f_X2_total_4_1 x2 x3 0 0 none I J
def f_X2_total_4 (x2 : Int32) (x3 : Int32) (I : xI) (J : xJ) : Option (Int32 × xI × xJ) := f_X2_total_4_0 x2 x3 I J
theorem p_X2_total_4_12 {L : Nat} {xs : Nat → Int32} {d : Nat} {Q : xO → Prop} (x2 : Int32) (x3 : Int32) (x4 : Int32) (x5 : Int32) (z6 : Option Value) (I : xI) (J : xJ) {t : Int32 × xI × xJ} (h : f_X2_total_4_12 x2 x3 x4 x5 z6 I J = some t) (hC : (c_X2_total_4 Q) t) : Rn L xs (d + 15) 31 85 [some (.ref 51), some (.ref 4), some (.int x2), some (.int x3), some (.int x4), some (.int x5), z6] [] 94 (I, J, xrf) Q := by
  unfold f_X2_total_4_12 at h
  cases h
  exact Rn.ret 2 (o := ((some (.int x4)), 94, (I, J, xrf))) (fun f => rfl) hC
theorem p_X2_total_4_11 {L : Nat} {xs : Nat → Int32} {d : Nat} {Q : xO → Prop} (x2 : Int32) (x3 : Int32) (x4 : Int32) (x5 : Int32) (x6 : Int32) (I : xI) (J : xJ) {t : (Int32 × Int32 × Int32 × Int32 × (Option Value) × xI × xJ) ⊕ (Int32 × xI × xJ)} (h : f_X2_total_4_11 x2 x3 x4 x5 x6 I J = some t) (hC : (c_X2_total_4_1 L xs d Q) t) : Rn L xs (d + 15) 31 79 [some (.ref 51), some (.ref 4), some (.int x2), some (.int x3), some (.int x4), some (.int x5), some (.int x6)] [] 94 (I, J, xrf) Q := by
  unfold f_X2_total_4_11 at h
  refine Rn.go 2 (j' := 31) (pc' := 6) (ls' := [some (.ref 51), some (.ref 4), some (.int x2), some (.int x3), some (.int x4), some (.int ((x5 + 1))), some (.int x6)]) (st' := []) (n' := 94) (M' := (I, J, xrf)) (fun f => rfl) ?_
  cases h; exact hC
theorem p_X2_total_4_10 {L : Nat} {xs : Nat → Int32} {d : Nat} {Q : xO → Prop} (x2 : Int32) (x3 : Int32) (x4 : Int32) (x5 : Int32) (x6 : Int32) (s0 : Int32) (s1 : Int32) (I : xI) (J : xJ) {t : (Int32 × Int32 × Int32 × Int32 × Int32 × xI × xJ) ⊕ ((Int32 × Int32 × Int32 × Int32 × (Option Value) × xI × xJ) ⊕ (Int32 × xI × xJ))} (h : f_X2_total_4_10 x2 x3 x4 x5 x6 s0 s1 I J = some t) (hC : (c_X2_total_4_5 L xs d Q) t) : Rn L xs (d + 15) 31 70 [some (.ref 51), some (.ref 4), some (.int x2), some (.int x3), some (.int x4), some (.int x5), some (.int x6)] [.int s1, .int s0] 94 (I, J, xrf) Q := by
  unfold f_X2_total_4_10 at h
  refine Rn.go 4 (j' := 31) (pc' := 35) (ls' := [some (.ref 51), some (.ref 4), some (.int x2), some (.int x3), some (.int ((s0 + s1))), some (.int x5), some (.int ((x6 + 1)))]) (st' := []) (n' := 94) (M' := (I, J, xrf)) (fun f => rfl) ?_
  cases h; exact hC
theorem p_X2_total_4_9 {L : Nat} {xs : Nat → Int32} {d : Nat} {Q : xO → Prop} (x2 : Int32) (x3 : Int32) (x4 : Int32) (x5 : Int32) (x6 : Int32) (I : xI) (J : xJ) {t : (Int32 × Int32 × Int32 × Int32 × Int32 × xI × xJ) ⊕ ((Int32 × Int32 × Int32 × Int32 × (Option Value) × xI × xJ) ⊕ (Int32 × xI × xJ))} (h : f_X2_total_4_9 x2 x3 x4 x5 x6 I J = some t) (hC : (c_X2_total_4_5 L xs d Q) t) : Rn L xs (d + 15) 31 59 [some (.ref 51), some (.ref 4), some (.int x2), some (.int x3), some (.int x4), some (.int x5), some (.int x6)] [] 94 (I, J, xrf) Q := by
  unfold f_X2_total_4_9 at h
  refine Rn.go 5 (j' := 31) (pc' := 67) (ls' := [some (.ref 51), some (.ref 4), some (.int x2), some (.int x3), some (.int x4), some (.int x5), some (.int x6)]) (st' := [.int 0, .int ((I 51 7)), .ref 51, .int x4]) (n' := 94) (M' := (I, J, xrf)) (fun f => rfl) ?_
  obtain ⟨o, ho, h⟩ := Option.bind_eq_some_iff.mp h
  refine Rn.call (d1 := d + 14) (j1 := 28) (ls1 := [some (.ref 51), some (.int ((I 51 7))), some (.int 0), none, none, none, none, none]) (rest := [.int x4]) (fun f => rfl) ?_
  refine p_X2_least (d := d + 0) 12 ((I 51 7)) 0 I J (t := o) ho ?_
  exact p_X2_total_4_10 x2 x3 x4 x5 x6 x4 o.1 o.2.1 o.2.2 h hC
theorem p_X2_total_4_8 {L : Nat} {xs : Nat → Int32} {d : Nat} {Q : xO → Prop} (x2 : Int32) (x3 : Int32) (x4 : Int32) (x5 : Int32) (x6 : Int32) (I : xI) (J : xJ) {t : (Int32 × Int32 × Int32 × Int32 × Int32 × xI × xJ) ⊕ ((Int32 × Int32 × Int32 × Int32 × (Option Value) × xI × xJ) ⊕ (Int32 × xI × xJ))} (h : f_X2_total_4_8 x2 x3 x4 x5 x6 I J = some t) (hC : (c_X2_total_4_5 L xs d Q) t) : Rn L xs (d + 15) 31 53 [some (.ref 51), some (.ref 4), some (.int x2), some (.int x3), some (.int x4), some (.int x5), some (.int x6)] [] 94 (I, J, xrf) Q := by
  unfold f_X2_total_4_8 at h
  refine Rn.go 2 (j' := 31) (pc' := 56) (ls' := [some (.ref 51), some (.ref 4), some (.int x2), some (.int x3), some (.int x4), some (.int x5), some (.int x6)]) (st' := [.int x6, .ref 51]) (n' := 94) (M' := (I, J, xrf)) (fun f => rfl) ?_
  obtain ⟨o, ho, h⟩ := Option.bind_eq_some_iff.mp h
  refine Rn.call (d1 := d + 14) (j1 := 27) (ls1 := [some (.ref 51), some (.int x6)]) (rest := []) (fun f => rfl) ?_
  refine p_X2_aim (d := d + 13) x6 I J (t := o) ho ?_
  exact p_X2_total_4_9 x2 x3 x4 x5 x6 o.2.1 o.2.2 h hC
theorem p_X2_total_4_7 {L : Nat} {xs : Nat → Int32} {d : Nat} {Q : xO → Prop} (x2 : Int32) (x3 : Int32) (x4 : Int32) (x5 : Int32) (x6 : Int32) (I : xI) (J : xJ) {t : (Int32 × Int32 × Int32 × Int32 × Int32 × xI × xJ) ⊕ ((Int32 × Int32 × Int32 × Int32 × (Option Value) × xI × xJ) ⊕ (Int32 × xI × xJ))} (h : f_X2_total_4_7 x2 x3 x4 x5 x6 I J = some t) (hC : (c_X2_total_4_5 L xs d Q) t) : Rn L xs (d + 15) 31 47 [some (.ref 51), some (.ref 4), some (.int x2), some (.int x3), some (.int x4), some (.int x5), some (.int x6)] [] 94 (I, J, xrf) Q := by
  unfold f_X2_total_4_7 at h
  refine Rn.fi 3 (c := x3 ≤ x4) (p1 := 79) (l1 := [some (.ref 51), some (.ref 4), some (.int x2), some (.int x3), some (.int x4), some (.int x5), some (.int x6)]) (s1 := []) (n1 := 94) (M1 := (I, J, xrf)) (p2 := 53) (l2 := [some (.ref 51), some (.ref 4), some (.int x2), some (.int x3), some (.int x4), some (.int x5), some (.int x6)]) (s2 := []) (n2 := 94) (M2 := (I, J, xrf)) (fun f => rfl) (fun hc => ?_) (fun hc => ?_)
  · rw [if_pos hc] at h
    obtain ⟨t0, h0, rfl⟩ := Option.map_eq_some_iff.mp h
    exact p_X2_total_4_11 x2 x3 x4 x5 x6 I J h0 hC
  · rw [if_neg hc] at h
    exact p_X2_total_4_8 x2 x3 x4 x5 x6 I J h hC
theorem p_X2_total_4_6 {L : Nat} {xs : Nat → Int32} {d : Nat} {Q : xO → Prop} (x2 : Int32) (x3 : Int32) (x4 : Int32) (x5 : Int32) (x6 : Int32) (s0 : Int32) (s1 : Int32) (I : xI) (J : xJ) {t : (Int32 × Int32 × Int32 × Int32 × Int32 × xI × xJ) ⊕ ((Int32 × Int32 × Int32 × Int32 × (Option Value) × xI × xJ) ⊕ (Int32 × xI × xJ))} (h : f_X2_total_4_6 x2 x3 x4 x5 x6 s0 s1 I J = some t) (hC : (c_X2_total_4_5 L xs d Q) t) : Rn L xs (d + 15) 31 44 [some (.ref 51), some (.ref 4), some (.int x2), some (.int x3), some (.int x4), some (.int x5), some (.int x6)] [.int s1, .int s0] 94 (I, J, xrf) Q := by
  unfold f_X2_total_4_6 at h
  refine Rn.fi 1 (c := s1 ≤ s0) (p1 := 79) (l1 := [some (.ref 51), some (.ref 4), some (.int x2), some (.int x3), some (.int x4), some (.int x5), some (.int x6)]) (s1 := []) (n1 := 94) (M1 := (I, J, xrf)) (p2 := 47) (l2 := [some (.ref 51), some (.ref 4), some (.int x2), some (.int x3), some (.int x4), some (.int x5), some (.int x6)]) (s2 := []) (n2 := 94) (M2 := (I, J, xrf)) (fun f => rfl) (fun hc => ?_) (fun hc => ?_)
  · rw [if_pos hc] at h
    obtain ⟨t0, h0, rfl⟩ := Option.map_eq_some_iff.mp h
    exact p_X2_total_4_11 x2 x3 x4 x5 x6 I J h0 hC
  · rw [if_neg hc] at h
    exact p_X2_total_4_7 x2 x3 x4 x5 x6 I J h hC
theorem q_X2_total_4_5 {L : Nat} {xs : Nat → Int32} {d : Nat} {Q : xO → Prop} (x2 : Int32) (x3 : Int32) (x4 : Int32) (x5 : Int32) (x6 : Int32) (I : xI) (J : xJ) {t : (Int32 × Int32 × Int32 × Int32 × Int32 × xI × xJ) ⊕ ((Int32 × Int32 × Int32 × Int32 × (Option Value) × xI × xJ) ⊕ (Int32 × xI × xJ))} (h : b_X2_total_4_5 x2 x3 x4 x5 x6 I J = some t) (hC : (c_X2_total_4_5 L xs d Q) t) : Rn L xs (d + 15) 31 35 [some (.ref 51), some (.ref 4), some (.int x2), some (.int x3), some (.int x4), some (.int x5), some (.int x6)] [] 94 (I, J, xrf) Q := by
  unfold b_X2_total_4_5 at h
  refine Rn.go 3 (j' := 31) (pc' := 41) (ls' := [some (.ref 51), some (.ref 4), some (.int x2), some (.int x3), some (.int x4), some (.int x5), some (.int x6)]) (st' := [.ref 1, .int x6]) (n' := 94) (M' := (I, J, xrf)) (fun f => rfl) ?_
  obtain ⟨o, ho, h⟩ := Option.bind_eq_some_iff.mp h
  refine Rn.call (d1 := d + 14) (j1 := 62) (ls1 := [some (.ref 1)]) (rest := [.int x6]) (fun f => rfl) ?_
  refine p_X5_bits (d := d + 13) I J (t := o) ho ?_
  exact p_X2_total_4_6 x2 x3 x4 x5 x6 x6 o.1 o.2.1 o.2.2 h hC
theorem p_X2_total_4_5 {L : Nat} {xs : Nat → Int32} {d : Nat} {Q : xO → Prop} (x2 : Int32) (x3 : Int32) (x4 : Int32) (x5 : Int32) (x6 : Int32) (I : xI) (J : xJ) {t : (Int32 × Int32 × Int32 × Int32 × (Option Value) × xI × xJ) ⊕ (Int32 × xI × xJ)} (h : f_X2_total_4_5 x2 x3 x4 x5 x6 I J = some t) (hC : (c_X2_total_4_1 L xs d Q) t) : Rn L xs (d + 15) 31 35 [some (.ref 51), some (.ref 4), some (.int x2), some (.int x3), some (.int x4), some (.int x5), some (.int x6)] [] 94 (I, J, xrf) Q := by
  unfold f_X2_total_4_5 at h
  exact xloop_some (P := fun s : Int32 × Int32 × Int32 × Int32 × Int32 × xI × xJ => Rn L xs (d + 15) 31 35 [some (.ref 51), some (.ref 4), some (.int s.1), some (.int s.2.1), some (.int s.2.2.1), some (.int s.2.2.2.1), some (.int s.2.2.2.2.1)] [] 94 (s.2.2.2.2.2.1, s.2.2.2.2.2.2, xrf) Q) t (fun s ⟨s', hb, hp⟩ => q_X2_total_4_5 s.1 s.2.1 s.2.2.1 s.2.2.2.1 s.2.2.2.2.1 s.2.2.2.2.2.1 s.2.2.2.2.2.2 hb hp) (fun s hb => q_X2_total_4_5 s.1 s.2.1 s.2.2.1 s.2.2.2.1 s.2.2.2.2.1 s.2.2.2.2.2.1 s.2.2.2.2.2.2 hb hC) _ _ h
theorem p_X2_total_4_4 {L : Nat} {xs : Nat → Int32} {d : Nat} {Q : xO → Prop} (x2 : Int32) (x3 : Int32) (x4 : Int32) (x5 : Int32) (z6 : Option Value) (I : xI) (J : xJ) {t : (Int32 × Int32 × Int32 × Int32 × (Option Value) × xI × xJ) ⊕ (Int32 × xI × xJ)} (h : f_X2_total_4_4 x2 x3 x4 x5 z6 I J = some t) (hC : (c_X2_total_4_1 L xs d Q) t) : Rn L xs (d + 15) 31 32 [some (.ref 51), some (.ref 4), some (.int x2), some (.int x3), some (.int x4), some (.int x5), z6] [] 94 (I, J, xrf) Q := by
  unfold f_X2_total_4_4 at h
  refine Rn.go 2 (j' := 31) (pc' := 35) (ls' := [some (.ref 51), some (.ref 4), some (.int x2), some (.int x3), some (.int x4), some (.int x5), some (.int 0)]) (st' := []) (n' := 94) (M' := (I, J, xrf)) (fun f => rfl) ?_
  exact p_X2_total_4_5 x2 x3 x4 x5 0 I J h hC
theorem p_X2_total_4_3 {L : Nat} {xs : Nat → Int32} {d : Nat} {Q : xO → Prop} (x2 : Int32) (x3 : Int32) (x4 : Int32) (x5 : Int32) (z6 : Option Value) (I : xI) (J : xJ) {t : (Int32 × Int32 × Int32 × Int32 × (Option Value) × xI × xJ) ⊕ (Int32 × xI × xJ)} (h : f_X2_total_4_3 x2 x3 x4 x5 z6 I J = some t) (hC : (c_X2_total_4_1 L xs d Q) t) : Rn L xs (d + 15) 31 24 [some (.ref 51), some (.ref 4), some (.int x2), some (.int x3), some (.int x4), some (.int x5), z6] [] 94 (I, J, xrf) Q := by
  unfold f_X2_total_4_3 at h
  refine Rn.go 4 (j' := 31) (pc' := 29) (ls' := [some (.ref 51), some (.ref 4), some (.int x2), some (.int x3), some (.int x4), some (.int x5), z6]) (st' := [.int x5, .int x2, .ref 4, .ref 51]) (n' := 94) (M' := (I, J, xrf)) (fun f => rfl) ?_
  obtain ⟨o, ho, h⟩ := Option.bind_eq_some_iff.mp h
  refine Rn.call (d1 := d + 14) (j1 := 26) (ls1 := [some (.ref 51), some (.ref 4), some (.int x2), some (.int x5), none, none]) (rest := []) (fun f => rfl) ?_
  refine p_X2_look_4 (d := d + 12) x2 x5 I J (t := o) ho ?_
  exact p_X2_total_4_4 x2 x3 x4 x5 z6 o.2.1 o.2.2 h hC
theorem p_X2_total_4_2 {L : Nat} {xs : Nat → Int32} {d : Nat} {Q : xO → Prop} (x2 : Int32) (x3 : Int32) (x4 : Int32) (x5 : Int32) (z6 : Option Value) (I : xI) (J : xJ) {t : (Int32 × Int32 × Int32 × Int32 × (Option Value) × xI × xJ) ⊕ (Int32 × xI × xJ)} (h : f_X2_total_4_2 x2 x3 x4 x5 z6 I J = some t) (hC : (c_X2_total_4_1 L xs d Q) t) : Rn L xs (d + 15) 31 18 [some (.ref 51), some (.ref 4), some (.int x2), some (.int x3), some (.int x4), some (.int x5), z6] [] 94 (I, J, xrf) Q := by
  unfold f_X2_total_4_2 at h
  refine Rn.fi 3 (c := x3 ≤ x4) (p1 := 85) (l1 := [some (.ref 51), some (.ref 4), some (.int x2), some (.int x3), some (.int x4), some (.int x5), z6]) (s1 := []) (n1 := 94) (M1 := (I, J, xrf)) (p2 := 24) (l2 := [some (.ref 51), some (.ref 4), some (.int x2), some (.int x3), some (.int x4), some (.int x5), z6]) (s2 := []) (n2 := 94) (M2 := (I, J, xrf)) (fun f => rfl) (fun hc => ?_) (fun hc => ?_)
  · rw [if_pos hc] at h
    obtain ⟨t0, h0, rfl⟩ := Option.map_eq_some_iff.mp h
    exact p_X2_total_4_12 x2 x3 x4 x5 z6 I J h0 hC
  · rw [if_neg hc] at h
    exact p_X2_total_4_3 x2 x3 x4 x5 z6 I J h hC
theorem q_X2_total_4_1 {L : Nat} {xs : Nat → Int32} {d : Nat} {Q : xO → Prop} (x2 : Int32) (x3 : Int32) (x4 : Int32) (x5 : Int32) (z6 : Option Value) (I : xI) (J : xJ) {t : (Int32 × Int32 × Int32 × Int32 × (Option Value) × xI × xJ) ⊕ (Int32 × xI × xJ)} (h : b_X2_total_4_1 x2 x3 x4 x5 z6 I J = some t) (hC : (c_X2_total_4_1 L xs d Q) t) : Rn L xs (d + 15) 31 6 [some (.ref 51), some (.ref 4), some (.int x2), some (.int x3), some (.int x4), some (.int x5), z6] [] 94 (I, J, xrf) Q := by
  unfold b_X2_total_4_1 at h
  refine Rn.fi 5 (c := (I 1 1) ≤ x5) (p1 := 85) (l1 := [some (.ref 51), some (.ref 4), some (.int x2), some (.int x3), some (.int x4), some (.int x5), z6]) (s1 := []) (n1 := 94) (M1 := (I, J, xrf)) (p2 := 18) (l2 := [some (.ref 51), some (.ref 4), some (.int x2), some (.int x3), some (.int x4), some (.int x5), z6]) (s2 := []) (n2 := 94) (M2 := (I, J, xrf)) (fun f => rfl) (fun hc => ?_) (fun hc => ?_)
  · rw [if_pos hc] at h
    obtain ⟨t0, h0, rfl⟩ := Option.map_eq_some_iff.mp h
    exact p_X2_total_4_12 x2 x3 x4 x5 z6 I J h0 hC
  · rw [if_neg hc] at h
    exact p_X2_total_4_2 x2 x3 x4 x5 z6 I J h hC
theorem p_X2_total_4_1 {L : Nat} {xs : Nat → Int32} {d : Nat} {Q : xO → Prop} (x2 : Int32) (x3 : Int32) (x4 : Int32) (x5 : Int32) (z6 : Option Value) (I : xI) (J : xJ) {t : Int32 × xI × xJ} (h : f_X2_total_4_1 x2 x3 x4 x5 z6 I J = some t) (hC : (c_X2_total_4 Q) t) : Rn L xs (d + 15) 31 6 [some (.ref 51), some (.ref 4), some (.int x2), some (.int x3), some (.int x4), some (.int x5), z6] [] 94 (I, J, xrf) Q := by
  unfold f_X2_total_4_1 at h
  exact xloop_some (P := fun s : Int32 × Int32 × Int32 × Int32 × (Option Value) × xI × xJ => Rn L xs (d + 15) 31 6 [some (.ref 51), some (.ref 4), some (.int s.1), some (.int s.2.1), some (.int s.2.2.1), some (.int s.2.2.2.1), s.2.2.2.2.1] [] 94 (s.2.2.2.2.2.1, s.2.2.2.2.2.2, xrf) Q) t (fun s ⟨s', hb, hp⟩ => q_X2_total_4_1 s.1 s.2.1 s.2.2.1 s.2.2.2.1 s.2.2.2.2.1 s.2.2.2.2.2.1 s.2.2.2.2.2.2 hb hp) (fun s hb => q_X2_total_4_1 s.1 s.2.1 s.2.2.1 s.2.2.2.1 s.2.2.2.2.1 s.2.2.2.2.2.1 s.2.2.2.2.2.2 hb hC) _ _ h
theorem p_X2_total_4_0 {L : Nat} {xs : Nat → Int32} {d : Nat} {Q : xO → Prop} (x2 : Int32) (x3 : Int32) (I : xI) (J : xJ) {t : Int32 × xI × xJ} (h : f_X2_total_4_0 x2 x3 I J = some t) (hC : (c_X2_total_4 Q) t) : Rn L xs (d + 15) 31 0 [some (.ref 51), some (.ref 4), some (.int x2), some (.int x3), none, none, none] [] 94 (I, J, xrf) Q := by
  unfold f_X2_total_4_0 at h
  refine Rn.go 4 (j' := 31) (pc' := 6) (ls' := [some (.ref 51), some (.ref 4), some (.int x2), some (.int x3), some (.int 0), some (.int 0), none]) (st' := []) (n' := 94) (M' := (I, J, xrf)) (fun f => rfl) ?_
  exact p_X2_total_4_1 x2 x3 0 0 none I J h hC
theorem p_X2_total_4 {L : Nat} {xs : Nat → Int32} {d : Nat} {Q : xO → Prop} (x2 : Int32) (x3 : Int32) (I : xI) (J : xJ) {t : Int32 × xI × xJ} (h : f_X2_total_4 x2 x3 I J = some t) (hC : Q ((some (.int t.1)), 94, (t.2.1, t.2.2, xrf))) : Rn L xs (d + 15) 31 0 [some (.ref 51), some (.ref 4), some (.int x2), some (.int x3), none, none, none] [] 94 (I, J, xrf) Q := p_X2_total_4_0 x2 x3 I J h hC
