/-! X12_listsClasses -/
def c_X12_listsClasses (Q : xO → Prop) (t : Unit × xI × xJ) : Prop := Q (none, 94, (t.2.1, t.2.2, xrf))
def c_X12_listsClasses_1 (L : Nat) (xs : Nat → Int32) (d : Nat) (Q : xO → Prop) (t : (Int32 × (Option Value) × (Option Value) × xI × xJ) ⊕ (Unit × xI × xJ)) : Prop := match t with
  | .inl s => Rn L xs (d + 3) 234 12 [some (.ref 61), some (.int s.1), s.2.1, s.2.2.1] [] 94 (s.2.2.2.1, s.2.2.2.2, xrf) Q
  | .inr t => (c_X12_listsClasses Q) t
def c_X12_listsClasses_6 (L : Nat) (xs : Nat → Int32) (d : Nat) (Q : xO → Prop) (t : (Int32 × Int32 × Int32 × xI × xJ) ⊕ ((Int32 × (Option Value) × (Option Value) × xI × xJ) ⊕ (Unit × xI × xJ))) : Prop := match t with
  | .inl s => Rn L xs (d + 3) 234 57 [some (.ref 61), some (.int s.1), some (.int s.2.1), some (.int s.2.2.1)] [] 94 (s.2.2.2.1, s.2.2.2.2, xrf) Q
  | .inr t => (c_X12_listsClasses_1 L xs d Q) t
def f_X12_listsClasses_16 (x1 : Int32) (z2 : Option Value) (z3 : Option Value) (I : xI) (J : xJ) : Option (Unit × xI × xJ) := some ((), I, J)
def f_X12_listsClasses_15 (x1 : Int32) (z2 : Option Value) (z3 : Option Value) (I : xI) (J : xJ) : Option ((Int32 × (Option Value) × (Option Value) × xI × xJ) ⊕ (Unit × xI × xJ)) := some (.inl (((x1 + 1)), z2, z3, I, J))
def f_X12_listsClasses_14 (x1 : Int32) (x2 : Int32) (x3 : Int32) (I : xI) (J : xJ) : Option ((Int32 × (Option Value) × (Option Value) × xI × xJ) ⊕ (Unit × xI × xJ)) := if (I 61 35) < 0 ∨ 63 ≤ ((I 61 35)).toNatClampNeg then none else f_X12_listsClasses_15 x1 (some (.int x2)) (some (.int x3)) ((xup ((xup I 78 ((I 61 35)).toNatClampNeg x1)) 61 35 (((((xup I 78 ((I 61 35)).toNatClampNeg x1)) 61 35) + 1)))) J
def f_X12_listsClasses_13 (x1 : Int32) (x2 : Int32) (x3 : Int32) (I : xI) (J : xJ) : Option ((Int32 × (Option Value) × (Option Value) × xI × xJ) ⊕ (Unit × xI × xJ)) := if x2 = 0 then f_X12_listsClasses_14 x1 x2 x3 I J else f_X12_listsClasses_15 x1 (some (.int x2)) (some (.int x3)) I J
def f_X12_listsClasses_12 (x1 : Int32) (x2 : Int32) (x3 : Int32) (I : xI) (J : xJ) : Option ((Int32 × Int32 × Int32 × xI × xJ) ⊕ ((Int32 × (Option Value) × (Option Value) × xI × xJ) ⊕ (Unit × xI × xJ))) := some (.inl (x1, x2, ((x3 + 1)), I, J))
def f_X12_listsClasses_11 (x1 : Int32) (x2 : Int32) (x3 : Int32) (I : xI) (J : xJ) : Option ((Int32 × Int32 × Int32 × xI × xJ) ⊕ ((Int32 × (Option Value) × (Option Value) × xI × xJ) ⊕ (Unit × xI × xJ))) := f_X12_listsClasses_12 x1 1 x3 I J
def f_X12_listsClasses_10 (x1 : Int32) (x2 : Int32) (x3 : Int32) (s0 : Int32) (I : xI) (J : xJ) : Option ((Int32 × Int32 × Int32 × xI × xJ) ⊕ ((Int32 × (Option Value) × (Option Value) × xI × xJ) ⊕ (Unit × xI × xJ))) := if s0 = 0 then f_X12_listsClasses_12 x1 x2 x3 I J else f_X12_listsClasses_11 x1 x2 x3 I J
def f_X12_listsClasses_9 (x1 : Int32) (x2 : Int32) (x3 : Int32) (I : xI) (J : xJ) : Option ((Int32 × Int32 × Int32 × xI × xJ) ⊕ ((Int32 × (Option Value) × (Option Value) × xI × xJ) ⊕ (Unit × xI × xJ))) := (f_X12_isAlike ((x1 ||| (1 <<< (x3 &&& 31)))) I J).bind fun o => f_X12_listsClasses_10 x1 x2 x3 o.1 o.2.1 o.2.2
def f_X12_listsClasses_8 (x1 : Int32) (x2 : Int32) (x3 : Int32) (s0 : Int32) (I : xI) (J : xJ) : Option ((Int32 × Int32 × Int32 × xI × xJ) ⊕ ((Int32 × (Option Value) × (Option Value) × xI × xJ) ⊕ (Unit × xI × xJ))) := if s0 = 0 then f_X12_listsClasses_9 x1 x2 x3 I J else f_X12_listsClasses_12 x1 x2 x3 I J
def f_X12_listsClasses_7 (x1 : Int32) (x2 : Int32) (x3 : Int32) (I : xI) (J : xJ) : Option ((Int32 × Int32 × Int32 × xI × xJ) ⊕ ((Int32 × (Option Value) × (Option Value) × xI × xJ) ⊕ (Unit × xI × xJ))) := (f_X12_has x1 x3 I J).bind fun o => f_X12_listsClasses_8 x1 x2 x3 o.1 o.2.1 o.2.2
def b_X12_listsClasses_6 (x1 : Int32) (x2 : Int32) (x3 : Int32) (I : xI) (J : xJ) : Option ((Int32 × Int32 × Int32 × xI × xJ) ⊕ ((Int32 × (Option Value) × (Option Value) × xI × xJ) ⊕ (Unit × xI × xJ))) := if (I 61 17) ≤ x3 then ((f_X12_listsClasses_13 x1 x2 x3 I J)).map .inr else f_X12_listsClasses_7 x1 x2 x3 I J
def f_X12_listsClasses_6 (x1 : Int32) (x2 : Int32) (x3 : Int32) (I : xI) (J : xJ) : Option ((Int32 × (Option Value) × (Option Value) × xI × xJ) ⊕ (Unit × xI × xJ)) := xloop (fun s : Int32 × Int32 × Int32 × xI × xJ => b_X12_listsClasses_6 s.1 s.2.1 s.2.2.1 s.2.2.2.1 s.2.2.2.2) 5000 (x1, x2, x3, I, J)
def f_X12_listsClasses_5 (x1 : Int32) (z2 : Option Value) (z3 : Option Value) (I : xI) (J : xJ) : Option ((Int32 × (Option Value) × (Option Value) × xI × xJ) ⊕ (Unit × xI × xJ)) := if (I 61 33) < 0 ∨ 63 ≤ ((I 61 33)).toNatClampNeg then none else f_X12_listsClasses_6 x1 0 0 ((xup ((xup I 77 ((I 61 33)).toNatClampNeg x1)) 61 33 (((((xup I 77 ((I 61 33)).toNatClampNeg x1)) 61 33) + 1)))) J
def f_X12_listsClasses_4 (x1 : Int32) (z2 : Option Value) (z3 : Option Value) (I : xI) (J : xJ) : Option ((Int32 × (Option Value) × (Option Value) × xI × xJ) ⊕ (Unit × xI × xJ)) := f_X12_listsClasses_15 x1 z2 z3 I J
def f_X12_listsClasses_3 (x1 : Int32) (z2 : Option Value) (z3 : Option Value) (s0 : Int32) (I : xI) (J : xJ) : Option ((Int32 × (Option Value) × (Option Value) × xI × xJ) ⊕ (Unit × xI × xJ)) := if s0 = 0 then f_X12_listsClasses_4 x1 z2 z3 I J else f_X12_listsClasses_5 x1 z2 z3 I J
def f_X12_listsClasses_2 (x1 : Int32) (z2 : Option Value) (z3 : Option Value) (I : xI) (J : xJ) : Option ((Int32 × (Option Value) × (Option Value) × xI × xJ) ⊕ (Unit × xI × xJ)) := (f_X12_isAlike x1 I J).bind fun o => f_X12_listsClasses_3 x1 z2 z3 o.1 o.2.1 o.2.2
def b_X12_listsClasses_1 (x1 : Int32) (z2 : Option Value) (z3 : Option Value) (I : xI) (J : xJ) : Option ((Int32 × (Option Value) × (Option Value) × xI × xJ) ⊕ (Unit × xI × xJ)) := if (1 <<< ((I 61 17) &&& 31)) ≤ x1 then ((f_X12_listsClasses_16 x1 z2 z3 I J)).map .inr else f_X12_listsClasses_2 x1 z2 z3 I J
def f_X12_listsClasses_1 (x1 : Int32) (z2 : Option Value) (z3 : Option Value) (I : xI) (J : xJ) : Option (Unit × xI × xJ) := xloop (fun s : Int32 × (Option Value) × (Option Value) × xI × xJ => b_X12_listsClasses_1 s.1 s.2.1 s.2.2.1 s.2.2.2.1 s.2.2.2.2) 5000 (x1, z2, z3, I, J)
def f_X12_listsClasses_0 (I : xI) (J : xJ) : Option (Unit × xI × xJ) := f_X12_listsClasses_1 1 none none ((xup ((xup I 61 33 0)) 61 35 0)) J
def f_X12_listsClasses (I : xI) (J : xJ) : Option (Unit × xI × xJ) := f_X12_listsClasses_0 I J
theorem p_X12_listsClasses_16 {L : Nat} {xs : Nat → Int32} {d : Nat} {Q : xO → Prop} (x1 : Int32) (z2 : Option Value) (z3 : Option Value) (I : xI) (J : xJ) {t : Unit × xI × xJ} (h : f_X12_listsClasses_16 x1 z2 z3 I J = some t) (hC : (c_X12_listsClasses Q) t) : Rn L xs (d + 3) 234 123 [some (.ref 61), some (.int x1), z2, z3] [] 94 (I, J, xrf) Q := by
  unfold f_X12_listsClasses_16 at h
  cases h
  exact Rn.ret 1 (o := (none, 94, (I, J, xrf))) (fun f => rfl) hC
theorem p_X12_listsClasses_15 {L : Nat} {xs : Nat → Int32} {d : Nat} {Q : xO → Prop} (x1 : Int32) (z2 : Option Value) (z3 : Option Value) (I : xI) (J : xJ) {t : (Int32 × (Option Value) × (Option Value) × xI × xJ) ⊕ (Unit × xI × xJ)} (h : f_X12_listsClasses_15 x1 z2 z3 I J = some t) (hC : (c_X12_listsClasses_1 L xs d Q) t) : Rn L xs (d + 3) 234 117 [some (.ref 61), some (.int x1), z2, z3] [] 94 (I, J, xrf) Q := by
  unfold f_X12_listsClasses_15 at h
  refine Rn.go 2 (j' := 234) (pc' := 12) (ls' := [some (.ref 61), some (.int ((x1 + 1))), z2, z3]) (st' := []) (n' := 94) (M' := (I, J, xrf)) (fun f => rfl) ?_
  cases h; exact hC
theorem p_X12_listsClasses_14 {L : Nat} {xs : Nat → Int32} {d : Nat} {Q : xO → Prop} (x1 : Int32) (x2 : Int32) (x3 : Int32) (I : xI) (J : xJ) {t : (Int32 × (Option Value) × (Option Value) × xI × xJ) ⊕ (Unit × xI × xJ)} (h : f_X12_listsClasses_14 x1 x2 x3 I J = some t) (hC : (c_X12_listsClasses_1 L xs d Q) t) : Rn L xs (d + 3) 234 97 [some (.ref 61), some (.int x1), some (.int x2), some (.int x3)] [] 94 (I, J, xrf) Q := by
  unfold f_X12_listsClasses_14 at h
  obtain ⟨hc, h⟩ := xif h
  refine Rn.ok 6 (c := (I 61 35) < 0 ∨ 63 ≤ ((I 61 35)).toNatClampNeg) (p1 := 107) (l1 := [some (.ref 61), some (.int x1), some (.int x2), some (.int x3)]) (s1 := []) (n1 := 94) (M1 := ((xup I 78 ((I 61 35)).toNatClampNeg x1), J, xrf)) (fun f => rfl) hc ?_
  refine Rn.go 6 (j' := 234) (pc' := 117) (ls' := [some (.ref 61), some (.int x1), some (.int x2), some (.int x3)]) (st' := []) (n' := 94) (M' := ((xup ((xup I 78 ((I 61 35)).toNatClampNeg x1)) 61 35 (((((xup I 78 ((I 61 35)).toNatClampNeg x1)) 61 35) + 1))), J, xrf)) (fun f => rfl) ?_
  exact p_X12_listsClasses_15 x1 (some (.int x2)) (some (.int x3)) ((xup ((xup I 78 ((I 61 35)).toNatClampNeg x1)) 61 35 (((((xup I 78 ((I 61 35)).toNatClampNeg x1)) 61 35) + 1)))) J h hC
theorem p_X12_listsClasses_13 {L : Nat} {xs : Nat → Int32} {d : Nat} {Q : xO → Prop} (x1 : Int32) (x2 : Int32) (x3 : Int32) (I : xI) (J : xJ) {t : (Int32 × (Option Value) × (Option Value) × xI × xJ) ⊕ (Unit × xI × xJ)} (h : f_X12_listsClasses_13 x1 x2 x3 I J = some t) (hC : (c_X12_listsClasses_1 L xs d Q) t) : Rn L xs (d + 3) 234 93 [some (.ref 61), some (.int x1), some (.int x2), some (.int x3)] [] 94 (I, J, xrf) Q := by
  unfold f_X12_listsClasses_13 at h
  refine Rn.fi 2 (c := x2 = 0) (p1 := 97) (l1 := [some (.ref 61), some (.int x1), some (.int x2), some (.int x3)]) (s1 := []) (n1 := 94) (M1 := (I, J, xrf)) (p2 := 117) (l2 := [some (.ref 61), some (.int x1), some (.int x2), some (.int x3)]) (s2 := []) (n2 := 94) (M2 := (I, J, xrf)) (fun f => rfl) (fun hc => ?_) (fun hc => ?_)
  · rw [if_pos hc] at h
    exact p_X12_listsClasses_14 x1 x2 x3 I J h hC
  · rw [if_neg hc] at h
    exact p_X12_listsClasses_15 x1 (some (.int x2)) (some (.int x3)) I J h hC
theorem p_X12_listsClasses_12 {L : Nat} {xs : Nat → Int32} {d : Nat} {Q : xO → Prop} (x1 : Int32) (x2 : Int32) (x3 : Int32) (I : xI) (J : xJ) {t : (Int32 × Int32 × Int32 × xI × xJ) ⊕ ((Int32 × (Option Value) × (Option Value) × xI × xJ) ⊕ (Unit × xI × xJ))} (h : f_X12_listsClasses_12 x1 x2 x3 I J = some t) (hC : (c_X12_listsClasses_6 L xs d Q) t) : Rn L xs (d + 3) 234 87 [some (.ref 61), some (.int x1), some (.int x2), some (.int x3)] [] 94 (I, J, xrf) Q := by
  unfold f_X12_listsClasses_12 at h
  refine Rn.go 2 (j' := 234) (pc' := 57) (ls' := [some (.ref 61), some (.int x1), some (.int x2), some (.int ((x3 + 1)))]) (st' := []) (n' := 94) (M' := (I, J, xrf)) (fun f => rfl) ?_
  cases h; exact hC
theorem p_X12_listsClasses_11 {L : Nat} {xs : Nat → Int32} {d : Nat} {Q : xO → Prop} (x1 : Int32) (x2 : Int32) (x3 : Int32) (I : xI) (J : xJ) {t : (Int32 × Int32 × Int32 × xI × xJ) ⊕ ((Int32 × (Option Value) × (Option Value) × xI × xJ) ⊕ (Unit × xI × xJ))} (h : f_X12_listsClasses_11 x1 x2 x3 I J = some t) (hC : (c_X12_listsClasses_6 L xs d Q) t) : Rn L xs (d + 3) 234 85 [some (.ref 61), some (.int x1), some (.int x2), some (.int x3)] [] 94 (I, J, xrf) Q := by
  unfold f_X12_listsClasses_11 at h
  refine Rn.go 2 (j' := 234) (pc' := 87) (ls' := [some (.ref 61), some (.int x1), some (.int 1), some (.int x3)]) (st' := []) (n' := 94) (M' := (I, J, xrf)) (fun f => rfl) ?_
  exact p_X12_listsClasses_12 x1 1 x3 I J h hC
theorem p_X12_listsClasses_10 {L : Nat} {xs : Nat → Int32} {d : Nat} {Q : xO → Prop} (x1 : Int32) (x2 : Int32) (x3 : Int32) (s0 : Int32) (I : xI) (J : xJ) {t : (Int32 × Int32 × Int32 × xI × xJ) ⊕ ((Int32 × (Option Value) × (Option Value) × xI × xJ) ⊕ (Unit × xI × xJ))} (h : f_X12_listsClasses_10 x1 x2 x3 s0 I J = some t) (hC : (c_X12_listsClasses_6 L xs d Q) t) : Rn L xs (d + 3) 234 82 [some (.ref 61), some (.int x1), some (.int x2), some (.int x3)] [.int s0] 94 (I, J, xrf) Q := by
  unfold f_X12_listsClasses_10 at h
  refine Rn.fi 1 (c := s0 = 0) (p1 := 87) (l1 := [some (.ref 61), some (.int x1), some (.int x2), some (.int x3)]) (s1 := []) (n1 := 94) (M1 := (I, J, xrf)) (p2 := 85) (l2 := [some (.ref 61), some (.int x1), some (.int x2), some (.int x3)]) (s2 := []) (n2 := 94) (M2 := (I, J, xrf)) (fun f => rfl) (fun hc => ?_) (fun hc => ?_)
  · rw [if_pos hc] at h
    exact p_X12_listsClasses_12 x1 x2 x3 I J h hC
  · rw [if_neg hc] at h
    exact p_X12_listsClasses_11 x1 x2 x3 I J h hC
theorem p_X12_listsClasses_9 {L : Nat} {xs : Nat → Int32} {d : Nat} {Q : xO → Prop} (x1 : Int32) (x2 : Int32) (x3 : Int32) (I : xI) (J : xJ) {t : (Int32 × Int32 × Int32 × xI × xJ) ⊕ ((Int32 × (Option Value) × (Option Value) × xI × xJ) ⊕ (Unit × xI × xJ))} (h : f_X12_listsClasses_9 x1 x2 x3 I J = some t) (hC : (c_X12_listsClasses_6 L xs d Q) t) : Rn L xs (d + 3) 234 73 [some (.ref 61), some (.int x1), some (.int x2), some (.int x3)] [] 94 (I, J, xrf) Q := by
  unfold f_X12_listsClasses_9 at h
  refine Rn.go 6 (j' := 234) (pc' := 79) (ls' := [some (.ref 61), some (.int x1), some (.int x2), some (.int x3)]) (st' := [.int ((x1 ||| (1 <<< (x3 &&& 31)))), .ref 61]) (n' := 94) (M' := (I, J, xrf)) (fun f => rfl) ?_
  obtain ⟨o, ho, h⟩ := Option.bind_eq_some_iff.mp h
  refine Rn.call (d1 := d + 2) (j1 := 233) (ls1 := [some (.ref 61), some (.int ((x1 ||| (1 <<< (x3 &&& 31))))), none, none]) (rest := []) (fun f => rfl) ?_
  refine p_X12_isAlike (d := d + 0) ((x1 ||| (1 <<< (x3 &&& 31)))) I J (t := o) ho ?_
  exact p_X12_listsClasses_10 x1 x2 x3 o.1 o.2.1 o.2.2 h hC
theorem p_X12_listsClasses_8 {L : Nat} {xs : Nat → Int32} {d : Nat} {Q : xO → Prop} (x1 : Int32) (x2 : Int32) (x3 : Int32) (s0 : Int32) (I : xI) (J : xJ) {t : (Int32 × Int32 × Int32 × xI × xJ) ⊕ ((Int32 × (Option Value) × (Option Value) × xI × xJ) ⊕ (Unit × xI × xJ))} (h : f_X12_listsClasses_8 x1 x2 x3 s0 I J = some t) (hC : (c_X12_listsClasses_6 L xs d Q) t) : Rn L xs (d + 3) 234 70 [some (.ref 61), some (.int x1), some (.int x2), some (.int x3)] [.int s0] 94 (I, J, xrf) Q := by
  unfold f_X12_listsClasses_8 at h
  refine Rn.fi 1 (c := s0 = 0) (p1 := 73) (l1 := [some (.ref 61), some (.int x1), some (.int x2), some (.int x3)]) (s1 := []) (n1 := 94) (M1 := (I, J, xrf)) (p2 := 87) (l2 := [some (.ref 61), some (.int x1), some (.int x2), some (.int x3)]) (s2 := []) (n2 := 94) (M2 := (I, J, xrf)) (fun f => rfl) (fun hc => ?_) (fun hc => ?_)
  · rw [if_pos hc] at h
    exact p_X12_listsClasses_9 x1 x2 x3 I J h hC
  · rw [if_neg hc] at h
    exact p_X12_listsClasses_12 x1 x2 x3 I J h hC
theorem p_X12_listsClasses_7 {L : Nat} {xs : Nat → Int32} {d : Nat} {Q : xO → Prop} (x1 : Int32) (x2 : Int32) (x3 : Int32) (I : xI) (J : xJ) {t : (Int32 × Int32 × Int32 × xI × xJ) ⊕ ((Int32 × (Option Value) × (Option Value) × xI × xJ) ⊕ (Unit × xI × xJ))} (h : f_X12_listsClasses_7 x1 x2 x3 I J = some t) (hC : (c_X12_listsClasses_6 L xs d Q) t) : Rn L xs (d + 3) 234 65 [some (.ref 61), some (.int x1), some (.int x2), some (.int x3)] [] 94 (I, J, xrf) Q := by
  unfold f_X12_listsClasses_7 at h
  refine Rn.go 2 (j' := 234) (pc' := 67) (ls' := [some (.ref 61), some (.int x1), some (.int x2), some (.int x3)]) (st' := [.int x3, .int x1]) (n' := 94) (M' := (I, J, xrf)) (fun f => rfl) ?_
  obtain ⟨o, ho, h⟩ := Option.bind_eq_some_iff.mp h
  refine Rn.call (d1 := d + 2) (j1 := 214) (ls1 := [some (.int x1), some (.int x3)]) (rest := []) (fun f => rfl) ?_
  refine p_X12_has (d := d + 1) x1 x3 I J (t := o) ho ?_
  exact p_X12_listsClasses_8 x1 x2 x3 o.1 o.2.1 o.2.2 h hC
theorem q_X12_listsClasses_6 {L : Nat} {xs : Nat → Int32} {d : Nat} {Q : xO → Prop} (x1 : Int32) (x2 : Int32) (x3 : Int32) (I : xI) (J : xJ) {t : (Int32 × Int32 × Int32 × xI × xJ) ⊕ ((Int32 × (Option Value) × (Option Value) × xI × xJ) ⊕ (Unit × xI × xJ))} (h : b_X12_listsClasses_6 x1 x2 x3 I J = some t) (hC : (c_X12_listsClasses_6 L xs d Q) t) : Rn L xs (d + 3) 234 57 [some (.ref 61), some (.int x1), some (.int x2), some (.int x3)] [] 94 (I, J, xrf) Q := by
  unfold b_X12_listsClasses_6 at h
  refine Rn.fi 4 (c := (I 61 17) ≤ x3) (p1 := 93) (l1 := [some (.ref 61), some (.int x1), some (.int x2), some (.int x3)]) (s1 := []) (n1 := 94) (M1 := (I, J, xrf)) (p2 := 65) (l2 := [some (.ref 61), some (.int x1), some (.int x2), some (.int x3)]) (s2 := []) (n2 := 94) (M2 := (I, J, xrf)) (fun f => rfl) (fun hc => ?_) (fun hc => ?_)
  · rw [if_pos hc] at h
    obtain ⟨t0, h0, rfl⟩ := Option.map_eq_some_iff.mp h
    exact p_X12_listsClasses_13 x1 x2 x3 I J h0 hC
  · rw [if_neg hc] at h
    exact p_X12_listsClasses_7 x1 x2 x3 I J h hC
theorem p_X12_listsClasses_6 {L : Nat} {xs : Nat → Int32} {d : Nat} {Q : xO → Prop} (x1 : Int32) (x2 : Int32) (x3 : Int32) (I : xI) (J : xJ) {t : (Int32 × (Option Value) × (Option Value) × xI × xJ) ⊕ (Unit × xI × xJ)} (h : f_X12_listsClasses_6 x1 x2 x3 I J = some t) (hC : (c_X12_listsClasses_1 L xs d Q) t) : Rn L xs (d + 3) 234 57 [some (.ref 61), some (.int x1), some (.int x2), some (.int x3)] [] 94 (I, J, xrf) Q := by
  unfold f_X12_listsClasses_6 at h
  exact xloop_some (P := fun s : Int32 × Int32 × Int32 × xI × xJ => Rn L xs (d + 3) 234 57 [some (.ref 61), some (.int s.1), some (.int s.2.1), some (.int s.2.2.1)] [] 94 (s.2.2.2.1, s.2.2.2.2, xrf) Q) t (fun s ⟨s', hb, hp⟩ => q_X12_listsClasses_6 s.1 s.2.1 s.2.2.1 s.2.2.2.1 s.2.2.2.2 hb hp) (fun s hb => q_X12_listsClasses_6 s.1 s.2.1 s.2.2.1 s.2.2.2.1 s.2.2.2.2 hb hC) _ _ h
theorem p_X12_listsClasses_5 {L : Nat} {xs : Nat → Int32} {d : Nat} {Q : xO → Prop} (x1 : Int32) (z2 : Option Value) (z3 : Option Value) (I : xI) (J : xJ) {t : (Int32 × (Option Value) × (Option Value) × xI × xJ) ⊕ (Unit × xI × xJ)} (h : f_X12_listsClasses_5 x1 z2 z3 I J = some t) (hC : (c_X12_listsClasses_1 L xs d Q) t) : Rn L xs (d + 3) 234 33 [some (.ref 61), some (.int x1), z2, z3] [] 94 (I, J, xrf) Q := by
  unfold f_X12_listsClasses_5 at h
  obtain ⟨hc, h⟩ := xif h
  refine Rn.ok 6 (c := (I 61 33) < 0 ∨ 63 ≤ ((I 61 33)).toNatClampNeg) (p1 := 43) (l1 := [some (.ref 61), some (.int x1), z2, z3]) (s1 := []) (n1 := 94) (M1 := ((xup I 77 ((I 61 33)).toNatClampNeg x1), J, xrf)) (fun f => rfl) hc ?_
  refine Rn.go 10 (j' := 234) (pc' := 57) (ls' := [some (.ref 61), some (.int x1), some (.int 0), some (.int 0)]) (st' := []) (n' := 94) (M' := ((xup ((xup I 77 ((I 61 33)).toNatClampNeg x1)) 61 33 (((((xup I 77 ((I 61 33)).toNatClampNeg x1)) 61 33) + 1))), J, xrf)) (fun f => rfl) ?_
  exact p_X12_listsClasses_6 x1 0 0 ((xup ((xup I 77 ((I 61 33)).toNatClampNeg x1)) 61 33 (((((xup I 77 ((I 61 33)).toNatClampNeg x1)) 61 33) + 1)))) J h hC
theorem p_X12_listsClasses_4 {L : Nat} {xs : Nat → Int32} {d : Nat} {Q : xO → Prop} (x1 : Int32) (z2 : Option Value) (z3 : Option Value) (I : xI) (J : xJ) {t : (Int32 × (Option Value) × (Option Value) × xI × xJ) ⊕ (Unit × xI × xJ)} (h : f_X12_listsClasses_4 x1 z2 z3 I J = some t) (hC : (c_X12_listsClasses_1 L xs d Q) t) : Rn L xs (d + 3) 234 30 [some (.ref 61), some (.int x1), z2, z3] [] 94 (I, J, xrf) Q := by
  unfold f_X12_listsClasses_4 at h
  refine Rn.go 1 (j' := 234) (pc' := 117) (ls' := [some (.ref 61), some (.int x1), z2, z3]) (st' := []) (n' := 94) (M' := (I, J, xrf)) (fun f => rfl) ?_
  exact p_X12_listsClasses_15 x1 z2 z3 I J h hC
theorem p_X12_listsClasses_3 {L : Nat} {xs : Nat → Int32} {d : Nat} {Q : xO → Prop} (x1 : Int32) (z2 : Option Value) (z3 : Option Value) (s0 : Int32) (I : xI) (J : xJ) {t : (Int32 × (Option Value) × (Option Value) × xI × xJ) ⊕ (Unit × xI × xJ)} (h : f_X12_listsClasses_3 x1 z2 z3 s0 I J = some t) (hC : (c_X12_listsClasses_1 L xs d Q) t) : Rn L xs (d + 3) 234 27 [some (.ref 61), some (.int x1), z2, z3] [.int s0] 94 (I, J, xrf) Q := by
  unfold f_X12_listsClasses_3 at h
  refine Rn.fi 1 (c := s0 = 0) (p1 := 30) (l1 := [some (.ref 61), some (.int x1), z2, z3]) (s1 := []) (n1 := 94) (M1 := (I, J, xrf)) (p2 := 33) (l2 := [some (.ref 61), some (.int x1), z2, z3]) (s2 := []) (n2 := 94) (M2 := (I, J, xrf)) (fun f => rfl) (fun hc => ?_) (fun hc => ?_)
  · rw [if_pos hc] at h
    exact p_X12_listsClasses_4 x1 z2 z3 I J h hC
  · rw [if_neg hc] at h
    exact p_X12_listsClasses_5 x1 z2 z3 I J h hC
theorem p_X12_listsClasses_2 {L : Nat} {xs : Nat → Int32} {d : Nat} {Q : xO → Prop} (x1 : Int32) (z2 : Option Value) (z3 : Option Value) (I : xI) (J : xJ) {t : (Int32 × (Option Value) × (Option Value) × xI × xJ) ⊕ (Unit × xI × xJ)} (h : f_X12_listsClasses_2 x1 z2 z3 I J = some t) (hC : (c_X12_listsClasses_1 L xs d Q) t) : Rn L xs (d + 3) 234 22 [some (.ref 61), some (.int x1), z2, z3] [] 94 (I, J, xrf) Q := by
  unfold f_X12_listsClasses_2 at h
  refine Rn.go 2 (j' := 234) (pc' := 24) (ls' := [some (.ref 61), some (.int x1), z2, z3]) (st' := [.int x1, .ref 61]) (n' := 94) (M' := (I, J, xrf)) (fun f => rfl) ?_
  obtain ⟨o, ho, h⟩ := Option.bind_eq_some_iff.mp h
  refine Rn.call (d1 := d + 2) (j1 := 233) (ls1 := [some (.ref 61), some (.int x1), none, none]) (rest := []) (fun f => rfl) ?_
  refine p_X12_isAlike (d := d + 0) x1 I J (t := o) ho ?_
  exact p_X12_listsClasses_3 x1 z2 z3 o.1 o.2.1 o.2.2 h hC
theorem q_X12_listsClasses_1 {L : Nat} {xs : Nat → Int32} {d : Nat} {Q : xO → Prop} (x1 : Int32) (z2 : Option Value) (z3 : Option Value) (I : xI) (J : xJ) {t : (Int32 × (Option Value) × (Option Value) × xI × xJ) ⊕ (Unit × xI × xJ)} (h : b_X12_listsClasses_1 x1 z2 z3 I J = some t) (hC : (c_X12_listsClasses_1 L xs d Q) t) : Rn L xs (d + 3) 234 12 [some (.ref 61), some (.int x1), z2, z3] [] 94 (I, J, xrf) Q := by
  unfold b_X12_listsClasses_1 at h
  refine Rn.fi 6 (c := (1 <<< ((I 61 17) &&& 31)) ≤ x1) (p1 := 123) (l1 := [some (.ref 61), some (.int x1), z2, z3]) (s1 := []) (n1 := 94) (M1 := (I, J, xrf)) (p2 := 22) (l2 := [some (.ref 61), some (.int x1), z2, z3]) (s2 := []) (n2 := 94) (M2 := (I, J, xrf)) (fun f => rfl) (fun hc => ?_) (fun hc => ?_)
  · rw [if_pos hc] at h
    obtain ⟨t0, h0, rfl⟩ := Option.map_eq_some_iff.mp h
    exact p_X12_listsClasses_16 x1 z2 z3 I J h0 hC
  · rw [if_neg hc] at h
    exact p_X12_listsClasses_2 x1 z2 z3 I J h hC
theorem p_X12_listsClasses_1 {L : Nat} {xs : Nat → Int32} {d : Nat} {Q : xO → Prop} (x1 : Int32) (z2 : Option Value) (z3 : Option Value) (I : xI) (J : xJ) {t : Unit × xI × xJ} (h : f_X12_listsClasses_1 x1 z2 z3 I J = some t) (hC : (c_X12_listsClasses Q) t) : Rn L xs (d + 3) 234 12 [some (.ref 61), some (.int x1), z2, z3] [] 94 (I, J, xrf) Q := by
  unfold f_X12_listsClasses_1 at h
  exact xloop_some (P := fun s : Int32 × (Option Value) × (Option Value) × xI × xJ => Rn L xs (d + 3) 234 12 [some (.ref 61), some (.int s.1), s.2.1, s.2.2.1] [] 94 (s.2.2.2.1, s.2.2.2.2, xrf) Q) t (fun s ⟨s', hb, hp⟩ => q_X12_listsClasses_1 s.1 s.2.1 s.2.2.1 s.2.2.2.1 s.2.2.2.2 hb hp) (fun s hb => q_X12_listsClasses_1 s.1 s.2.1 s.2.2.1 s.2.2.2.1 s.2.2.2.2 hb hC) _ _ h
theorem p_X12_listsClasses_0 {L : Nat} {xs : Nat → Int32} {d : Nat} {Q : xO → Prop} (I : xI) (J : xJ) {t : Unit × xI × xJ} (h : f_X12_listsClasses_0 I J = some t) (hC : (c_X12_listsClasses Q) t) : Rn L xs (d + 3) 234 0 [some (.ref 61), none, none, none] [] 94 (I, J, xrf) Q := by
  unfold f_X12_listsClasses_0 at h
  refine Rn.go 8 (j' := 234) (pc' := 12) (ls' := [some (.ref 61), some (.int 1), none, none]) (st' := []) (n' := 94) (M' := ((xup ((xup I 61 33 0)) 61 35 0), J, xrf)) (fun f => rfl) ?_
  exact p_X12_listsClasses_1 1 none none ((xup ((xup I 61 33 0)) 61 35 0)) J h hC
theorem p_X12_listsClasses {L : Nat} {xs : Nat → Int32} {d : Nat} {Q : xO → Prop} (I : xI) (J : xJ) {t : Unit × xI × xJ} (h : f_X12_listsClasses I J = some t) (hC : Q (none, 94, (t.2.1, t.2.2, xrf))) : Rn L xs (d + 3) 234 0 [some (.ref 61), none, none, none] [] 94 (I, J, xrf) Q := p_X12_listsClasses_0 I J h hC
/-! X12_firstPick -/
def c_X12_firstPick (Q : xO → Prop) (t : Unit × xI × xJ) : Prop := Q (none, 94, (t.2.1, t.2.2, xrf))
def c_X12_firstPick_1 (L : Nat) (xs : Nat → Int32) (d : Nat) (Q : xO → Prop) (t : (Int32 × Int32 × xI × xJ) ⊕ (Unit × xI × xJ)) : Prop := match t with
  | .inl s => Rn L xs (d + 1) 244 2 [some (.ref 61), some (.int s.1), some (.int s.2.1)] [] 94 (s.2.2.1, s.2.2.2, xrf) Q
  | .inr t => (c_X12_firstPick Q) t
def f_X12_firstPick_3 (x1 : Int32) (x2 : Int32) (I : xI) (J : xJ) : Option (Unit × xI × xJ) := some ((), I, J)
def f_X12_firstPick_2 (x1 : Int32) (x2 : Int32) (I : xI) (J : xJ) : Option ((Int32 × Int32 × xI × xJ) ⊕ (Unit × xI × xJ)) := if x2 < 0 ∨ 8 ≤ x2.toNatClampNeg then none else some (.inl (x1, ((x2 + 1)), ((xup I 80 x2.toNatClampNeg x2)), J))
def b_X12_firstPick_1 (x1 : Int32) (x2 : Int32) (I : xI) (J : xJ) : Option ((Int32 × Int32 × xI × xJ) ⊕ (Unit × xI × xJ)) := if x1 ≤ x2 then ((f_X12_firstPick_3 x1 x2 I J)).map .inr else f_X12_firstPick_2 x1 x2 I J
def f_X12_firstPick_1 (x1 : Int32) (x2 : Int32) (I : xI) (J : xJ) : Option (Unit × xI × xJ) := xloop (fun s : Int32 × Int32 × xI × xJ => b_X12_firstPick_1 s.1 s.2.1 s.2.2.1 s.2.2.2) 5000 (x1, x2, I, J)
def f_X12_firstPick_0 (x1 : Int32) (I : xI) (J : xJ) : Option (Unit × xI × xJ) := f_X12_firstPick_1 x1 0 I J
def f_X12_firstPick (x1 : Int32) (I : xI) (J : xJ) : Option (Unit × xI × xJ) := f_X12_firstPick_0 x1 I J
theorem p_X12_firstPick_3 {L : Nat} {xs : Nat → Int32} {d : Nat} {Q : xO → Prop} (x1 : Int32) (x2 : Int32) (I : xI) (J : xJ) {t : Unit × xI × xJ} (h : f_X12_firstPick_3 x1 x2 I J = some t) (hC : (c_X12_firstPick Q) t) : Rn L xs (d + 1) 244 20 [some (.ref 61), some (.int x1), some (.int x2)] [] 94 (I, J, xrf) Q := by
  unfold f_X12_firstPick_3 at h
  cases h
  exact Rn.ret 1 (o := (none, 94, (I, J, xrf))) (fun f => rfl) hC
theorem p_X12_firstPick_2 {L : Nat} {xs : Nat → Int32} {d : Nat} {Q : xO → Prop} (x1 : Int32) (x2 : Int32) (I : xI) (J : xJ) {t : (Int32 × Int32 × xI × xJ) ⊕ (Unit × xI × xJ)} (h : f_X12_firstPick_2 x1 x2 I J = some t) (hC : (c_X12_firstPick_1 L xs d Q) t) : Rn L xs (d + 1) 244 7 [some (.ref 61), some (.int x1), some (.int x2)] [] 94 (I, J, xrf) Q := by
  unfold f_X12_firstPick_2 at h
  obtain ⟨hc, h⟩ := xif h
  refine Rn.ok 5 (c := x2 < 0 ∨ 8 ≤ x2.toNatClampNeg) (p1 := 14) (l1 := [some (.ref 61), some (.int x1), some (.int x2)]) (s1 := []) (n1 := 94) (M1 := ((xup I 80 x2.toNatClampNeg x2), J, xrf)) (fun f => rfl) hc ?_
  refine Rn.go 2 (j' := 244) (pc' := 2) (ls' := [some (.ref 61), some (.int x1), some (.int ((x2 + 1)))]) (st' := []) (n' := 94) (M' := ((xup I 80 x2.toNatClampNeg x2), J, xrf)) (fun f => rfl) ?_
  cases h; exact hC
theorem q_X12_firstPick_1 {L : Nat} {xs : Nat → Int32} {d : Nat} {Q : xO → Prop} (x1 : Int32) (x2 : Int32) (I : xI) (J : xJ) {t : (Int32 × Int32 × xI × xJ) ⊕ (Unit × xI × xJ)} (h : b_X12_firstPick_1 x1 x2 I J = some t) (hC : (c_X12_firstPick_1 L xs d Q) t) : Rn L xs (d + 1) 244 2 [some (.ref 61), some (.int x1), some (.int x2)] [] 94 (I, J, xrf) Q := by
  unfold b_X12_firstPick_1 at h
  refine Rn.fi 3 (c := x1 ≤ x2) (p1 := 20) (l1 := [some (.ref 61), some (.int x1), some (.int x2)]) (s1 := []) (n1 := 94) (M1 := (I, J, xrf)) (p2 := 7) (l2 := [some (.ref 61), some (.int x1), some (.int x2)]) (s2 := []) (n2 := 94) (M2 := (I, J, xrf)) (fun f => rfl) (fun hc => ?_) (fun hc => ?_)
  · rw [if_pos hc] at h
    obtain ⟨t0, h0, rfl⟩ := Option.map_eq_some_iff.mp h
    exact p_X12_firstPick_3 x1 x2 I J h0 hC
  · rw [if_neg hc] at h
    exact p_X12_firstPick_2 x1 x2 I J h hC
theorem p_X12_firstPick_1 {L : Nat} {xs : Nat → Int32} {d : Nat} {Q : xO → Prop} (x1 : Int32) (x2 : Int32) (I : xI) (J : xJ) {t : Unit × xI × xJ} (h : f_X12_firstPick_1 x1 x2 I J = some t) (hC : (c_X12_firstPick Q) t) : Rn L xs (d + 1) 244 2 [some (.ref 61), some (.int x1), some (.int x2)] [] 94 (I, J, xrf) Q := by
  unfold f_X12_firstPick_1 at h
  exact xloop_some (P := fun s : Int32 × Int32 × xI × xJ => Rn L xs (d + 1) 244 2 [some (.ref 61), some (.int s.1), some (.int s.2.1)] [] 94 (s.2.2.1, s.2.2.2, xrf) Q) t (fun s ⟨s', hb, hp⟩ => q_X12_firstPick_1 s.1 s.2.1 s.2.2.1 s.2.2.2 hb hp) (fun s hb => q_X12_firstPick_1 s.1 s.2.1 s.2.2.1 s.2.2.2 hb hC) _ _ h
theorem p_X12_firstPick_0 {L : Nat} {xs : Nat → Int32} {d : Nat} {Q : xO → Prop} (x1 : Int32) (I : xI) (J : xJ) {t : Unit × xI × xJ} (h : f_X12_firstPick_0 x1 I J = some t) (hC : (c_X12_firstPick Q) t) : Rn L xs (d + 1) 244 0 [some (.ref 61), some (.int x1), none] [] 94 (I, J, xrf) Q := by
  unfold f_X12_firstPick_0 at h
  refine Rn.go 2 (j' := 244) (pc' := 2) (ls' := [some (.ref 61), some (.int x1), some (.int 0)]) (st' := []) (n' := 94) (M' := (I, J, xrf)) (fun f => rfl) ?_
  exact p_X12_firstPick_1 x1 0 I J h hC
theorem p_X12_firstPick {L : Nat} {xs : Nat → Int32} {d : Nat} {Q : xO → Prop} (x1 : Int32) (I : xI) (J : xJ) {t : Unit × xI × xJ} (h : f_X12_firstPick x1 I J = some t) (hC : Q (none, 94, (t.2.1, t.2.2, xrf))) : Rn L xs (d + 1) 244 0 [some (.ref 61), some (.int x1), none] [] 94 (I, J, xrf) Q := p_X12_firstPick_0 x1 I J h hC
/-! X12_ledTo -/
def c_X12_ledTo (Q : xO → Prop) (t : Int32 × xI × xJ) : Prop := Q ((some (.int t.1)), 94, (t.2.1, t.2.2, xrf))
def c_X12_ledTo_1 (L : Nat) (xs : Nat → Int32) (d : Nat) (Q : xO → Prop) (t : (Int32 × Int32 × Int32 × Int32 × xI × xJ) ⊕ (Int32 × xI × xJ)) : Prop := match t with
  | .inl s => Rn L xs (d + 2) 240 5 [some (.ref 61), some (.int s.1), some (.int s.2.1), some (.int s.2.2.1), some (.int s.2.2.2.1)] [] 94 (s.2.2.2.2.1, s.2.2.2.2.2, xrf) Q
  | .inr t => (c_X12_ledTo Q) t
def f_X12_ledTo_9 (x1 : Int32) (x2 : Int32) (x3 : Int32) (x4 : Int32) (I : xI) (J : xJ) : Option (Int32 × xI × xJ) := some (x3, I, J)
def f_X12_ledTo_8 (x1 : Int32) (x2 : Int32) (x3 : Int32) (x4 : Int32) (I : xI) (J : xJ) : Option ((Int32 × Int32 × Int32 × Int32 × xI × xJ) ⊕ (Int32 × xI × xJ)) := some (.inl (x1, x2, x3, ((x4 + 1)), I, J))
def f_X12_ledTo_7 (x1 : Int32) (x2 : Int32) (x3 : Int32) (x4 : Int32) (s0 : Int32) (s1 : Int32) (s2 : Int32) (I : xI) (J : xJ) : Option ((Int32 × Int32 × Int32 × Int32 × xI × xJ) ⊕ (Int32 × xI × xJ)) := f_X12_ledTo_8 x1 x2 ((s0 ||| (s1 <<< (s2 &&& 31)))) x4 I J
def f_X12_ledTo_6 (x1 : Int32) (x2 : Int32) (x3 : Int32) (x4 : Int32) (I : xI) (J : xJ) : Option ((Int32 × Int32 × Int32 × Int32 × xI × xJ) ⊕ (Int32 × xI × xJ)) := (f_X12_to x4 x2 I J).bind fun o => f_X12_ledTo_7 x1 x2 x3 x4 x3 1 o.1 o.2.1 o.2.2
def f_X12_ledTo_5 (x1 : Int32) (x2 : Int32) (x3 : Int32) (x4 : Int32) (s0 : Int32) (I : xI) (J : xJ) : Option ((Int32 × Int32 × Int32 × Int32 × xI × xJ) ⊕ (Int32 × xI × xJ)) := if s0 < 0 then f_X12_ledTo_8 x1 x2 x3 x4 I J else f_X12_ledTo_6 x1 x2 x3 x4 I J
def f_X12_ledTo_4 (x1 : Int32) (x2 : Int32) (x3 : Int32) (x4 : Int32) (I : xI) (J : xJ) : Option ((Int32 × Int32 × Int32 × Int32 × xI × xJ) ⊕ (Int32 × xI × xJ)) := (f_X12_to x4 x2 I J).bind fun o => f_X12_ledTo_5 x1 x2 x3 x4 o.1 o.2.1 o.2.2
def f_X12_ledTo_3 (x1 : Int32) (x2 : Int32) (x3 : Int32) (x4 : Int32) (s0 : Int32) (I : xI) (J : xJ) : Option ((Int32 × Int32 × Int32 × Int32 × xI × xJ) ⊕ (Int32 × xI × xJ)) := if s0 = 0 then f_X12_ledTo_8 x1 x2 x3 x4 I J else f_X12_ledTo_4 x1 x2 x3 x4 I J
def f_X12_ledTo_2 (x1 : Int32) (x2 : Int32) (x3 : Int32) (x4 : Int32) (I : xI) (J : xJ) : Option ((Int32 × Int32 × Int32 × Int32 × xI × xJ) ⊕ (Int32 × xI × xJ)) := (f_X12_has x1 x4 I J).bind fun o => f_X12_ledTo_3 x1 x2 x3 x4 o.1 o.2.1 o.2.2
def b_X12_ledTo_1 (x1 : Int32) (x2 : Int32) (x3 : Int32) (x4 : Int32) (I : xI) (J : xJ) : Option ((Int32 × Int32 × Int32 × Int32 × xI × xJ) ⊕ (Int32 × xI × xJ)) := if (I 61 17) ≤ x4 then ((f_X12_ledTo_9 x1 x2 x3 x4 I J)).map .inr else f_X12_ledTo_2 x1 x2 x3 x4 I J
def f_X12_ledTo_1 (x1 : Int32) (x2 : Int32) (x3 : Int32) (x4 : Int32) (I : xI) (J : xJ) : Option (Int32 × xI × xJ) := xloop (fun s : Int32 × Int32 × Int32 × Int32 × xI × xJ => b_X12_ledTo_1 s.1 s.2.1 s.2.2.1 s.2.2.2.1 s.2.2.2.2.1 s.2.2.2.2.2) 5000 (x1, x2, x3, x4, I, J)
def f_X12_ledTo_0 (x1 : Int32) (x2 : Int32) (I : xI) (J : xJ) : Option (Int32 × xI × xJ) := f_X12_ledTo_1 x1 x2 0 0 I J
def f_X12_ledTo (x1 : Int32) (x2 : Int32) (I : xI) (J : xJ) : Option (Int32 × xI × xJ) := f_X12_ledTo_0 x1 x2 I J
theorem p_X12_ledTo_9 {L : Nat} {xs : Nat → Int32} {d : Nat} {Q : xO → Prop} (x1 : Int32) (x2 : Int32) (x3 : Int32) (x4 : Int32) (I : xI) (J : xJ) {t : Int32 × xI × xJ} (h : f_X12_ledTo_9 x1 x2 x3 x4 I J = some t) (hC : (c_X12_ledTo Q) t) : Rn L xs (d + 2) 240 51 [some (.ref 61), some (.int x1), some (.int x2), some (.int x3), some (.int x4)] [] 94 (I, J, xrf) Q := by
  unfold f_X12_ledTo_9 at h
  cases h
  exact Rn.ret 2 (o := ((some (.int x3)), 94, (I, J, xrf))) (fun f => rfl) hC
theorem p_X12_ledTo_8 {L : Nat} {xs : Nat → Int32} {d : Nat} {Q : xO → Prop} (x1 : Int32) (x2 : Int32) (x3 : Int32) (x4 : Int32) (I : xI) (J : xJ) {t : (Int32 × Int32 × Int32 × Int32 × xI × xJ) ⊕ (Int32 × xI × xJ)} (h : f_X12_ledTo_8 x1 x2 x3 x4 I J = some t) (hC : (c_X12_ledTo_1 L xs d Q) t) : Rn L xs (d + 2) 240 45 [some (.ref 61), some (.int x1), some (.int x2), some (.int x3), some (.int x4)] [] 94 (I, J, xrf) Q := by
  unfold f_X12_ledTo_8 at h
  refine Rn.go 2 (j' := 240) (pc' := 5) (ls' := [some (.ref 61), some (.int x1), some (.int x2), some (.int x3), some (.int ((x4 + 1)))]) (st' := []) (n' := 94) (M' := (I, J, xrf)) (fun f => rfl) ?_
  cases h; exact hC
theorem p_X12_ledTo_7 {L : Nat} {xs : Nat → Int32} {d : Nat} {Q : xO → Prop} (x1 : Int32) (x2 : Int32) (x3 : Int32) (x4 : Int32) (s0 : Int32) (s1 : Int32) (s2 : Int32) (I : xI) (J : xJ) {t : (Int32 × Int32 × Int32 × Int32 × xI × xJ) ⊕ (Int32 × xI × xJ)} (h : f_X12_ledTo_7 x1 x2 x3 x4 s0 s1 s2 I J = some t) (hC : (c_X12_ledTo_1 L xs d Q) t) : Rn L xs (d + 2) 240 42 [some (.ref 61), some (.int x1), some (.int x2), some (.int x3), some (.int x4)] [.int s2, .int s1, .int s0] 94 (I, J, xrf) Q := by
  unfold f_X12_ledTo_7 at h
  refine Rn.go 3 (j' := 240) (pc' := 45) (ls' := [some (.ref 61), some (.int x1), some (.int x2), some (.int ((s0 ||| (s1 <<< (s2 &&& 31))))), some (.int x4)]) (st' := []) (n' := 94) (M' := (I, J, xrf)) (fun f => rfl) ?_
  exact p_X12_ledTo_8 x1 x2 ((s0 ||| (s1 <<< (s2 &&& 31)))) x4 I J h hC
theorem p_X12_ledTo_6 {L : Nat} {xs : Nat → Int32} {d : Nat} {Q : xO → Prop} (x1 : Int32) (x2 : Int32) (x3 : Int32) (x4 : Int32) (I : xI) (J : xJ) {t : (Int32 × Int32 × Int32 × Int32 × xI × xJ) ⊕ (Int32 × xI × xJ)} (h : f_X12_ledTo_6 x1 x2 x3 x4 I J = some t) (hC : (c_X12_ledTo_1 L xs d Q) t) : Rn L xs (d + 2) 240 33 [some (.ref 61), some (.int x1), some (.int x2), some (.int x3), some (.int x4)] [] 94 (I, J, xrf) Q := by
  unfold f_X12_ledTo_6 at h
  refine Rn.go 5 (j' := 240) (pc' := 39) (ls' := [some (.ref 61), some (.int x1), some (.int x2), some (.int x3), some (.int x4)]) (st' := [.int x2, .int x4, .ref 61, .int 1, .int x3]) (n' := 94) (M' := (I, J, xrf)) (fun f => rfl) ?_
  obtain ⟨o, ho, h⟩ := Option.bind_eq_some_iff.mp h
  refine Rn.call (d1 := d + 1) (j1 := 210) (ls1 := [some (.ref 61), some (.int x4), some (.int x2)]) (rest := [.int 1, .int x3]) (fun f => rfl) ?_
  refine p_X12_to (d := d + 0) x4 x2 I J (t := o) ho ?_
  exact p_X12_ledTo_7 x1 x2 x3 x4 x3 1 o.1 o.2.1 o.2.2 h hC
theorem p_X12_ledTo_5 {L : Nat} {xs : Nat → Int32} {d : Nat} {Q : xO → Prop} (x1 : Int32) (x2 : Int32) (x3 : Int32) (x4 : Int32) (s0 : Int32) (I : xI) (J : xJ) {t : (Int32 × Int32 × Int32 × Int32 × xI × xJ) ⊕ (Int32 × xI × xJ)} (h : f_X12_ledTo_5 x1 x2 x3 x4 s0 I J = some t) (hC : (c_X12_ledTo_1 L xs d Q) t) : Rn L xs (d + 2) 240 30 [some (.ref 61), some (.int x1), some (.int x2), some (.int x3), some (.int x4)] [.int s0] 94 (I, J, xrf) Q := by
  unfold f_X12_ledTo_5 at h
  refine Rn.fi 1 (c := s0 < 0) (p1 := 45) (l1 := [some (.ref 61), some (.int x1), some (.int x2), some (.int x3), some (.int x4)]) (s1 := []) (n1 := 94) (M1 := (I, J, xrf)) (p2 := 33) (l2 := [some (.ref 61), some (.int x1), some (.int x2), some (.int x3), some (.int x4)]) (s2 := []) (n2 := 94) (M2 := (I, J, xrf)) (fun f => rfl) (fun hc => ?_) (fun hc => ?_)
  · rw [if_pos hc] at h
    exact p_X12_ledTo_8 x1 x2 x3 x4 I J h hC
  · rw [if_neg hc] at h
    exact p_X12_ledTo_6 x1 x2 x3 x4 I J h hC
theorem p_X12_ledTo_4 {L : Nat} {xs : Nat → Int32} {d : Nat} {Q : xO → Prop} (x1 : Int32) (x2 : Int32) (x3 : Int32) (x4 : Int32) (I : xI) (J : xJ) {t : (Int32 × Int32 × Int32 × Int32 × xI × xJ) ⊕ (Int32 × xI × xJ)} (h : f_X12_ledTo_4 x1 x2 x3 x4 I J = some t) (hC : (c_X12_ledTo_1 L xs d Q) t) : Rn L xs (d + 2) 240 23 [some (.ref 61), some (.int x1), some (.int x2), some (.int x3), some (.int x4)] [] 94 (I, J, xrf) Q := by
  unfold f_X12_ledTo_4 at h
  refine Rn.go 3 (j' := 240) (pc' := 27) (ls' := [some (.ref 61), some (.int x1), some (.int x2), some (.int x3), some (.int x4)]) (st' := [.int x2, .int x4, .ref 61]) (n' := 94) (M' := (I, J, xrf)) (fun f => rfl) ?_
  obtain ⟨o, ho, h⟩ := Option.bind_eq_some_iff.mp h
  refine Rn.call (d1 := d + 1) (j1 := 210) (ls1 := [some (.ref 61), some (.int x4), some (.int x2)]) (rest := []) (fun f => rfl) ?_
  refine p_X12_to (d := d + 0) x4 x2 I J (t := o) ho ?_
  exact p_X12_ledTo_5 x1 x2 x3 x4 o.1 o.2.1 o.2.2 h hC
theorem p_X12_ledTo_3 {L : Nat} {xs : Nat → Int32} {d : Nat} {Q : xO → Prop} (x1 : Int32) (x2 : Int32) (x3 : Int32) (x4 : Int32) (s0 : Int32) (I : xI) (J : xJ) {t : (Int32 × Int32 × Int32 × Int32 × xI × xJ) ⊕ (Int32 × xI × xJ)} (h : f_X12_ledTo_3 x1 x2 x3 x4 s0 I J = some t) (hC : (c_X12_ledTo_1 L xs d Q) t) : Rn L xs (d + 2) 240 20 [some (.ref 61), some (.int x1), some (.int x2), some (.int x3), some (.int x4)] [.int s0] 94 (I, J, xrf) Q := by
  unfold f_X12_ledTo_3 at h
  refine Rn.fi 1 (c := s0 = 0) (p1 := 45) (l1 := [some (.ref 61), some (.int x1), some (.int x2), some (.int x3), some (.int x4)]) (s1 := []) (n1 := 94) (M1 := (I, J, xrf)) (p2 := 23) (l2 := [some (.ref 61), some (.int x1), some (.int x2), some (.int x3), some (.int x4)]) (s2 := []) (n2 := 94) (M2 := (I, J, xrf)) (fun f => rfl) (fun hc => ?_) (fun hc => ?_)
  · rw [if_pos hc] at h
    exact p_X12_ledTo_8 x1 x2 x3 x4 I J h hC
  · rw [if_neg hc] at h
    exact p_X12_ledTo_4 x1 x2 x3 x4 I J h hC
theorem p_X12_ledTo_2 {L : Nat} {xs : Nat → Int32} {d : Nat} {Q : xO → Prop} (x1 : Int32) (x2 : Int32) (x3 : Int32) (x4 : Int32) (I : xI) (J : xJ) {t : (Int32 × Int32 × Int32 × Int32 × xI × xJ) ⊕ (Int32 × xI × xJ)} (h : f_X12_ledTo_2 x1 x2 x3 x4 I J = some t) (hC : (c_X12_ledTo_1 L xs d Q) t) : Rn L xs (d + 2) 240 14 [some (.ref 61), some (.int x1), some (.int x2), some (.int x3), some (.int x4)] [] 94 (I, J, xrf) Q := by
  unfold f_X12_ledTo_2 at h
  refine Rn.go 2 (j' := 240) (pc' := 17) (ls' := [some (.ref 61), some (.int x1), some (.int x2), some (.int x3), some (.int x4)]) (st' := [.int x4, .int x1]) (n' := 94) (M' := (I, J, xrf)) (fun f => rfl) ?_
  obtain ⟨o, ho, h⟩ := Option.bind_eq_some_iff.mp h
  refine Rn.call (d1 := d + 1) (j1 := 214) (ls1 := [some (.int x1), some (.int x4)]) (rest := []) (fun f => rfl) ?_
  refine p_X12_has (d := d + 0) x1 x4 I J (t := o) ho ?_
  exact p_X12_ledTo_3 x1 x2 x3 x4 o.1 o.2.1 o.2.2 h hC
theorem q_X12_ledTo_1 {L : Nat} {xs : Nat → Int32} {d : Nat} {Q : xO → Prop} (x1 : Int32) (x2 : Int32) (x3 : Int32) (x4 : Int32) (I : xI) (J : xJ) {t : (Int32 × Int32 × Int32 × Int32 × xI × xJ) ⊕ (Int32 × xI × xJ)} (h : b_X12_ledTo_1 x1 x2 x3 x4 I J = some t) (hC : (c_X12_ledTo_1 L xs d Q) t) : Rn L xs (d + 2) 240 5 [some (.ref 61), some (.int x1), some (.int x2), some (.int x3), some (.int x4)] [] 94 (I, J, xrf) Q := by
  unfold b_X12_ledTo_1 at h
  refine Rn.fi 4 (c := (I 61 17) ≤ x4) (p1 := 51) (l1 := [some (.ref 61), some (.int x1), some (.int x2), some (.int x3), some (.int x4)]) (s1 := []) (n1 := 94) (M1 := (I, J, xrf)) (p2 := 14) (l2 := [some (.ref 61), some (.int x1), some (.int x2), some (.int x3), some (.int x4)]) (s2 := []) (n2 := 94) (M2 := (I, J, xrf)) (fun f => rfl) (fun hc => ?_) (fun hc => ?_)
  · rw [if_pos hc] at h
    obtain ⟨t0, h0, rfl⟩ := Option.map_eq_some_iff.mp h
    exact p_X12_ledTo_9 x1 x2 x3 x4 I J h0 hC
  · rw [if_neg hc] at h
    exact p_X12_ledTo_2 x1 x2 x3 x4 I J h hC
theorem p_X12_ledTo_1 {L : Nat} {xs : Nat → Int32} {d : Nat} {Q : xO → Prop} (x1 : Int32) (x2 : Int32) (x3 : Int32) (x4 : Int32) (I : xI) (J : xJ) {t : Int32 × xI × xJ} (h : f_X12_ledTo_1 x1 x2 x3 x4 I J = some t) (hC : (c_X12_ledTo Q) t) : Rn L xs (d + 2) 240 5 [some (.ref 61), some (.int x1), some (.int x2), some (.int x3), some (.int x4)] [] 94 (I, J, xrf) Q := by
  unfold f_X12_ledTo_1 at h
  exact xloop_some (P := fun s : Int32 × Int32 × Int32 × Int32 × xI × xJ => Rn L xs (d + 2) 240 5 [some (.ref 61), some (.int s.1), some (.int s.2.1), some (.int s.2.2.1), some (.int s.2.2.2.1)] [] 94 (s.2.2.2.2.1, s.2.2.2.2.2, xrf) Q) t (fun s ⟨s', hb, hp⟩ => q_X12_ledTo_1 s.1 s.2.1 s.2.2.1 s.2.2.2.1 s.2.2.2.2.1 s.2.2.2.2.2 hb hp) (fun s hb => q_X12_ledTo_1 s.1 s.2.1 s.2.2.1 s.2.2.2.1 s.2.2.2.2.1 s.2.2.2.2.2 hb hC) _ _ h
theorem p_X12_ledTo_0 {L : Nat} {xs : Nat → Int32} {d : Nat} {Q : xO → Prop} (x1 : Int32) (x2 : Int32) (I : xI) (J : xJ) {t : Int32 × xI × xJ} (h : f_X12_ledTo_0 x1 x2 I J = some t) (hC : (c_X12_ledTo Q) t) : Rn L xs (d + 2) 240 0 [some (.ref 61), some (.int x1), some (.int x2), none, none] [] 94 (I, J, xrf) Q := by
  unfold f_X12_ledTo_0 at h
  refine Rn.go 4 (j' := 240) (pc' := 5) (ls' := [some (.ref 61), some (.int x1), some (.int x2), some (.int 0), some (.int 0)]) (st' := []) (n' := 94) (M' := (I, J, xrf)) (fun f => rfl) ?_
  exact p_X12_ledTo_1 x1 x2 0 0 I J h hC
theorem p_X12_ledTo {L : Nat} {xs : Nat → Int32} {d : Nat} {Q : xO → Prop} (x1 : Int32) (x2 : Int32) (I : xI) (J : xJ) {t : Int32 × xI × xJ} (h : f_X12_ledTo x1 x2 I J = some t) (hC : Q ((some (.int t.1)), 94, (t.2.1, t.2.2, xrf))) : Rn L xs (d + 2) 240 0 [some (.ref 61), some (.int x1), some (.int x2), none, none] [] 94 (I, J, xrf) Q := p_X12_ledTo_0 x1 x2 I J h hC
/-! X12_firstWith -/
def c_X12_firstWith (Q : xO → Prop) (t : Int32 × xI × xJ) : Prop := Q ((some (.int t.1)), 94, (t.2.1, t.2.2, xrf))
def c_X12_firstWith_1 (L : Nat) (xs : Nat → Int32) (d : Nat) (Q : xO → Prop) (t : (Int32 × Int32 × xI × xJ) ⊕ (Int32 × xI × xJ)) : Prop := match t with
  | .inl s => Rn L xs (d + 1) 242 2 [some (.ref 61), some (.int s.1), some (.int s.2.1)] [] 94 (s.2.2.1, s.2.2.2, xrf) Q
  | .inr t => (c_X12_firstWith Q) t
def f_X12_firstWith_5 (x1 : Int32) (x2 : Int32) (I : xI) (J : xJ) : Option (Int32 × xI × xJ) := some ((-1), I, J)
def f_X12_firstWith_4 (x1 : Int32) (x2 : Int32) (I : xI) (J : xJ) : Option ((Int32 × Int32 × xI × xJ) ⊕ (Int32 × xI × xJ)) := some (.inl (x1, ((x2 + 1)), I, J))
def f_X12_firstWith_3 (x1 : Int32) (x2 : Int32) (I : xI) (J : xJ) : Option (Int32 × xI × xJ) := some (x2, I, J)
def f_X12_firstWith_2 (x1 : Int32) (x2 : Int32) (I : xI) (J : xJ) : Option ((Int32 × Int32 × xI × xJ) ⊕ (Int32 × xI × xJ)) := if x2 < 0 ∨ 6 ≤ x2.toNatClampNeg then none else if (x1 &&& ((I 79 x2.toNatClampNeg) ^^^ (-1))) = 0 then ((f_X12_firstWith_3 x1 x2 I J)).map .inr else f_X12_firstWith_4 x1 x2 I J
def b_X12_firstWith_1 (x1 : Int32) (x2 : Int32) (I : xI) (J : xJ) : Option ((Int32 × Int32 × xI × xJ) ⊕ (Int32 × xI × xJ)) := if (I 61 37) ≤ x2 then ((f_X12_firstWith_5 x1 x2 I J)).map .inr else f_X12_firstWith_2 x1 x2 I J
def f_X12_firstWith_1 (x1 : Int32) (x2 : Int32) (I : xI) (J : xJ) : Option (Int32 × xI × xJ) := xloop (fun s : Int32 × Int32 × xI × xJ => b_X12_firstWith_1 s.1 s.2.1 s.2.2.1 s.2.2.2) 5000 (x1, x2, I, J)
def f_X12_firstWith_0 (x1 : Int32) (I : xI) (J : xJ) : Option (Int32 × xI × xJ) := f_X12_firstWith_1 x1 0 I J
def f_X12_firstWith (x1 : Int32) (I : xI) (J : xJ) : Option (Int32 × xI × xJ) := f_X12_firstWith_0 x1 I J
theorem p_X12_firstWith_5 {L : Nat} {xs : Nat → Int32} {d : Nat} {Q : xO → Prop} (x1 : Int32) (x2 : Int32) (I : xI) (J : xJ) {t : Int32 × xI × xJ} (h : f_X12_firstWith_5 x1 x2 I J = some t) (hC : (c_X12_firstWith Q) t) : Rn L xs (d + 1) 242 31 [some (.ref 61), some (.int x1), some (.int x2)] [] 94 (I, J, xrf) Q := by
  unfold f_X12_firstWith_5 at h
  cases h
  exact Rn.ret 2 (o := ((some (.int ((-1)))), 94, (I, J, xrf))) (fun f => rfl) hC
theorem p_X12_firstWith_4 {L : Nat} {xs : Nat → Int32} {d : Nat} {Q : xO → Prop} (x1 : Int32) (x2 : Int32) (I : xI) (J : xJ) {t : (Int32 × Int32 × xI × xJ) ⊕ (Int32 × xI × xJ)} (h : f_X12_firstWith_4 x1 x2 I J = some t) (hC : (c_X12_firstWith_1 L xs d Q) t) : Rn L xs (d + 1) 242 25 [some (.ref 61), some (.int x1), some (.int x2)] [] 94 (I, J, xrf) Q := by
  unfold f_X12_firstWith_4 at h
  refine Rn.go 2 (j' := 242) (pc' := 2) (ls' := [some (.ref 61), some (.int x1), some (.int ((x2 + 1)))]) (st' := []) (n' := 94) (M' := (I, J, xrf)) (fun f => rfl) ?_
  cases h; exact hC
theorem p_X12_firstWith_3 {L : Nat} {xs : Nat → Int32} {d : Nat} {Q : xO → Prop} (x1 : Int32) (x2 : Int32) (I : xI) (J : xJ) {t : Int32 × xI × xJ} (h : f_X12_firstWith_3 x1 x2 I J = some t) (hC : (c_X12_firstWith Q) t) : Rn L xs (d + 1) 242 23 [some (.ref 61), some (.int x1), some (.int x2)] [] 94 (I, J, xrf) Q := by
  unfold f_X12_firstWith_3 at h
  cases h
  exact Rn.ret 2 (o := ((some (.int x2)), 94, (I, J, xrf))) (fun f => rfl) hC
theorem p_X12_firstWith_2 {L : Nat} {xs : Nat → Int32} {d : Nat} {Q : xO → Prop} (x1 : Int32) (x2 : Int32) (I : xI) (J : xJ) {t : (Int32 × Int32 × xI × xJ) ⊕ (Int32 × xI × xJ)} (h : f_X12_firstWith_2 x1 x2 I J = some t) (hC : (c_X12_firstWith_1 L xs d Q) t) : Rn L xs (d + 1) 242 10 [some (.ref 61), some (.int x1), some (.int x2)] [] 94 (I, J, xrf) Q := by
  unfold f_X12_firstWith_2 at h
  obtain ⟨hc, h⟩ := xif h
  refine Rn.ok 5 (c := x2 < 0 ∨ 6 ≤ x2.toNatClampNeg) (p1 := 17) (l1 := [some (.ref 61), some (.int x1), some (.int x2)]) (s1 := [.int ((I 79 x2.toNatClampNeg)), .int x1]) (n1 := 94) (M1 := (I, J, xrf)) (fun f => rfl) hc ?_
  refine Rn.fi 4 (c := (x1 &&& ((I 79 x2.toNatClampNeg) ^^^ (-1))) = 0) (p1 := 23) (l1 := [some (.ref 61), some (.int x1), some (.int x2)]) (s1 := []) (n1 := 94) (M1 := (I, J, xrf)) (p2 := 25) (l2 := [some (.ref 61), some (.int x1), some (.int x2)]) (s2 := []) (n2 := 94) (M2 := (I, J, xrf)) (fun f => rfl) (fun hc => ?_) (fun hc => ?_)
  · rw [if_pos hc] at h
    obtain ⟨t0, h0, rfl⟩ := Option.map_eq_some_iff.mp h
    exact p_X12_firstWith_3 x1 x2 I J h0 hC
  · rw [if_neg hc] at h
    exact p_X12_firstWith_4 x1 x2 I J h hC
theorem q_X12_firstWith_1 {L : Nat} {xs : Nat → Int32} {d : Nat} {Q : xO → Prop} (x1 : Int32) (x2 : Int32) (I : xI) (J : xJ) {t : (Int32 × Int32 × xI × xJ) ⊕ (Int32 × xI × xJ)} (h : b_X12_firstWith_1 x1 x2 I J = some t) (hC : (c_X12_firstWith_1 L xs d Q) t) : Rn L xs (d + 1) 242 2 [some (.ref 61), some (.int x1), some (.int x2)] [] 94 (I, J, xrf) Q := by
  unfold b_X12_firstWith_1 at h
  refine Rn.fi 4 (c := (I 61 37) ≤ x2) (p1 := 31) (l1 := [some (.ref 61), some (.int x1), some (.int x2)]) (s1 := []) (n1 := 94) (M1 := (I, J, xrf)) (p2 := 10) (l2 := [some (.ref 61), some (.int x1), some (.int x2)]) (s2 := []) (n2 := 94) (M2 := (I, J, xrf)) (fun f => rfl) (fun hc => ?_) (fun hc => ?_)
  · rw [if_pos hc] at h
    obtain ⟨t0, h0, rfl⟩ := Option.map_eq_some_iff.mp h
    exact p_X12_firstWith_5 x1 x2 I J h0 hC
  · rw [if_neg hc] at h
    exact p_X12_firstWith_2 x1 x2 I J h hC
theorem p_X12_firstWith_1 {L : Nat} {xs : Nat → Int32} {d : Nat} {Q : xO → Prop} (x1 : Int32) (x2 : Int32) (I : xI) (J : xJ) {t : Int32 × xI × xJ} (h : f_X12_firstWith_1 x1 x2 I J = some t) (hC : (c_X12_firstWith Q) t) : Rn L xs (d + 1) 242 2 [some (.ref 61), some (.int x1), some (.int x2)] [] 94 (I, J, xrf) Q := by
  unfold f_X12_firstWith_1 at h
  exact xloop_some (P := fun s : Int32 × Int32 × xI × xJ => Rn L xs (d + 1) 242 2 [some (.ref 61), some (.int s.1), some (.int s.2.1)] [] 94 (s.2.2.1, s.2.2.2, xrf) Q) t (fun s ⟨s', hb, hp⟩ => q_X12_firstWith_1 s.1 s.2.1 s.2.2.1 s.2.2.2 hb hp) (fun s hb => q_X12_firstWith_1 s.1 s.2.1 s.2.2.1 s.2.2.2 hb hC) _ _ h
theorem p_X12_firstWith_0 {L : Nat} {xs : Nat → Int32} {d : Nat} {Q : xO → Prop} (x1 : Int32) (I : xI) (J : xJ) {t : Int32 × xI × xJ} (h : f_X12_firstWith_0 x1 I J = some t) (hC : (c_X12_firstWith Q) t) : Rn L xs (d + 1) 242 0 [some (.ref 61), some (.int x1), none] [] 94 (I, J, xrf) Q := by
  unfold f_X12_firstWith_0 at h
  refine Rn.go 2 (j' := 242) (pc' := 2) (ls' := [some (.ref 61), some (.int x1), some (.int 0)]) (st' := []) (n' := 94) (M' := (I, J, xrf)) (fun f => rfl) ?_
  exact p_X12_firstWith_1 x1 0 I J h hC
theorem p_X12_firstWith {L : Nat} {xs : Nat → Int32} {d : Nat} {Q : xO → Prop} (x1 : Int32) (I : xI) (J : xJ) {t : Int32 × xI × xJ} (h : f_X12_firstWith x1 I J = some t) (hC : Q ((some (.int t.1)), 94, (t.2.1, t.2.2, xrf))) : Rn L xs (d + 1) 242 0 [some (.ref 61), some (.int x1), none] [] 94 (I, J, xrf) Q := p_X12_firstWith_0 x1 I J h hC
/-! X12_isCover -/
def c_X12_isCover (Q : xO → Prop) (t : Int32 × xI × xJ) : Prop := Q ((some (.int t.1)), 94, (t.2.1, t.2.2, xrf))
def c_X12_isCover_1 (L : Nat) (xs : Nat → Int32) (d : Nat) (Q : xO → Prop) (t : (Int32 × (Option Value) × xI × xJ) ⊕ (Int32 × xI × xJ)) : Prop := match t with
  | .inl s => Rn L xs (d + 3) 243 2 [some (.ref 61), some (.int s.1), s.2.1] [] 94 (s.2.2.1, s.2.2.2, xrf) Q
  | .inr t => (c_X12_isCover Q) t
def c_X12_isCover_3 (L : Nat) (xs : Nat → Int32) (d : Nat) (Q : xO → Prop) (t : (Int32 × Int32 × xI × xJ) ⊕ ((Int32 × (Option Value) × xI × xJ) ⊕ (Int32 × xI × xJ))) : Prop := match t with
  | .inl s => Rn L xs (d + 3) 243 12 [some (.ref 61), some (.int s.1), some (.int s.2.1)] [] 94 (s.2.2.1, s.2.2.2, xrf) Q
  | .inr t => (c_X12_isCover_1 L xs d Q) t
def f_X12_isCover_10 (x1 : Int32) (z2 : Option Value) (I : xI) (J : xJ) : Option (Int32 × xI × xJ) := some (1, I, J)
def f_X12_isCover_9 (x1 : Int32) (x2 : Int32) (I : xI) (J : xJ) : Option ((Int32 × (Option Value) × xI × xJ) ⊕ (Int32 × xI × xJ)) := some (.inl (((x1 + 1)), (some (.int x2)), I, J))
def f_X12_isCover_8 (x1 : Int32) (x2 : Int32) (I : xI) (J : xJ) : Option ((Int32 × Int32 × xI × xJ) ⊕ ((Int32 × (Option Value) × xI × xJ) ⊕ (Int32 × xI × xJ))) := some (.inl (x1, ((x2 + 1)), I, J))
def f_X12_isCover_7 (x1 : Int32) (x2 : Int32) (I : xI) (J : xJ) : Option (Int32 × xI × xJ) := some (0, I, J)
def f_X12_isCover_6 (x1 : Int32) (x2 : Int32) (s0 : Int32) (I : xI) (J : xJ) : Option ((Int32 × Int32 × xI × xJ) ⊕ ((Int32 × (Option Value) × xI × xJ) ⊕ (Int32 × xI × xJ))) := if 0 ≤ s0 then f_X12_isCover_8 x1 x2 I J else (((f_X12_isCover_7 x1 x2 I J)).map .inr).map .inr
def f_X12_isCover_5 (x1 : Int32) (x2 : Int32) (s1 : Int32) (I : xI) (J : xJ) : Option ((Int32 × Int32 × xI × xJ) ⊕ ((Int32 × (Option Value) × xI × xJ) ⊕ (Int32 × xI × xJ))) := (f_X12_firstWith s1 I J).bind fun o => f_X12_isCover_6 x1 x2 o.1 o.2.1 o.2.2
def f_X12_isCover_4 (x1 : Int32) (x2 : Int32) (I : xI) (J : xJ) : Option ((Int32 × Int32 × xI × xJ) ⊕ ((Int32 × (Option Value) × xI × xJ) ⊕ (Int32 × xI × xJ))) := if x1 < 0 ∨ 6 ≤ x1.toNatClampNeg then none else (f_X12_ledTo ((I 79 x1.toNatClampNeg)) x2 I J).bind fun o => f_X12_isCover_5 x1 x2 o.1 o.2.1 o.2.2
def b_X12_isCover_3 (x1 : Int32) (x2 : Int32) (I : xI) (J : xJ) : Option ((Int32 × Int32 × xI × xJ) ⊕ ((Int32 × (Option Value) × xI × xJ) ⊕ (Int32 × xI × xJ))) := if (I 61 18) ≤ x2 then ((f_X12_isCover_9 x1 x2 I J)).map .inr else f_X12_isCover_4 x1 x2 I J
def f_X12_isCover_3 (x1 : Int32) (x2 : Int32) (I : xI) (J : xJ) : Option ((Int32 × (Option Value) × xI × xJ) ⊕ (Int32 × xI × xJ)) := xloop (fun s : Int32 × Int32 × xI × xJ => b_X12_isCover_3 s.1 s.2.1 s.2.2.1 s.2.2.2) 5000 (x1, x2, I, J)
def f_X12_isCover_2 (x1 : Int32) (z2 : Option Value) (I : xI) (J : xJ) : Option ((Int32 × (Option Value) × xI × xJ) ⊕ (Int32 × xI × xJ)) := f_X12_isCover_3 x1 0 I J
def b_X12_isCover_1 (x1 : Int32) (z2 : Option Value) (I : xI) (J : xJ) : Option ((Int32 × (Option Value) × xI × xJ) ⊕ (Int32 × xI × xJ)) := if (I 61 37) ≤ x1 then ((f_X12_isCover_10 x1 z2 I J)).map .inr else f_X12_isCover_2 x1 z2 I J
def f_X12_isCover_1 (x1 : Int32) (z2 : Option Value) (I : xI) (J : xJ) : Option (Int32 × xI × xJ) := xloop (fun s : Int32 × (Option Value) × xI × xJ => b_X12_isCover_1 s.1 s.2.1 s.2.2.1 s.2.2.2) 5000 (x1, z2, I, J)
def f_X12_isCover_0 (I : xI) (J : xJ) : Option (Int32 × xI × xJ) := f_X12_isCover_1 0 none I J
def f_X12_isCover (I : xI) (J : xJ) : Option (Int32 × xI × xJ) := f_X12_isCover_0 I J
theorem p_X12_isCover_10 {L : Nat} {xs : Nat → Int32} {d : Nat} {Q : xO → Prop} (x1 : Int32) (z2 : Option Value) (I : xI) (J : xJ) {t : Int32 × xI × xJ} (h : f_X12_isCover_10 x1 z2 I J = some t) (hC : (c_X12_isCover Q) t) : Rn L xs (d + 3) 243 52 [some (.ref 61), some (.int x1), z2] [] 94 (I, J, xrf) Q := by
  unfold f_X12_isCover_10 at h
  cases h
  exact Rn.ret 2 (o := ((some (.int 1)), 94, (I, J, xrf))) (fun f => rfl) hC
theorem p_X12_isCover_9 {L : Nat} {xs : Nat → Int32} {d : Nat} {Q : xO → Prop} (x1 : Int32) (x2 : Int32) (I : xI) (J : xJ) {t : (Int32 × (Option Value) × xI × xJ) ⊕ (Int32 × xI × xJ)} (h : f_X12_isCover_9 x1 x2 I J = some t) (hC : (c_X12_isCover_1 L xs d Q) t) : Rn L xs (d + 3) 243 46 [some (.ref 61), some (.int x1), some (.int x2)] [] 94 (I, J, xrf) Q := by
  unfold f_X12_isCover_9 at h
  refine Rn.go 2 (j' := 243) (pc' := 2) (ls' := [some (.ref 61), some (.int ((x1 + 1))), some (.int x2)]) (st' := []) (n' := 94) (M' := (I, J, xrf)) (fun f => rfl) ?_
  cases h; exact hC
theorem p_X12_isCover_8 {L : Nat} {xs : Nat → Int32} {d : Nat} {Q : xO → Prop} (x1 : Int32) (x2 : Int32) (I : xI) (J : xJ) {t : (Int32 × Int32 × xI × xJ) ⊕ ((Int32 × (Option Value) × xI × xJ) ⊕ (Int32 × xI × xJ))} (h : f_X12_isCover_8 x1 x2 I J = some t) (hC : (c_X12_isCover_3 L xs d Q) t) : Rn L xs (d + 3) 243 40 [some (.ref 61), some (.int x1), some (.int x2)] [] 94 (I, J, xrf) Q := by
  unfold f_X12_isCover_8 at h
  refine Rn.go 2 (j' := 243) (pc' := 12) (ls' := [some (.ref 61), some (.int x1), some (.int ((x2 + 1)))]) (st' := []) (n' := 94) (M' := (I, J, xrf)) (fun f => rfl) ?_
  cases h; exact hC
theorem p_X12_isCover_7 {L : Nat} {xs : Nat → Int32} {d : Nat} {Q : xO → Prop} (x1 : Int32) (x2 : Int32) (I : xI) (J : xJ) {t : Int32 × xI × xJ} (h : f_X12_isCover_7 x1 x2 I J = some t) (hC : (c_X12_isCover Q) t) : Rn L xs (d + 3) 243 38 [some (.ref 61), some (.int x1), some (.int x2)] [] 94 (I, J, xrf) Q := by
  unfold f_X12_isCover_7 at h
  cases h
  exact Rn.ret 2 (o := ((some (.int 0)), 94, (I, J, xrf))) (fun f => rfl) hC
theorem p_X12_isCover_6 {L : Nat} {xs : Nat → Int32} {d : Nat} {Q : xO → Prop} (x1 : Int32) (x2 : Int32) (s0 : Int32) (I : xI) (J : xJ) {t : (Int32 × Int32 × xI × xJ) ⊕ ((Int32 × (Option Value) × xI × xJ) ⊕ (Int32 × xI × xJ))} (h : f_X12_isCover_6 x1 x2 s0 I J = some t) (hC : (c_X12_isCover_3 L xs d Q) t) : Rn L xs (d + 3) 243 35 [some (.ref 61), some (.int x1), some (.int x2)] [.int s0] 94 (I, J, xrf) Q := by
  unfold f_X12_isCover_6 at h
  refine Rn.fi 1 (c := 0 ≤ s0) (p1 := 40) (l1 := [some (.ref 61), some (.int x1), some (.int x2)]) (s1 := []) (n1 := 94) (M1 := (I, J, xrf)) (p2 := 38) (l2 := [some (.ref 61), some (.int x1), some (.int x2)]) (s2 := []) (n2 := 94) (M2 := (I, J, xrf)) (fun f => rfl) (fun hc => ?_) (fun hc => ?_)
  · rw [if_pos hc] at h
    exact p_X12_isCover_8 x1 x2 I J h hC
  · rw [if_neg hc] at h
    obtain ⟨t0, h0, rfl⟩ := Option.map_eq_some_iff.mp h
    obtain ⟨t1, h1, rfl⟩ := Option.map_eq_some_iff.mp h0
    exact p_X12_isCover_7 x1 x2 I J h1 hC
theorem p_X12_isCover_5 {L : Nat} {xs : Nat → Int32} {d : Nat} {Q : xO → Prop} (x1 : Int32) (x2 : Int32) (s1 : Int32) (I : xI) (J : xJ) {t : (Int32 × Int32 × xI × xJ) ⊕ ((Int32 × (Option Value) × xI × xJ) ⊕ (Int32 × xI × xJ))} (h : f_X12_isCover_5 x1 x2 s1 I J = some t) (hC : (c_X12_isCover_3 L xs d Q) t) : Rn L xs (d + 3) 243 32 [some (.ref 61), some (.int x1), some (.int x2)] [.int s1, .ref 61] 94 (I, J, xrf) Q := by
  unfold f_X12_isCover_5 at h
  obtain ⟨o, ho, h⟩ := Option.bind_eq_some_iff.mp h
  refine Rn.call (d1 := d + 2) (j1 := 242) (ls1 := [some (.ref 61), some (.int s1), none]) (rest := []) (fun f => rfl) ?_
  refine p_X12_firstWith (d := d + 1) s1 I J (t := o) ho ?_
  exact p_X12_isCover_6 x1 x2 o.1 o.2.1 o.2.2 h hC
theorem p_X12_isCover_4 {L : Nat} {xs : Nat → Int32} {d : Nat} {Q : xO → Prop} (x1 : Int32) (x2 : Int32) (I : xI) (J : xJ) {t : (Int32 × Int32 × xI × xJ) ⊕ ((Int32 × (Option Value) × xI × xJ) ⊕ (Int32 × xI × xJ))} (h : f_X12_isCover_4 x1 x2 I J = some t) (hC : (c_X12_isCover_3 L xs d Q) t) : Rn L xs (d + 3) 243 20 [some (.ref 61), some (.int x1), some (.int x2)] [] 94 (I, J, xrf) Q := by
  unfold f_X12_isCover_4 at h
  obtain ⟨hc, h⟩ := xif h
  refine Rn.ok 6 (c := x1 < 0 ∨ 6 ≤ x1.toNatClampNeg) (p1 := 28) (l1 := [some (.ref 61), some (.int x1), some (.int x2)]) (s1 := [.int ((I 79 x1.toNatClampNeg)), .ref 61, .ref 61]) (n1 := 94) (M1 := (I, J, xrf)) (fun f => rfl) hc ?_
  refine Rn.go 1 (j' := 243) (pc' := 29) (ls' := [some (.ref 61), some (.int x1), some (.int x2)]) (st' := [.int x2, .int ((I 79 x1.toNatClampNeg)), .ref 61, .ref 61]) (n' := 94) (M' := (I, J, xrf)) (fun f => rfl) ?_
  obtain ⟨o, ho, h⟩ := Option.bind_eq_some_iff.mp h
  refine Rn.call (d1 := d + 2) (j1 := 240) (ls1 := [some (.ref 61), some (.int ((I 79 x1.toNatClampNeg))), some (.int x2), none, none]) (rest := [.ref 61]) (fun f => rfl) ?_
  refine p_X12_ledTo (d := d + 0) ((I 79 x1.toNatClampNeg)) x2 I J (t := o) ho ?_
  exact p_X12_isCover_5 x1 x2 o.1 o.2.1 o.2.2 h hC
theorem q_X12_isCover_3 {L : Nat} {xs : Nat → Int32} {d : Nat} {Q : xO → Prop} (x1 : Int32) (x2 : Int32) (I : xI) (J : xJ) {t : (Int32 × Int32 × xI × xJ) ⊕ ((Int32 × (Option Value) × xI × xJ) ⊕ (Int32 × xI × xJ))} (h : b_X12_isCover_3 x1 x2 I J = some t) (hC : (c_X12_isCover_3 L xs d Q) t) : Rn L xs (d + 3) 243 12 [some (.ref 61), some (.int x1), some (.int x2)] [] 94 (I, J, xrf) Q := by
  unfold b_X12_isCover_3 at h
  refine Rn.fi 4 (c := (I 61 18) ≤ x2) (p1 := 46) (l1 := [some (.ref 61), some (.int x1), some (.int x2)]) (s1 := []) (n1 := 94) (M1 := (I, J, xrf)) (p2 := 20) (l2 := [some (.ref 61), some (.int x1), some (.int x2)]) (s2 := []) (n2 := 94) (M2 := (I, J, xrf)) (fun f => rfl) (fun hc => ?_) (fun hc => ?_)
  · rw [if_pos hc] at h
    obtain ⟨t0, h0, rfl⟩ := Option.map_eq_some_iff.mp h
    exact p_X12_isCover_9 x1 x2 I J h0 hC
  · rw [if_neg hc] at h
    exact p_X12_isCover_4 x1 x2 I J h hC
theorem p_X12_isCover_3 {L : Nat} {xs : Nat → Int32} {d : Nat} {Q : xO → Prop} (x1 : Int32) (x2 : Int32) (I : xI) (J : xJ) {t : (Int32 × (Option Value) × xI × xJ) ⊕ (Int32 × xI × xJ)} (h : f_X12_isCover_3 x1 x2 I J = some t) (hC : (c_X12_isCover_1 L xs d Q) t) : Rn L xs (d + 3) 243 12 [some (.ref 61), some (.int x1), some (.int x2)] [] 94 (I, J, xrf) Q := by
  unfold f_X12_isCover_3 at h
  exact xloop_some (P := fun s : Int32 × Int32 × xI × xJ => Rn L xs (d + 3) 243 12 [some (.ref 61), some (.int s.1), some (.int s.2.1)] [] 94 (s.2.2.1, s.2.2.2, xrf) Q) t (fun s ⟨s', hb, hp⟩ => q_X12_isCover_3 s.1 s.2.1 s.2.2.1 s.2.2.2 hb hp) (fun s hb => q_X12_isCover_3 s.1 s.2.1 s.2.2.1 s.2.2.2 hb hC) _ _ h
theorem p_X12_isCover_2 {L : Nat} {xs : Nat → Int32} {d : Nat} {Q : xO → Prop} (x1 : Int32) (z2 : Option Value) (I : xI) (J : xJ) {t : (Int32 × (Option Value) × xI × xJ) ⊕ (Int32 × xI × xJ)} (h : f_X12_isCover_2 x1 z2 I J = some t) (hC : (c_X12_isCover_1 L xs d Q) t) : Rn L xs (d + 3) 243 10 [some (.ref 61), some (.int x1), z2] [] 94 (I, J, xrf) Q := by
  unfold f_X12_isCover_2 at h
  refine Rn.go 2 (j' := 243) (pc' := 12) (ls' := [some (.ref 61), some (.int x1), some (.int 0)]) (st' := []) (n' := 94) (M' := (I, J, xrf)) (fun f => rfl) ?_
  exact p_X12_isCover_3 x1 0 I J h hC
theorem q_X12_isCover_1 {L : Nat} {xs : Nat → Int32} {d : Nat} {Q : xO → Prop} (x1 : Int32) (z2 : Option Value) (I : xI) (J : xJ) {t : (Int32 × (Option Value) × xI × xJ) ⊕ (Int32 × xI × xJ)} (h : b_X12_isCover_1 x1 z2 I J = some t) (hC : (c_X12_isCover_1 L xs d Q) t) : Rn L xs (d + 3) 243 2 [some (.ref 61), some (.int x1), z2] [] 94 (I, J, xrf) Q := by
  unfold b_X12_isCover_1 at h
  refine Rn.fi 4 (c := (I 61 37) ≤ x1) (p1 := 52) (l1 := [some (.ref 61), some (.int x1), z2]) (s1 := []) (n1 := 94) (M1 := (I, J, xrf)) (p2 := 10) (l2 := [some (.ref 61), some (.int x1), z2]) (s2 := []) (n2 := 94) (M2 := (I, J, xrf)) (fun f => rfl) (fun hc => ?_) (fun hc => ?_)
  · rw [if_pos hc] at h
    obtain ⟨t0, h0, rfl⟩ := Option.map_eq_some_iff.mp h
    exact p_X12_isCover_10 x1 z2 I J h0 hC
  · rw [if_neg hc] at h
    exact p_X12_isCover_2 x1 z2 I J h hC
theorem p_X12_isCover_1 {L : Nat} {xs : Nat → Int32} {d : Nat} {Q : xO → Prop} (x1 : Int32) (z2 : Option Value) (I : xI) (J : xJ) {t : Int32 × xI × xJ} (h : f_X12_isCover_1 x1 z2 I J = some t) (hC : (c_X12_isCover Q) t) : Rn L xs (d + 3) 243 2 [some (.ref 61), some (.int x1), z2] [] 94 (I, J, xrf) Q := by
  unfold f_X12_isCover_1 at h
  exact xloop_some (P := fun s : Int32 × (Option Value) × xI × xJ => Rn L xs (d + 3) 243 2 [some (.ref 61), some (.int s.1), s.2.1] [] 94 (s.2.2.1, s.2.2.2, xrf) Q) t (fun s ⟨s', hb, hp⟩ => q_X12_isCover_1 s.1 s.2.1 s.2.2.1 s.2.2.2 hb hp) (fun s hb => q_X12_isCover_1 s.1 s.2.1 s.2.2.1 s.2.2.2 hb hC) _ _ h
theorem p_X12_isCover_0 {L : Nat} {xs : Nat → Int32} {d : Nat} {Q : xO → Prop} (I : xI) (J : xJ) {t : Int32 × xI × xJ} (h : f_X12_isCover_0 I J = some t) (hC : (c_X12_isCover Q) t) : Rn L xs (d + 3) 243 0 [some (.ref 61), none, none] [] 94 (I, J, xrf) Q := by
  unfold f_X12_isCover_0 at h
  refine Rn.go 2 (j' := 243) (pc' := 2) (ls' := [some (.ref 61), some (.int 0), none]) (st' := []) (n' := 94) (M' := (I, J, xrf)) (fun f => rfl) ?_
  exact p_X12_isCover_1 0 none I J h hC
theorem p_X12_isCover {L : Nat} {xs : Nat → Int32} {d : Nat} {Q : xO → Prop} (I : xI) (J : xJ) {t : Int32 × xI × xJ} (h : f_X12_isCover I J = some t) (hC : Q ((some (.int t.1)), 94, (t.2.1, t.2.2, xrf))) : Rn L xs (d + 3) 243 0 [some (.ref 61), none, none] [] 94 (I, J, xrf) Q := p_X12_isCover_0 I J h hC
/-! X12_nextPick -/
def c_X12_nextPick (Q : xO → Prop) (t : Int32 × xI × xJ) : Prop := Q ((some (.int t.1)), 94, (t.2.1, t.2.2, xrf))
def c_X12_nextPick_1 (L : Nat) (xs : Nat → Int32) (d : Nat) (Q : xO → Prop) (t : (Int32 × Int32 × Int32 × xI × xJ) ⊕ (Int32 × xI × xJ)) : Prop := match t with
  | .inl s => Rn L xs (d + 1) 245 4 [some (.ref 61), some (.int s.1), some (.int s.2.1), some (.int s.2.2.1), none] [] 94 (s.2.2.2.1, s.2.2.2.2, xrf) Q
  | .inr t => (c_X12_nextPick Q) t
def c_X12_nextPick_5 (L : Nat) (xs : Nat → Int32) (d : Nat) (Q : xO → Prop) (t : (Int32 × Int32 × Int32 × Int32 × xI × xJ) ⊕ (Int32 × xI × xJ)) : Prop := match t with
  | .inl s => Rn L xs (d + 1) 245 40 [some (.ref 61), some (.int s.1), some (.int s.2.1), some (.int s.2.2.1), some (.int s.2.2.2.1)] [] 94 (s.2.2.2.2.1, s.2.2.2.2.2, xrf) Q
  | .inr t => (c_X12_nextPick Q) t
def f_X12_nextPick_9 (x1 : Int32) (x2 : Int32) (x3 : Int32) (I : xI) (J : xJ) : Option (Int32 × xI × xJ) := some (0, I, J)
def f_X12_nextPick_7 (x1 : Int32) (x2 : Int32) (x3 : Int32) (x4 : Int32) (I : xI) (J : xJ) : Option (Int32 × xI × xJ) := some (1, I, J)
def f_X12_nextPick_6 (x1 : Int32) (x2 : Int32) (x3 : Int32) (x4 : Int32) (I : xI) (J : xJ) : Option ((Int32 × Int32 × Int32 × Int32 × xI × xJ) ⊕ (Int32 × xI × xJ)) := if (x4 - 1) < 0 ∨ 8 ≤ ((x4 - 1)).toNatClampNeg then none else if x4 < 0 ∨ 8 ≤ x4.toNatClampNeg then none else some (.inl (x1, x2, x3, ((x4 + 1)), ((xup I 80 x4.toNatClampNeg (((I 80 ((x4 - 1)).toNatClampNeg) + 1)))), J))
def b_X12_nextPick_5 (x1 : Int32) (x2 : Int32) (x3 : Int32) (x4 : Int32) (I : xI) (J : xJ) : Option ((Int32 × Int32 × Int32 × Int32 × xI × xJ) ⊕ (Int32 × xI × xJ)) := if x1 ≤ x4 then ((f_X12_nextPick_7 x1 x2 x3 x4 I J)).map .inr else f_X12_nextPick_6 x1 x2 x3 x4 I J
def f_X12_nextPick_5 (x1 : Int32) (x2 : Int32) (x3 : Int32) (x4 : Int32) (I : xI) (J : xJ) : Option (Int32 × xI × xJ) := xloop (fun s : Int32 × Int32 × Int32 × Int32 × xI × xJ => b_X12_nextPick_5 s.1 s.2.1 s.2.2.1 s.2.2.2.1 s.2.2.2.2.1 s.2.2.2.2.2) 5000 (x1, x2, x3, x4, I, J)
def f_X12_nextPick_4 (x1 : Int32) (x2 : Int32) (x3 : Int32) (I : xI) (J : xJ) : Option (Int32 × xI × xJ) := if x3 < 0 ∨ 8 ≤ x3.toNatClampNeg then none else if x3 < 0 ∨ 8 ≤ x3.toNatClampNeg then none else f_X12_nextPick_5 x1 x2 x3 ((x3 + 1)) ((xup I 80 x3.toNatClampNeg (((I 80 x3.toNatClampNeg) + 1)))) J
def f_X12_nextPick_8 (x1 : Int32) (x2 : Int32) (x3 : Int32) (I : xI) (J : xJ) : Option ((Int32 × Int32 × Int32 × xI × xJ) ⊕ (Int32 × xI × xJ)) := some (.inl (x1, x2, ((x3 + Int32.ofInt (-1))), I, J))
def f_X12_nextPick_3 (x1 : Int32) (x2 : Int32) (x3 : Int32) (I : xI) (J : xJ) : Option ((Int32 × Int32 × Int32 × xI × xJ) ⊕ (Int32 × xI × xJ)) := f_X12_nextPick_8 x1 x2 x3 I J
def f_X12_nextPick_2 (x1 : Int32) (x2 : Int32) (x3 : Int32) (I : xI) (J : xJ) : Option ((Int32 × Int32 × Int32 × xI × xJ) ⊕ (Int32 × xI × xJ)) := if x3 < 0 ∨ 8 ≤ x3.toNatClampNeg then none else if (I 80 x3.toNatClampNeg) < ((x2 - x1) + x3) then ((f_X12_nextPick_4 x1 x2 x3 I J)).map .inr else f_X12_nextPick_3 x1 x2 x3 I J
def b_X12_nextPick_1 (x1 : Int32) (x2 : Int32) (x3 : Int32) (I : xI) (J : xJ) : Option ((Int32 × Int32 × Int32 × xI × xJ) ⊕ (Int32 × xI × xJ)) := if x3 < 0 then ((f_X12_nextPick_9 x1 x2 x3 I J)).map .inr else f_X12_nextPick_2 x1 x2 x3 I J
def f_X12_nextPick_1 (x1 : Int32) (x2 : Int32) (x3 : Int32) (I : xI) (J : xJ) : Option (Int32 × xI × xJ) := xloop (fun s : Int32 × Int32 × Int32 × xI × xJ => b_X12_nextPick_1 s.1 s.2.1 s.2.2.1 s.2.2.2.1 s.2.2.2.2) 5000 (x1, x2, x3, I, J)
def f_X12_nextPick_0 (x1 : Int32) (x2 : Int32) (I : xI) (J : xJ) : Option (Int32 × xI × xJ) := f_X12_nextPick_1 x1 x2 ((x1 - 1)) I J
def f_X12_nextPick (x1 : Int32) (x2 : Int32) (I : xI) (J : xJ) : Option (Int32 × xI × xJ) := f_X12_nextPick_0 x1 x2 I J
theorem p_X12_nextPick_9 {L : Nat} {xs : Nat → Int32} {d : Nat} {Q : xO → Prop} (x1 : Int32) (x2 : Int32) (x3 : Int32) (I : xI) (J : xJ) {t : Int32 × xI × xJ} (h : f_X12_nextPick_9 x1 x2 x3 I J = some t) (hC : (c_X12_nextPick Q) t) : Rn L xs (d + 1) 245 78 [some (.ref 61), some (.int x1), some (.int x2), some (.int x3), none] [] 94 (I, J, xrf) Q := by
  unfold f_X12_nextPick_9 at h
  cases h
  exact Rn.ret 2 (o := ((some (.int 0)), 94, (I, J, xrf))) (fun f => rfl) hC
theorem p_X12_nextPick_7 {L : Nat} {xs : Nat → Int32} {d : Nat} {Q : xO → Prop} (x1 : Int32) (x2 : Int32) (x3 : Int32) (x4 : Int32) (I : xI) (J : xJ) {t : Int32 × xI × xJ} (h : f_X12_nextPick_7 x1 x2 x3 x4 I J = some t) (hC : (c_X12_nextPick Q) t) : Rn L xs (d + 1) 245 70 [some (.ref 61), some (.int x1), some (.int x2), some (.int x3), some (.int x4)] [] 94 (I, J, xrf) Q := by
  unfold f_X12_nextPick_7 at h
  cases h
  exact Rn.ret 2 (o := ((some (.int 1)), 94, (I, J, xrf))) (fun f => rfl) hC
theorem p_X12_nextPick_6 {L : Nat} {xs : Nat → Int32} {d : Nat} {Q : xO → Prop} (x1 : Int32) (x2 : Int32) (x3 : Int32) (x4 : Int32) (I : xI) (J : xJ) {t : (Int32 × Int32 × Int32 × Int32 × xI × xJ) ⊕ (Int32 × xI × xJ)} (h : f_X12_nextPick_6 x1 x2 x3 x4 I J = some t) (hC : (c_X12_nextPick_5 L xs d Q) t) : Rn L xs (d + 1) 245 46 [some (.ref 61), some (.int x1), some (.int x2), some (.int x3), some (.int x4)] [] 94 (I, J, xrf) Q := by
  unfold f_X12_nextPick_6 at h
  obtain ⟨hc, h⟩ := xif h
  refine Rn.ok 9 (c := (x4 - 1) < 0 ∨ 8 ≤ ((x4 - 1)).toNatClampNeg) (p1 := 61) (l1 := [some (.ref 61), some (.int x1), some (.int x2), some (.int x3), some (.int x4)]) (s1 := [.int ((I 80 ((x4 - 1)).toNatClampNeg)), .int x4, .ref 80]) (n1 := 94) (M1 := (I, J, xrf)) (fun f => rfl) hc ?_
  obtain ⟨hc, h⟩ := xif h
  refine Rn.ok 3 (c := x4 < 0 ∨ 8 ≤ x4.toNatClampNeg) (p1 := 64) (l1 := [some (.ref 61), some (.int x1), some (.int x2), some (.int x3), some (.int x4)]) (s1 := []) (n1 := 94) (M1 := ((xup I 80 x4.toNatClampNeg (((I 80 ((x4 - 1)).toNatClampNeg) + 1))), J, xrf)) (fun f => rfl) hc ?_
  refine Rn.go 2 (j' := 245) (pc' := 40) (ls' := [some (.ref 61), some (.int x1), some (.int x2), some (.int x3), some (.int ((x4 + 1)))]) (st' := []) (n' := 94) (M' := ((xup I 80 x4.toNatClampNeg (((I 80 ((x4 - 1)).toNatClampNeg) + 1))), J, xrf)) (fun f => rfl) ?_
  cases h; exact hC
theorem q_X12_nextPick_5 {L : Nat} {xs : Nat → Int32} {d : Nat} {Q : xO → Prop} (x1 : Int32) (x2 : Int32) (x3 : Int32) (x4 : Int32) (I : xI) (J : xJ) {t : (Int32 × Int32 × Int32 × Int32 × xI × xJ) ⊕ (Int32 × xI × xJ)} (h : b_X12_nextPick_5 x1 x2 x3 x4 I J = some t) (hC : (c_X12_nextPick_5 L xs d Q) t) : Rn L xs (d + 1) 245 40 [some (.ref 61), some (.int x1), some (.int x2), some (.int x3), some (.int x4)] [] 94 (I, J, xrf) Q := by
  unfold b_X12_nextPick_5 at h
  refine Rn.fi 3 (c := x1 ≤ x4) (p1 := 70) (l1 := [some (.ref 61), some (.int x1), some (.int x2), some (.int x3), some (.int x4)]) (s1 := []) (n1 := 94) (M1 := (I, J, xrf)) (p2 := 46) (l2 := [some (.ref 61), some (.int x1), some (.int x2), some (.int x3), some (.int x4)]) (s2 := []) (n2 := 94) (M2 := (I, J, xrf)) (fun f => rfl) (fun hc => ?_) (fun hc => ?_)
  · rw [if_pos hc] at h
    obtain ⟨t0, h0, rfl⟩ := Option.map_eq_some_iff.mp h
    exact p_X12_nextPick_7 x1 x2 x3 x4 I J h0 hC
  · rw [if_neg hc] at h
    exact p_X12_nextPick_6 x1 x2 x3 x4 I J h hC
theorem p_X12_nextPick_5 {L : Nat} {xs : Nat → Int32} {d : Nat} {Q : xO → Prop} (x1 : Int32) (x2 : Int32) (x3 : Int32) (x4 : Int32) (I : xI) (J : xJ) {t : Int32 × xI × xJ} (h : f_X12_nextPick_5 x1 x2 x3 x4 I J = some t) (hC : (c_X12_nextPick Q) t) : Rn L xs (d + 1) 245 40 [some (.ref 61), some (.int x1), some (.int x2), some (.int x3), some (.int x4)] [] 94 (I, J, xrf) Q := by
  unfold f_X12_nextPick_5 at h
  exact xloop_some (P := fun s : Int32 × Int32 × Int32 × Int32 × xI × xJ => Rn L xs (d + 1) 245 40 [some (.ref 61), some (.int s.1), some (.int s.2.1), some (.int s.2.2.1), some (.int s.2.2.2.1)] [] 94 (s.2.2.2.2.1, s.2.2.2.2.2, xrf) Q) t (fun s ⟨s', hb, hp⟩ => q_X12_nextPick_5 s.1 s.2.1 s.2.2.1 s.2.2.2.1 s.2.2.2.2.1 s.2.2.2.2.2 hb hp) (fun s hb => q_X12_nextPick_5 s.1 s.2.1 s.2.2.1 s.2.2.2.1 s.2.2.2.2.1 s.2.2.2.2.2 hb hC) _ _ h
theorem p_X12_nextPick_4 {L : Nat} {xs : Nat → Int32} {d : Nat} {Q : xO → Prop} (x1 : Int32) (x2 : Int32) (x3 : Int32) (I : xI) (J : xJ) {t : Int32 × xI × xJ} (h : f_X12_nextPick_4 x1 x2 x3 I J = some t) (hC : (c_X12_nextPick Q) t) : Rn L xs (d + 1) 245 25 [some (.ref 61), some (.int x1), some (.int x2), some (.int x3), none] [] 94 (I, J, xrf) Q := by
  unfold f_X12_nextPick_4 at h
  obtain ⟨hc, h⟩ := xif h
  refine Rn.ok 5 (c := x3 < 0 ∨ 8 ≤ x3.toNatClampNeg) (p1 := 32) (l1 := [some (.ref 61), some (.int x1), some (.int x2), some (.int x3), none]) (s1 := [.int ((I 80 x3.toNatClampNeg)), .int x3, .ref 80]) (n1 := 94) (M1 := (I, J, xrf)) (fun f => rfl) hc ?_
  obtain ⟨hc, h⟩ := xif h
  refine Rn.ok 3 (c := x3 < 0 ∨ 8 ≤ x3.toNatClampNeg) (p1 := 35) (l1 := [some (.ref 61), some (.int x1), some (.int x2), some (.int x3), none]) (s1 := []) (n1 := 94) (M1 := ((xup I 80 x3.toNatClampNeg (((I 80 x3.toNatClampNeg) + 1))), J, xrf)) (fun f => rfl) hc ?_
  refine Rn.go 4 (j' := 245) (pc' := 40) (ls' := [some (.ref 61), some (.int x1), some (.int x2), some (.int x3), some (.int ((x3 + 1)))]) (st' := []) (n' := 94) (M' := ((xup I 80 x3.toNatClampNeg (((I 80 x3.toNatClampNeg) + 1))), J, xrf)) (fun f => rfl) ?_
  exact p_X12_nextPick_5 x1 x2 x3 ((x3 + 1)) ((xup I 80 x3.toNatClampNeg (((I 80 x3.toNatClampNeg) + 1)))) J h hC
theorem p_X12_nextPick_8 {L : Nat} {xs : Nat → Int32} {d : Nat} {Q : xO → Prop} (x1 : Int32) (x2 : Int32) (x3 : Int32) (I : xI) (J : xJ) {t : (Int32 × Int32 × Int32 × xI × xJ) ⊕ (Int32 × xI × xJ)} (h : f_X12_nextPick_8 x1 x2 x3 I J = some t) (hC : (c_X12_nextPick_1 L xs d Q) t) : Rn L xs (d + 1) 245 72 [some (.ref 61), some (.int x1), some (.int x2), some (.int x3), none] [] 94 (I, J, xrf) Q := by
  unfold f_X12_nextPick_8 at h
  refine Rn.go 1 (d' := (d + 1)) (j' := 245) (pc' := 75) (ls' := [some (.ref 61), some (.int x1), some (.int x2), some (.int ((x3 + Int32.ofInt (-1)))), none]) (st' := []) (n' := 94) (M' := (I, J, xrf)) (fun f => xrun_iinc 3 (-1) x3 rfl rfl rfl) ?_
  refine Rn.go 1 (j' := 245) (pc' := 4) (ls' := [some (.ref 61), some (.int x1), some (.int x2), some (.int ((x3 + Int32.ofInt (-1)))), none]) (st' := []) (n' := 94) (M' := (I, J, xrf)) (fun f => rfl) ?_
  cases h; exact hC
theorem p_X12_nextPick_3 {L : Nat} {xs : Nat → Int32} {d : Nat} {Q : xO → Prop} (x1 : Int32) (x2 : Int32) (x3 : Int32) (I : xI) (J : xJ) {t : (Int32 × Int32 × Int32 × xI × xJ) ⊕ (Int32 × xI × xJ)} (h : f_X12_nextPick_3 x1 x2 x3 I J = some t) (hC : (c_X12_nextPick_1 L xs d Q) t) : Rn L xs (d + 1) 245 22 [some (.ref 61), some (.int x1), some (.int x2), some (.int x3), none] [] 94 (I, J, xrf) Q := by
  unfold f_X12_nextPick_3 at h
  refine Rn.go 1 (j' := 245) (pc' := 72) (ls' := [some (.ref 61), some (.int x1), some (.int x2), some (.int x3), none]) (st' := []) (n' := 94) (M' := (I, J, xrf)) (fun f => rfl) ?_
  exact p_X12_nextPick_8 x1 x2 x3 I J h hC
theorem p_X12_nextPick_2 {L : Nat} {xs : Nat → Int32} {d : Nat} {Q : xO → Prop} (x1 : Int32) (x2 : Int32) (x3 : Int32) (I : xI) (J : xJ) {t : (Int32 × Int32 × Int32 × xI × xJ) ⊕ (Int32 × xI × xJ)} (h : f_X12_nextPick_2 x1 x2 x3 I J = some t) (hC : (c_X12_nextPick_1 L xs d Q) t) : Rn L xs (d + 1) 245 8 [some (.ref 61), some (.int x1), some (.int x2), some (.int x3), none] [] 94 (I, J, xrf) Q := by
  unfold f_X12_nextPick_2 at h
  obtain ⟨hc, h⟩ := xif h
  refine Rn.ok 4 (c := x3 < 0 ∨ 8 ≤ x3.toNatClampNeg) (p1 := 14) (l1 := [some (.ref 61), some (.int x1), some (.int x2), some (.int x3), none]) (s1 := [.int ((I 80 x3.toNatClampNeg))]) (n1 := 94) (M1 := (I, J, xrf)) (fun f => rfl) hc ?_
  refine Rn.fi 6 (c := (I 80 x3.toNatClampNeg) < ((x2 - x1) + x3)) (p1 := 25) (l1 := [some (.ref 61), some (.int x1), some (.int x2), some (.int x3), none]) (s1 := []) (n1 := 94) (M1 := (I, J, xrf)) (p2 := 22) (l2 := [some (.ref 61), some (.int x1), some (.int x2), some (.int x3), none]) (s2 := []) (n2 := 94) (M2 := (I, J, xrf)) (fun f => rfl) (fun hc => ?_) (fun hc => ?_)
  · rw [if_pos hc] at h
    obtain ⟨t0, h0, rfl⟩ := Option.map_eq_some_iff.mp h
    exact p_X12_nextPick_4 x1 x2 x3 I J h0 hC
  · rw [if_neg hc] at h
    exact p_X12_nextPick_3 x1 x2 x3 I J h hC
theorem q_X12_nextPick_1 {L : Nat} {xs : Nat → Int32} {d : Nat} {Q : xO → Prop} (x1 : Int32) (x2 : Int32) (x3 : Int32) (I : xI) (J : xJ) {t : (Int32 × Int32 × Int32 × xI × xJ) ⊕ (Int32 × xI × xJ)} (h : b_X12_nextPick_1 x1 x2 x3 I J = some t) (hC : (c_X12_nextPick_1 L xs d Q) t) : Rn L xs (d + 1) 245 4 [some (.ref 61), some (.int x1), some (.int x2), some (.int x3), none] [] 94 (I, J, xrf) Q := by
  unfold b_X12_nextPick_1 at h
  refine Rn.fi 2 (c := x3 < 0) (p1 := 78) (l1 := [some (.ref 61), some (.int x1), some (.int x2), some (.int x3), none]) (s1 := []) (n1 := 94) (M1 := (I, J, xrf)) (p2 := 8) (l2 := [some (.ref 61), some (.int x1), some (.int x2), some (.int x3), none]) (s2 := []) (n2 := 94) (M2 := (I, J, xrf)) (fun f => rfl) (fun hc => ?_) (fun hc => ?_)
  · rw [if_pos hc] at h
    obtain ⟨t0, h0, rfl⟩ := Option.map_eq_some_iff.mp h
    exact p_X12_nextPick_9 x1 x2 x3 I J h0 hC
  · rw [if_neg hc] at h
    exact p_X12_nextPick_2 x1 x2 x3 I J h hC
theorem p_X12_nextPick_1 {L : Nat} {xs : Nat → Int32} {d : Nat} {Q : xO → Prop} (x1 : Int32) (x2 : Int32) (x3 : Int32) (I : xI) (J : xJ) {t : Int32 × xI × xJ} (h : f_X12_nextPick_1 x1 x2 x3 I J = some t) (hC : (c_X12_nextPick Q) t) : Rn L xs (d + 1) 245 4 [some (.ref 61), some (.int x1), some (.int x2), some (.int x3), none] [] 94 (I, J, xrf) Q := by
  unfold f_X12_nextPick_1 at h
  exact xloop_some (P := fun s : Int32 × Int32 × Int32 × xI × xJ => Rn L xs (d + 1) 245 4 [some (.ref 61), some (.int s.1), some (.int s.2.1), some (.int s.2.2.1), none] [] 94 (s.2.2.2.1, s.2.2.2.2, xrf) Q) t (fun s ⟨s', hb, hp⟩ => q_X12_nextPick_1 s.1 s.2.1 s.2.2.1 s.2.2.2.1 s.2.2.2.2 hb hp) (fun s hb => q_X12_nextPick_1 s.1 s.2.1 s.2.2.1 s.2.2.2.1 s.2.2.2.2 hb hC) _ _ h
theorem p_X12_nextPick_0 {L : Nat} {xs : Nat → Int32} {d : Nat} {Q : xO → Prop} (x1 : Int32) (x2 : Int32) (I : xI) (J : xJ) {t : Int32 × xI × xJ} (h : f_X12_nextPick_0 x1 x2 I J = some t) (hC : (c_X12_nextPick Q) t) : Rn L xs (d + 1) 245 0 [some (.ref 61), some (.int x1), some (.int x2), none, none] [] 94 (I, J, xrf) Q := by
  unfold f_X12_nextPick_0 at h
  refine Rn.go 4 (j' := 245) (pc' := 4) (ls' := [some (.ref 61), some (.int x1), some (.int x2), some (.int ((x1 - 1))), none]) (st' := []) (n' := 94) (M' := (I, J, xrf)) (fun f => rfl) ?_
  exact p_X12_nextPick_1 x1 x2 ((x1 - 1)) I J h hC
theorem p_X12_nextPick {L : Nat} {xs : Nat → Int32} {d : Nat} {Q : xO → Prop} (x1 : Int32) (x2 : Int32) (I : xI) (J : xJ) {t : Int32 × xI × xJ} (h : f_X12_nextPick x1 x2 I J = some t) (hC : Q ((some (.int t.1)), 94, (t.2.1, t.2.2, xrf))) : Rn L xs (d + 1) 245 0 [some (.ref 61), some (.int x1), some (.int x2), none, none] [] 94 (I, J, xrf) Q := p_X12_nextPick_0 x1 x2 I J h hC
/-! X12_hasCover -/
def c_X12_hasCover (Q : xO → Prop) (t : Int32 × xI × xJ) : Prop := Q ((some (.int t.1)), 94, (t.2.1, t.2.2, xrf))
def c_X12_hasCover_3 (L : Nat) (xs : Nat → Int32) (d : Nat) (Q : xO → Prop) (t : ((Option Value) × (Option Value) × xI × xJ) ⊕ (Int32 × xI × xJ)) : Prop := match t with
  | .inl s => Rn L xs (d + 4) 247 21 [some (.ref 61), s.1, s.2.1] [] 94 (s.2.2.1, s.2.2.2, xrf) Q
  | .inr t => (c_X12_hasCover Q) t
def c_X12_hasCover_4 (L : Nat) (xs : Nat → Int32) (d : Nat) (Q : xO → Prop) (t : (Int32 × Int32 × xI × xJ) ⊕ (((Option Value) × (Option Value) × xI × xJ) ⊕ (Int32 × xI × xJ))) : Prop := match t with
  | .inl s => Rn L xs (d + 4) 247 25 [some (.ref 61), some (.int s.1), some (.int s.2.1)] [] 94 (s.2.2.1, s.2.2.2, xrf) Q
  | .inr t => (c_X12_hasCover_3 L xs d Q) t
def f_X12_hasCover_12 (x1 : Int32) (x2 : Int32) (I : xI) (J : xJ) : Option (Int32 × xI × xJ) := some (0, I, J)
def f_X12_hasCover_11 (x1 : Int32) (x2 : Int32) (s0 : Int32) (I : xI) (J : xJ) : Option (((Option Value) × (Option Value) × xI × xJ) ⊕ (Int32 × xI × xJ)) := if s0 = 0 then ((f_X12_hasCover_12 x1 x2 I J)).map .inr else some (.inl ((some (.int x1)), (some (.int x2)), I, J))
def f_X12_hasCover_10 (x1 : Int32) (x2 : Int32) (I : xI) (J : xJ) : Option (((Option Value) × (Option Value) × xI × xJ) ⊕ (Int32 × xI × xJ)) := (f_X12_nextPick ((I 61 37)) ((I 61 33)) I J).bind fun o => f_X12_hasCover_11 x1 x2 o.1 o.2.1 o.2.2
def f_X12_hasCover_9 (x1 : Int32) (x2 : Int32) (I : xI) (J : xJ) : Option (Int32 × xI × xJ) := some (1, I, J)
def f_X12_hasCover_8 (x1 : Int32) (x2 : Int32) (s0 : Int32) (I : xI) (J : xJ) : Option (((Option Value) × (Option Value) × xI × xJ) ⊕ (Int32 × xI × xJ)) := if s0 = 0 then f_X12_hasCover_10 x1 x2 I J else ((f_X12_hasCover_9 x1 x2 I J)).map .inr
def f_X12_hasCover_7 (x1 : Int32) (x2 : Int32) (I : xI) (J : xJ) : Option (((Option Value) × (Option Value) × xI × xJ) ⊕ (Int32 × xI × xJ)) := (f_X12_isCover I J).bind fun o => f_X12_hasCover_8 x1 x2 o.1 o.2.1 o.2.2
def f_X12_hasCover_6 (x1 : Int32) (x2 : Int32) (I : xI) (J : xJ) : Option (((Option Value) × (Option Value) × xI × xJ) ⊕ (Int32 × xI × xJ)) := if x1 = ((1 <<< ((I 61 17) &&& 31)) - 1) then f_X12_hasCover_7 x1 x2 I J else f_X12_hasCover_10 x1 x2 I J
def f_X12_hasCover_5 (x1 : Int32) (x2 : Int32) (I : xI) (J : xJ) : Option ((Int32 × Int32 × xI × xJ) ⊕ (((Option Value) × (Option Value) × xI × xJ) ⊕ (Int32 × xI × xJ))) := if x2 < 0 ∨ 8 ≤ x2.toNatClampNeg then none else if (I 80 x2.toNatClampNeg) < 0 ∨ 63 ≤ ((I 80 x2.toNatClampNeg)).toNatClampNeg then none else if x2 < 0 ∨ 6 ≤ x2.toNatClampNeg then none else if x2 < 0 ∨ 6 ≤ x2.toNatClampNeg then none else some (.inl (((x1 ||| (((xup I 79 x2.toNatClampNeg ((I 77 ((I 80 x2.toNatClampNeg)).toNatClampNeg)))) 79 x2.toNatClampNeg))), ((x2 + 1)), ((xup I 79 x2.toNatClampNeg ((I 77 ((I 80 x2.toNatClampNeg)).toNatClampNeg)))), J))
def b_X12_hasCover_4 (x1 : Int32) (x2 : Int32) (I : xI) (J : xJ) : Option ((Int32 × Int32 × xI × xJ) ⊕ (((Option Value) × (Option Value) × xI × xJ) ⊕ (Int32 × xI × xJ))) := if (I 61 37) ≤ x2 then ((f_X12_hasCover_6 x1 x2 I J)).map .inr else f_X12_hasCover_5 x1 x2 I J
def f_X12_hasCover_4 (x1 : Int32) (x2 : Int32) (I : xI) (J : xJ) : Option (((Option Value) × (Option Value) × xI × xJ) ⊕ (Int32 × xI × xJ)) := xloop (fun s : Int32 × Int32 × xI × xJ => b_X12_hasCover_4 s.1 s.2.1 s.2.2.1 s.2.2.2) 5000 (x1, x2, I, J)
def b_X12_hasCover_3 (z1 : Option Value) (z2 : Option Value) (I : xI) (J : xJ) : Option (((Option Value) × (Option Value) × xI × xJ) ⊕ (Int32 × xI × xJ)) := f_X12_hasCover_4 0 0 I J
def f_X12_hasCover_3 (z1 : Option Value) (z2 : Option Value) (I : xI) (J : xJ) : Option (Int32 × xI × xJ) := xloop (fun s : (Option Value) × (Option Value) × xI × xJ => b_X12_hasCover_3 s.1 s.2.1 s.2.2.1 s.2.2.2) 10000000000000 (z1, z2, I, J)
def f_X12_hasCover_2 (I : xI) (J : xJ) : Option (Int32 × xI × xJ) := (f_X12_firstPick ((I 61 37)) I J).bind fun o => f_X12_hasCover_3 none none o.2.1 o.2.2
def f_X12_hasCover_1 (I : xI) (J : xJ) : Option (Int32 × xI × xJ) := some (0, I, J)
def f_X12_hasCover_0 (I : xI) (J : xJ) : Option (Int32 × xI × xJ) := if (I 61 37) ≤ (I 61 33) then f_X12_hasCover_2 I J else f_X12_hasCover_1 I J
def f_X12_hasCover (I : xI) (J : xJ) : Option (Int32 × xI × xJ) := f_X12_hasCover_0 I J
theorem p_X12_hasCover_12 {L : Nat} {xs : Nat → Int32} {d : Nat} {Q : xO → Prop} (x1 : Int32) (x2 : Int32) (I : xI) (J : xJ) {t : Int32 × xI × xJ} (h : f_X12_hasCover_12 x1 x2 I J = some t) (hC : (c_X12_hasCover Q) t) : Rn L xs (d + 4) 247 101 [some (.ref 61), some (.int x1), some (.int x2)] [] 94 (I, J, xrf) Q := by
  unfold f_X12_hasCover_12 at h
  cases h
  exact Rn.ret 2 (o := ((some (.int 0)), 94, (I, J, xrf))) (fun f => rfl) hC
theorem p_X12_hasCover_11 {L : Nat} {xs : Nat → Int32} {d : Nat} {Q : xO → Prop} (x1 : Int32) (x2 : Int32) (s0 : Int32) (I : xI) (J : xJ) {t : ((Option Value) × (Option Value) × xI × xJ) ⊕ (Int32 × xI × xJ)} (h : f_X12_hasCover_11 x1 x2 s0 I J = some t) (hC : (c_X12_hasCover_3 L xs d Q) t) : Rn L xs (d + 4) 247 98 [some (.ref 61), some (.int x1), some (.int x2)] [.int s0] 94 (I, J, xrf) Q := by
  unfold f_X12_hasCover_11 at h
  refine Rn.fi 1 (c := s0 = 0) (p1 := 101) (l1 := [some (.ref 61), some (.int x1), some (.int x2)]) (s1 := []) (n1 := 94) (M1 := (I, J, xrf)) (p2 := 21) (l2 := [some (.ref 61), some (.int x1), some (.int x2)]) (s2 := []) (n2 := 94) (M2 := (I, J, xrf)) (fun f => rfl) (fun hc => ?_) (fun hc => ?_)
  · rw [if_pos hc] at h
    obtain ⟨t0, h0, rfl⟩ := Option.map_eq_some_iff.mp h
    exact p_X12_hasCover_12 x1 x2 I J h0 hC
  · rw [if_neg hc] at h
    cases h; exact hC
theorem p_X12_hasCover_10 {L : Nat} {xs : Nat → Int32} {d : Nat} {Q : xO → Prop} (x1 : Int32) (x2 : Int32) (I : xI) (J : xJ) {t : ((Option Value) × (Option Value) × xI × xJ) ⊕ (Int32 × xI × xJ)} (h : f_X12_hasCover_10 x1 x2 I J = some t) (hC : (c_X12_hasCover_3 L xs d Q) t) : Rn L xs (d + 4) 247 86 [some (.ref 61), some (.int x1), some (.int x2)] [] 94 (I, J, xrf) Q := by
  unfold f_X12_hasCover_10 at h
  refine Rn.go 5 (j' := 247) (pc' := 95) (ls' := [some (.ref 61), some (.int x1), some (.int x2)]) (st' := [.int ((I 61 33)), .int ((I 61 37)), .ref 61]) (n' := 94) (M' := (I, J, xrf)) (fun f => rfl) ?_
  obtain ⟨o, ho, h⟩ := Option.bind_eq_some_iff.mp h
  refine Rn.call (d1 := d + 3) (j1 := 245) (ls1 := [some (.ref 61), some (.int ((I 61 37))), some (.int ((I 61 33))), none, none]) (rest := []) (fun f => rfl) ?_
  refine p_X12_nextPick (d := d + 2) ((I 61 37)) ((I 61 33)) I J (t := o) ho ?_
  exact p_X12_hasCover_11 x1 x2 o.1 o.2.1 o.2.2 h hC
theorem p_X12_hasCover_9 {L : Nat} {xs : Nat → Int32} {d : Nat} {Q : xO → Prop} (x1 : Int32) (x2 : Int32) (I : xI) (J : xJ) {t : Int32 × xI × xJ} (h : f_X12_hasCover_9 x1 x2 I J = some t) (hC : (c_X12_hasCover Q) t) : Rn L xs (d + 4) 247 84 [some (.ref 61), some (.int x1), some (.int x2)] [] 94 (I, J, xrf) Q := by
  unfold f_X12_hasCover_9 at h
  cases h
  exact Rn.ret 2 (o := ((some (.int 1)), 94, (I, J, xrf))) (fun f => rfl) hC
theorem p_X12_hasCover_8 {L : Nat} {xs : Nat → Int32} {d : Nat} {Q : xO → Prop} (x1 : Int32) (x2 : Int32) (s0 : Int32) (I : xI) (J : xJ) {t : ((Option Value) × (Option Value) × xI × xJ) ⊕ (Int32 × xI × xJ)} (h : f_X12_hasCover_8 x1 x2 s0 I J = some t) (hC : (c_X12_hasCover_3 L xs d Q) t) : Rn L xs (d + 4) 247 81 [some (.ref 61), some (.int x1), some (.int x2)] [.int s0] 94 (I, J, xrf) Q := by
  unfold f_X12_hasCover_8 at h
  refine Rn.fi 1 (c := s0 = 0) (p1 := 86) (l1 := [some (.ref 61), some (.int x1), some (.int x2)]) (s1 := []) (n1 := 94) (M1 := (I, J, xrf)) (p2 := 84) (l2 := [some (.ref 61), some (.int x1), some (.int x2)]) (s2 := []) (n2 := 94) (M2 := (I, J, xrf)) (fun f => rfl) (fun hc => ?_) (fun hc => ?_)
  · rw [if_pos hc] at h
    exact p_X12_hasCover_10 x1 x2 I J h hC
  · rw [if_neg hc] at h
    obtain ⟨t0, h0, rfl⟩ := Option.map_eq_some_iff.mp h
    exact p_X12_hasCover_9 x1 x2 I J h0 hC
theorem p_X12_hasCover_7 {L : Nat} {xs : Nat → Int32} {d : Nat} {Q : xO → Prop} (x1 : Int32) (x2 : Int32) (I : xI) (J : xJ) {t : ((Option Value) × (Option Value) × xI × xJ) ⊕ (Int32 × xI × xJ)} (h : f_X12_hasCover_7 x1 x2 I J = some t) (hC : (c_X12_hasCover_3 L xs d Q) t) : Rn L xs (d + 4) 247 77 [some (.ref 61), some (.int x1), some (.int x2)] [] 94 (I, J, xrf) Q := by
  unfold f_X12_hasCover_7 at h
  refine Rn.go 1 (j' := 247) (pc' := 78) (ls' := [some (.ref 61), some (.int x1), some (.int x2)]) (st' := [.ref 61]) (n' := 94) (M' := (I, J, xrf)) (fun f => rfl) ?_
  obtain ⟨o, ho, h⟩ := Option.bind_eq_some_iff.mp h
  refine Rn.call (d1 := d + 3) (j1 := 243) (ls1 := [some (.ref 61), none, none]) (rest := []) (fun f => rfl) ?_
  refine p_X12_isCover (d := d + 0) I J (t := o) ho ?_
  exact p_X12_hasCover_8 x1 x2 o.1 o.2.1 o.2.2 h hC
theorem p_X12_hasCover_6 {L : Nat} {xs : Nat → Int32} {d : Nat} {Q : xO → Prop} (x1 : Int32) (x2 : Int32) (I : xI) (J : xJ) {t : ((Option Value) × (Option Value) × xI × xJ) ⊕ (Int32 × xI × xJ)} (h : f_X12_hasCover_6 x1 x2 I J = some t) (hC : (c_X12_hasCover_3 L xs d Q) t) : Rn L xs (d + 4) 247 65 [some (.ref 61), some (.int x1), some (.int x2)] [] 94 (I, J, xrf) Q := by
  unfold f_X12_hasCover_6 at h
  refine Rn.fi 8 (c := x1 = ((1 <<< ((I 61 17) &&& 31)) - 1)) (p1 := 77) (l1 := [some (.ref 61), some (.int x1), some (.int x2)]) (s1 := []) (n1 := 94) (M1 := (I, J, xrf)) (p2 := 86) (l2 := [some (.ref 61), some (.int x1), some (.int x2)]) (s2 := []) (n2 := 94) (M2 := (I, J, xrf)) (fun f => rfl) (fun hc => ?_) (fun hc => ?_)
  · rw [if_pos hc] at h
    exact p_X12_hasCover_7 x1 x2 I J h hC
  · rw [if_neg hc] at h
    exact p_X12_hasCover_10 x1 x2 I J h hC
theorem p_X12_hasCover_5 {L : Nat} {xs : Nat → Int32} {d : Nat} {Q : xO → Prop} (x1 : Int32) (x2 : Int32) (I : xI) (J : xJ) {t : (Int32 × Int32 × xI × xJ) ⊕ (((Option Value) × (Option Value) × xI × xJ) ⊕ (Int32 × xI × xJ))} (h : f_X12_hasCover_5 x1 x2 I J = some t) (hC : (c_X12_hasCover_4 L xs d Q) t) : Rn L xs (d + 4) 247 33 [some (.ref 61), some (.int x1), some (.int x2)] [] 94 (I, J, xrf) Q := by
  unfold f_X12_hasCover_5 at h
  obtain ⟨hc, h⟩ := xif h
  refine Rn.ok 9 (c := x2 < 0 ∨ 8 ≤ x2.toNatClampNeg) (p1 := 48) (l1 := [some (.ref 61), some (.int x1), some (.int x2)]) (s1 := [.int ((I 80 x2.toNatClampNeg)), .ref 77, .int x2, .ref 79]) (n1 := 94) (M1 := (I, J, xrf)) (fun f => rfl) hc ?_
  obtain ⟨hc, h⟩ := xif h
  refine Rn.ok 1 (c := (I 80 x2.toNatClampNeg) < 0 ∨ 63 ≤ ((I 80 x2.toNatClampNeg)).toNatClampNeg) (p1 := 49) (l1 := [some (.ref 61), some (.int x1), some (.int x2)]) (s1 := [.int ((I 77 ((I 80 x2.toNatClampNeg)).toNatClampNeg)), .int x2, .ref 79]) (n1 := 94) (M1 := (I, J, xrf)) (fun f => rfl) hc ?_
  obtain ⟨hc, h⟩ := xif h
  refine Rn.ok 1 (c := x2 < 0 ∨ 6 ≤ x2.toNatClampNeg) (p1 := 50) (l1 := [some (.ref 61), some (.int x1), some (.int x2)]) (s1 := []) (n1 := 94) (M1 := ((xup I 79 x2.toNatClampNeg ((I 77 ((I 80 x2.toNatClampNeg)).toNatClampNeg))), J, xrf)) (fun f => rfl) hc ?_
  obtain ⟨hc, h⟩ := xif h
  refine Rn.ok 5 (c := x2 < 0 ∨ 6 ≤ x2.toNatClampNeg) (p1 := 57) (l1 := [some (.ref 61), some (.int x1), some (.int x2)]) (s1 := [.int ((((xup I 79 x2.toNatClampNeg ((I 77 ((I 80 x2.toNatClampNeg)).toNatClampNeg)))) 79 x2.toNatClampNeg)), .int x1]) (n1 := 94) (M1 := ((xup I 79 x2.toNatClampNeg ((I 77 ((I 80 x2.toNatClampNeg)).toNatClampNeg))), J, xrf)) (fun f => rfl) hc ?_
  refine Rn.go 4 (j' := 247) (pc' := 25) (ls' := [some (.ref 61), some (.int ((x1 ||| (((xup I 79 x2.toNatClampNeg ((I 77 ((I 80 x2.toNatClampNeg)).toNatClampNeg)))) 79 x2.toNatClampNeg)))), some (.int ((x2 + 1)))]) (st' := []) (n' := 94) (M' := ((xup I 79 x2.toNatClampNeg ((I 77 ((I 80 x2.toNatClampNeg)).toNatClampNeg))), J, xrf)) (fun f => rfl) ?_
  cases h; exact hC
theorem q_X12_hasCover_4 {L : Nat} {xs : Nat → Int32} {d : Nat} {Q : xO → Prop} (x1 : Int32) (x2 : Int32) (I : xI) (J : xJ) {t : (Int32 × Int32 × xI × xJ) ⊕ (((Option Value) × (Option Value) × xI × xJ) ⊕ (Int32 × xI × xJ))} (h : b_X12_hasCover_4 x1 x2 I J = some t) (hC : (c_X12_hasCover_4 L xs d Q) t) : Rn L xs (d + 4) 247 25 [some (.ref 61), some (.int x1), some (.int x2)] [] 94 (I, J, xrf) Q := by
  unfold b_X12_hasCover_4 at h
  refine Rn.fi 4 (c := (I 61 37) ≤ x2) (p1 := 65) (l1 := [some (.ref 61), some (.int x1), some (.int x2)]) (s1 := []) (n1 := 94) (M1 := (I, J, xrf)) (p2 := 33) (l2 := [some (.ref 61), some (.int x1), some (.int x2)]) (s2 := []) (n2 := 94) (M2 := (I, J, xrf)) (fun f => rfl) (fun hc => ?_) (fun hc => ?_)
  · rw [if_pos hc] at h
    obtain ⟨t0, h0, rfl⟩ := Option.map_eq_some_iff.mp h
    exact p_X12_hasCover_6 x1 x2 I J h0 hC
  · rw [if_neg hc] at h
    exact p_X12_hasCover_5 x1 x2 I J h hC
theorem p_X12_hasCover_4 {L : Nat} {xs : Nat → Int32} {d : Nat} {Q : xO → Prop} (x1 : Int32) (x2 : Int32) (I : xI) (J : xJ) {t : ((Option Value) × (Option Value) × xI × xJ) ⊕ (Int32 × xI × xJ)} (h : f_X12_hasCover_4 x1 x2 I J = some t) (hC : (c_X12_hasCover_3 L xs d Q) t) : Rn L xs (d + 4) 247 25 [some (.ref 61), some (.int x1), some (.int x2)] [] 94 (I, J, xrf) Q := by
  unfold f_X12_hasCover_4 at h
  exact xloop_some (P := fun s : Int32 × Int32 × xI × xJ => Rn L xs (d + 4) 247 25 [some (.ref 61), some (.int s.1), some (.int s.2.1)] [] 94 (s.2.2.1, s.2.2.2, xrf) Q) t (fun s ⟨s', hb, hp⟩ => q_X12_hasCover_4 s.1 s.2.1 s.2.2.1 s.2.2.2 hb hp) (fun s hb => q_X12_hasCover_4 s.1 s.2.1 s.2.2.1 s.2.2.2 hb hC) _ _ h
theorem q_X12_hasCover_3 {L : Nat} {xs : Nat → Int32} {d : Nat} {Q : xO → Prop} (z1 : Option Value) (z2 : Option Value) (I : xI) (J : xJ) {t : ((Option Value) × (Option Value) × xI × xJ) ⊕ (Int32 × xI × xJ)} (h : b_X12_hasCover_3 z1 z2 I J = some t) (hC : (c_X12_hasCover_3 L xs d Q) t) : Rn L xs (d + 4) 247 21 [some (.ref 61), z1, z2] [] 94 (I, J, xrf) Q := by
  unfold b_X12_hasCover_3 at h
  refine Rn.go 4 (j' := 247) (pc' := 25) (ls' := [some (.ref 61), some (.int 0), some (.int 0)]) (st' := []) (n' := 94) (M' := (I, J, xrf)) (fun f => rfl) ?_
  exact p_X12_hasCover_4 0 0 I J h hC
theorem p_X12_hasCover_3 {L : Nat} {xs : Nat → Int32} {d : Nat} {Q : xO → Prop} (z1 : Option Value) (z2 : Option Value) (I : xI) (J : xJ) {t : Int32 × xI × xJ} (h : f_X12_hasCover_3 z1 z2 I J = some t) (hC : (c_X12_hasCover Q) t) : Rn L xs (d + 4) 247 21 [some (.ref 61), z1, z2] [] 94 (I, J, xrf) Q := by
  unfold f_X12_hasCover_3 at h
  exact xloop_some (P := fun s : (Option Value) × (Option Value) × xI × xJ => Rn L xs (d + 4) 247 21 [some (.ref 61), s.1, s.2.1] [] 94 (s.2.2.1, s.2.2.2, xrf) Q) t (fun s ⟨s', hb, hp⟩ => q_X12_hasCover_3 s.1 s.2.1 s.2.2.1 s.2.2.2 hb hp) (fun s hb => q_X12_hasCover_3 s.1 s.2.1 s.2.2.1 s.2.2.2 hb hC) _ _ h
theorem p_X12_hasCover_2 {L : Nat} {xs : Nat → Int32} {d : Nat} {Q : xO → Prop} (I : xI) (J : xJ) {t : Int32 × xI × xJ} (h : f_X12_hasCover_2 I J = some t) (hC : (c_X12_hasCover Q) t) : Rn L xs (d + 4) 247 13 [some (.ref 61), none, none] [] 94 (I, J, xrf) Q := by
  unfold f_X12_hasCover_2 at h
  refine Rn.go 3 (j' := 247) (pc' := 18) (ls' := [some (.ref 61), none, none]) (st' := [.int ((I 61 37)), .ref 61]) (n' := 94) (M' := (I, J, xrf)) (fun f => rfl) ?_
  obtain ⟨o, ho, h⟩ := Option.bind_eq_some_iff.mp h
  refine Rn.call (d1 := d + 3) (j1 := 244) (ls1 := [some (.ref 61), some (.int ((I 61 37))), none]) (rest := []) (fun f => rfl) ?_
  refine p_X12_firstPick (d := d + 2) ((I 61 37)) I J (t := o) ho ?_
  exact p_X12_hasCover_3 none none o.2.1 o.2.2 h hC
theorem p_X12_hasCover_1 {L : Nat} {xs : Nat → Int32} {d : Nat} {Q : xO → Prop} (I : xI) (J : xJ) {t : Int32 × xI × xJ} (h : f_X12_hasCover_1 I J = some t) (hC : (c_X12_hasCover Q) t) : Rn L xs (d + 4) 247 11 [some (.ref 61), none, none] [] 94 (I, J, xrf) Q := by
  unfold f_X12_hasCover_1 at h
  cases h
  exact Rn.ret 2 (o := ((some (.int 0)), 94, (I, J, xrf))) (fun f => rfl) hC
theorem p_X12_hasCover_0 {L : Nat} {xs : Nat → Int32} {d : Nat} {Q : xO → Prop} (I : xI) (J : xJ) {t : Int32 × xI × xJ} (h : f_X12_hasCover_0 I J = some t) (hC : (c_X12_hasCover Q) t) : Rn L xs (d + 4) 247 0 [some (.ref 61), none, none] [] 94 (I, J, xrf) Q := by
  unfold f_X12_hasCover_0 at h
  refine Rn.fi 5 (c := (I 61 37) ≤ (I 61 33)) (p1 := 13) (l1 := [some (.ref 61), none, none]) (s1 := []) (n1 := 94) (M1 := (I, J, xrf)) (p2 := 11) (l2 := [some (.ref 61), none, none]) (s2 := []) (n2 := 94) (M2 := (I, J, xrf)) (fun f => rfl) (fun hc => ?_) (fun hc => ?_)
  · rw [if_pos hc] at h
    exact p_X12_hasCover_2 I J h hC
  · rw [if_neg hc] at h
    exact p_X12_hasCover_1 I J h hC
theorem p_X12_hasCover {L : Nat} {xs : Nat → Int32} {d : Nat} {Q : xO → Prop} (I : xI) (J : xJ) {t : Int32 × xI × xJ} (h : f_X12_hasCover I J = some t) (hC : Q ((some (.int t.1)), 94, (t.2.1, t.2.2, xrf))) : Rn L xs (d + 4) 247 0 [some (.ref 61), none, none] [] 94 (I, J, xrf) Q := p_X12_hasCover_0 I J h hC
/-! X12_laysFewest -/
def c_X12_laysFewest (Q : xO → Prop) (t : Unit × xI × xJ) : Prop := Q (none, 94, (t.2.1, t.2.2, xrf))
def c_X12_laysFewest_1 (L : Nat) (xs : Nat → Int32) (d : Nat) (Q : xO → Prop) (t : (xI × xJ) ⊕ (Unit × xI × xJ)) : Prop := match t with
  | .inl s => Rn L xs (d + 5) 246 5 [some (.ref 61)] [] 94 (s.1, s.2, xrf) Q
  | .inr t => (c_X12_laysFewest Q) t
def f_X12_laysFewest_4 (I : xI) (J : xJ) : Option (Unit × xI × xJ) := some ((), I, J)
def f_X12_laysFewest_3 (I : xI) (J : xJ) : Option ((xI × xJ) ⊕ (Unit × xI × xJ)) := some (.inl (((xup I 61 37 (((I 61 37) + 1)))), J))
def f_X12_laysFewest_2 (s0 : Int32) (I : xI) (J : xJ) : Option ((xI × xJ) ⊕ (Unit × xI × xJ)) := if s0 = 0 then f_X12_laysFewest_3 I J else ((f_X12_laysFewest_4 I J)).map .inr
def b_X12_laysFewest_1 (I : xI) (J : xJ) : Option ((xI × xJ) ⊕ (Unit × xI × xJ)) := (f_X12_hasCover I J).bind fun o => f_X12_laysFewest_2 o.1 o.2.1 o.2.2
def f_X12_laysFewest_1 (I : xI) (J : xJ) : Option (Unit × xI × xJ) := xloop (fun s : xI × xJ => b_X12_laysFewest_1 s.1 s.2) 5000 (I, J)
def f_X12_laysFewest_0 (I : xI) (J : xJ) : Option (Unit × xI × xJ) := f_X12_laysFewest_1 ((xup I 61 37 0)) J
def f_X12_laysFewest (I : xI) (J : xJ) : Option (Unit × xI × xJ) := f_X12_laysFewest_0 I J
theorem p_X12_laysFewest_4 {L : Nat} {xs : Nat → Int32} {d : Nat} {Q : xO → Prop} (I : xI) (J : xJ) {t : Unit × xI × xJ} (h : f_X12_laysFewest_4 I J = some t) (hC : (c_X12_laysFewest Q) t) : Rn L xs (d + 5) 246 25 [some (.ref 61)] [] 94 (I, J, xrf) Q := by
  unfold f_X12_laysFewest_4 at h
  cases h
  exact Rn.ret 1 (o := (none, 94, (I, J, xrf))) (fun f => rfl) hC
theorem p_X12_laysFewest_3 {L : Nat} {xs : Nat → Int32} {d : Nat} {Q : xO → Prop} (I : xI) (J : xJ) {t : (xI × xJ) ⊕ (Unit × xI × xJ)} (h : f_X12_laysFewest_3 I J = some t) (hC : (c_X12_laysFewest_1 L xs d Q) t) : Rn L xs (d + 5) 246 12 [some (.ref 61)] [] 94 (I, J, xrf) Q := by
  unfold f_X12_laysFewest_3 at h
  refine Rn.go 7 (j' := 246) (pc' := 5) (ls' := [some (.ref 61)]) (st' := []) (n' := 94) (M' := ((xup I 61 37 (((I 61 37) + 1))), J, xrf)) (fun f => rfl) ?_
  cases h; exact hC
theorem p_X12_laysFewest_2 {L : Nat} {xs : Nat → Int32} {d : Nat} {Q : xO → Prop} (s0 : Int32) (I : xI) (J : xJ) {t : (xI × xJ) ⊕ (Unit × xI × xJ)} (h : f_X12_laysFewest_2 s0 I J = some t) (hC : (c_X12_laysFewest_1 L xs d Q) t) : Rn L xs (d + 5) 246 9 [some (.ref 61)] [.int s0] 94 (I, J, xrf) Q := by
  unfold f_X12_laysFewest_2 at h
  refine Rn.fi 1 (c := s0 = 0) (p1 := 12) (l1 := [some (.ref 61)]) (s1 := []) (n1 := 94) (M1 := (I, J, xrf)) (p2 := 25) (l2 := [some (.ref 61)]) (s2 := []) (n2 := 94) (M2 := (I, J, xrf)) (fun f => rfl) (fun hc => ?_) (fun hc => ?_)
  · rw [if_pos hc] at h
    exact p_X12_laysFewest_3 I J h hC
  · rw [if_neg hc] at h
    obtain ⟨t0, h0, rfl⟩ := Option.map_eq_some_iff.mp h
    exact p_X12_laysFewest_4 I J h0 hC
theorem q_X12_laysFewest_1 {L : Nat} {xs : Nat → Int32} {d : Nat} {Q : xO → Prop} (I : xI) (J : xJ) {t : (xI × xJ) ⊕ (Unit × xI × xJ)} (h : b_X12_laysFewest_1 I J = some t) (hC : (c_X12_laysFewest_1 L xs d Q) t) : Rn L xs (d + 5) 246 5 [some (.ref 61)] [] 94 (I, J, xrf) Q := by
  unfold b_X12_laysFewest_1 at h
  refine Rn.go 1 (j' := 246) (pc' := 6) (ls' := [some (.ref 61)]) (st' := [.ref 61]) (n' := 94) (M' := (I, J, xrf)) (fun f => rfl) ?_
  obtain ⟨o, ho, h⟩ := Option.bind_eq_some_iff.mp h
  refine Rn.call (d1 := d + 4) (j1 := 247) (ls1 := [some (.ref 61), none, none]) (rest := []) (fun f => rfl) ?_
  refine p_X12_hasCover (d := d + 0) I J (t := o) ho ?_
  exact p_X12_laysFewest_2 o.1 o.2.1 o.2.2 h hC
theorem p_X12_laysFewest_1 {L : Nat} {xs : Nat → Int32} {d : Nat} {Q : xO → Prop} (I : xI) (J : xJ) {t : Unit × xI × xJ} (h : f_X12_laysFewest_1 I J = some t) (hC : (c_X12_laysFewest Q) t) : Rn L xs (d + 5) 246 5 [some (.ref 61)] [] 94 (I, J, xrf) Q := by
  unfold f_X12_laysFewest_1 at h
  exact xloop_some (P := fun s : xI × xJ => Rn L xs (d + 5) 246 5 [some (.ref 61)] [] 94 (s.1, s.2, xrf) Q) t (fun s ⟨s', hb, hp⟩ => q_X12_laysFewest_1 s.1 s.2 hb hp) (fun s hb => q_X12_laysFewest_1 s.1 s.2 hb hC) _ _ h
theorem p_X12_laysFewest_0 {L : Nat} {xs : Nat → Int32} {d : Nat} {Q : xO → Prop} (I : xI) (J : xJ) {t : Unit × xI × xJ} (h : f_X12_laysFewest_0 I J = some t) (hC : (c_X12_laysFewest Q) t) : Rn L xs (d + 5) 246 0 [some (.ref 61)] [] 94 (I, J, xrf) Q := by
  unfold f_X12_laysFewest_0 at h
  refine Rn.go 3 (j' := 246) (pc' := 5) (ls' := [some (.ref 61)]) (st' := []) (n' := 94) (M' := ((xup I 61 37 0), J, xrf)) (fun f => rfl) ?_
  exact p_X12_laysFewest_1 ((xup I 61 37 0)) J h hC
theorem p_X12_laysFewest {L : Nat} {xs : Nat → Int32} {d : Nat} {Q : xO → Prop} (I : xI) (J : xJ) {t : Unit × xI × xJ} (h : f_X12_laysFewest I J = some t) (hC : Q (none, 94, (t.2.1, t.2.2, xrf))) : Rn L xs (d + 5) 246 0 [some (.ref 61)] [] 94 (I, J, xrf) Q := p_X12_laysFewest_0 I J h hC
/-! X12_smallTo -/
def c_X12_smallTo (Q : xO → Prop) (t : Int32 × xI × xJ) : Prop := Q ((some (.int t.1)), 94, (t.2.1, t.2.2, xrf))
def f_X12_smallTo_4 (x1 : Int32) (x2 : Int32) (x3 : Int32) (s0 : Int32) (I : xI) (J : xJ) : Option (Int32 × xI × xJ) := some (s0, I, J)
def f_X12_smallTo_3 (x1 : Int32) (x2 : Int32) (x3 : Int32) (I : xI) (J : xJ) : Option (Int32 × xI × xJ) := (f_X12_firstWith x3 I J).bind fun o => f_X12_smallTo_4 x1 x2 x3 o.1 o.2.1 o.2.2
def f_X12_smallTo_2 (x1 : Int32) (x2 : Int32) (x3 : Int32) (I : xI) (J : xJ) : Option (Int32 × xI × xJ) := f_X12_smallTo_4 x1 x2 x3 ((-2)) I J
def f_X12_smallTo_1 (x1 : Int32) (x2 : Int32) (s0 : Int32) (I : xI) (J : xJ) : Option (Int32 × xI × xJ) := if s0 = 0 then f_X12_smallTo_2 x1 x2 s0 I J else f_X12_smallTo_3 x1 x2 s0 I J
def f_X12_smallTo_0 (x1 : Int32) (x2 : Int32) (I : xI) (J : xJ) : Option (Int32 × xI × xJ) := if x1 < 0 ∨ 6 ≤ x1.toNatClampNeg then none else (f_X12_ledTo ((I 79 x1.toNatClampNeg)) x2 I J).bind fun o => f_X12_smallTo_1 x1 x2 o.1 o.2.1 o.2.2
def f_X12_smallTo (x1 : Int32) (x2 : Int32) (I : xI) (J : xJ) : Option (Int32 × xI × xJ) := f_X12_smallTo_0 x1 x2 I J
theorem p_X12_smallTo_4 {L : Nat} {xs : Nat → Int32} {d : Nat} {Q : xO → Prop} (x1 : Int32) (x2 : Int32) (x3 : Int32) (s0 : Int32) (I : xI) (J : xJ) {t : Int32 × xI × xJ} (h : f_X12_smallTo_4 x1 x2 x3 s0 I J = some t) (hC : (c_X12_smallTo Q) t) : Rn L xs (d + 3) 249 26 [some (.ref 61), some (.int x1), some (.int x2), some (.int x3)] [.int s0] 94 (I, J, xrf) Q := by
  unfold f_X12_smallTo_4 at h
  cases h
  exact Rn.ret 1 (o := ((some (.int s0)), 94, (I, J, xrf))) (fun f => rfl) hC
theorem p_X12_smallTo_3 {L : Nat} {xs : Nat → Int32} {d : Nat} {Q : xO → Prop} (x1 : Int32) (x2 : Int32) (x3 : Int32) (I : xI) (J : xJ) {t : Int32 × xI × xJ} (h : f_X12_smallTo_3 x1 x2 x3 I J = some t) (hC : (c_X12_smallTo Q) t) : Rn L xs (d + 3) 249 21 [some (.ref 61), some (.int x1), some (.int x2), some (.int x3)] [] 94 (I, J, xrf) Q := by
  unfold f_X12_smallTo_3 at h
  refine Rn.go 2 (j' := 249) (pc' := 23) (ls' := [some (.ref 61), some (.int x1), some (.int x2), some (.int x3)]) (st' := [.int x3, .ref 61]) (n' := 94) (M' := (I, J, xrf)) (fun f => rfl) ?_
  obtain ⟨o, ho, h⟩ := Option.bind_eq_some_iff.mp h
  refine Rn.call (d1 := d + 2) (j1 := 242) (ls1 := [some (.ref 61), some (.int x3), none]) (rest := []) (fun f => rfl) ?_
  refine p_X12_firstWith (d := d + 1) x3 I J (t := o) ho ?_
  exact p_X12_smallTo_4 x1 x2 x3 o.1 o.2.1 o.2.2 h hC
theorem p_X12_smallTo_2 {L : Nat} {xs : Nat → Int32} {d : Nat} {Q : xO → Prop} (x1 : Int32) (x2 : Int32) (x3 : Int32) (I : xI) (J : xJ) {t : Int32 × xI × xJ} (h : f_X12_smallTo_2 x1 x2 x3 I J = some t) (hC : (c_X12_smallTo Q) t) : Rn L xs (d + 3) 249 16 [some (.ref 61), some (.int x1), some (.int x2), some (.int x3)] [] 94 (I, J, xrf) Q := by
  unfold f_X12_smallTo_2 at h
  refine Rn.go 2 (j' := 249) (pc' := 26) (ls' := [some (.ref 61), some (.int x1), some (.int x2), some (.int x3)]) (st' := [.int ((-2))]) (n' := 94) (M' := (I, J, xrf)) (fun f => rfl) ?_
  exact p_X12_smallTo_4 x1 x2 x3 ((-2)) I J h hC
theorem p_X12_smallTo_1 {L : Nat} {xs : Nat → Int32} {d : Nat} {Q : xO → Prop} (x1 : Int32) (x2 : Int32) (s0 : Int32) (I : xI) (J : xJ) {t : Int32 × xI × xJ} (h : f_X12_smallTo_1 x1 x2 s0 I J = some t) (hC : (c_X12_smallTo Q) t) : Rn L xs (d + 3) 249 11 [some (.ref 61), some (.int x1), some (.int x2), none] [.int s0] 94 (I, J, xrf) Q := by
  unfold f_X12_smallTo_1 at h
  refine Rn.fi 3 (c := s0 = 0) (p1 := 16) (l1 := [some (.ref 61), some (.int x1), some (.int x2), some (.int s0)]) (s1 := []) (n1 := 94) (M1 := (I, J, xrf)) (p2 := 21) (l2 := [some (.ref 61), some (.int x1), some (.int x2), some (.int s0)]) (s2 := []) (n2 := 94) (M2 := (I, J, xrf)) (fun f => rfl) (fun hc => ?_) (fun hc => ?_)
  · rw [if_pos hc] at h
    exact p_X12_smallTo_2 x1 x2 s0 I J h hC
  · rw [if_neg hc] at h
    exact p_X12_smallTo_3 x1 x2 s0 I J h hC
theorem p_X12_smallTo_0 {L : Nat} {xs : Nat → Int32} {d : Nat} {Q : xO → Prop} (x1 : Int32) (x2 : Int32) (I : xI) (J : xJ) {t : Int32 × xI × xJ} (h : f_X12_smallTo_0 x1 x2 I J = some t) (hC : (c_X12_smallTo Q) t) : Rn L xs (d + 3) 249 0 [some (.ref 61), some (.int x1), some (.int x2), none] [] 94 (I, J, xrf) Q := by
  unfold f_X12_smallTo_0 at h
  obtain ⟨hc, h⟩ := xif h
  refine Rn.ok 5 (c := x1 < 0 ∨ 6 ≤ x1.toNatClampNeg) (p1 := 7) (l1 := [some (.ref 61), some (.int x1), some (.int x2), none]) (s1 := [.int ((I 79 x1.toNatClampNeg)), .ref 61]) (n1 := 94) (M1 := (I, J, xrf)) (fun f => rfl) hc ?_
  refine Rn.go 1 (j' := 249) (pc' := 8) (ls' := [some (.ref 61), some (.int x1), some (.int x2), none]) (st' := [.int x2, .int ((I 79 x1.toNatClampNeg)), .ref 61]) (n' := 94) (M' := (I, J, xrf)) (fun f => rfl) ?_
  obtain ⟨o, ho, h⟩ := Option.bind_eq_some_iff.mp h
  refine Rn.call (d1 := d + 2) (j1 := 240) (ls1 := [some (.ref 61), some (.int ((I 79 x1.toNatClampNeg))), some (.int x2), none, none]) (rest := []) (fun f => rfl) ?_
  refine p_X12_ledTo (d := d + 0) ((I 79 x1.toNatClampNeg)) x2 I J (t := o) ho ?_
  exact p_X12_smallTo_1 x1 x2 o.1 o.2.1 o.2.2 h hC
theorem p_X12_smallTo {L : Nat} {xs : Nat → Int32} {d : Nat} {Q : xO → Prop} (x1 : Int32) (x2 : Int32) (I : xI) (J : xJ) {t : Int32 × xI × xJ} (h : f_X12_smallTo x1 x2 I J = some t) (hC : Q ((some (.int t.1)), 94, (t.2.1, t.2.2, xrf))) : Rn L xs (d + 3) 249 0 [some (.ref 61), some (.int x1), some (.int x2), none] [] 94 (I, J, xrf) Q := p_X12_smallTo_0 x1 x2 I J h hC
/-! X12_laysMet -/
def c_X12_laysMet (Q : xO → Prop) (t : Unit × xI × xJ) : Prop := Q (none, 94, (t.2.1, t.2.2, xrf))
def c_X12_laysMet_10 (L : Nat) (xs : Nat → Int32) (d : Nat) (Q : xO → Prop) (t : (Int32 × (Option Value) × (Option Value) × (Option Value) × xI × xJ) ⊕ (Unit × xI × xJ)) : Prop := match t with
  | .inl s => Rn L xs (d + 4) 253 66 [some (.ref 61), some (.int s.1), s.2.1, s.2.2.1, s.2.2.2.1] [] 94 (s.2.2.2.2.1, s.2.2.2.2.2, xrf) Q
  | .inr t => (c_X12_laysMet Q) t
def c_X12_laysMet_12 (L : Nat) (xs : Nat → Int32) (d : Nat) (Q : xO → Prop) (t : (Int32 × Int32 × (Option Value) × (Option Value) × xI × xJ) ⊕ ((Int32 × (Option Value) × (Option Value) × (Option Value) × xI × xJ) ⊕ (Unit × xI × xJ))) : Prop := match t with
  | .inl s => Rn L xs (d + 4) 253 74 [some (.ref 61), some (.int s.1), some (.int s.2.1), s.2.2.1, s.2.2.2.1] [] 94 (s.2.2.2.2.1, s.2.2.2.2.2, xrf) Q
  | .inr t => (c_X12_laysMet_10 L xs d Q) t
def c_X12_laysMet_14 (L : Nat) (xs : Nat → Int32) (d : Nat) (Q : xO → Prop) (t : (Int32 × Int32 × Int32 × (Option Value) × xI × xJ) ⊕ ((Int32 × Int32 × (Option Value) × (Option Value) × xI × xJ) ⊕ ((Int32 × (Option Value) × (Option Value) × (Option Value) × xI × xJ) ⊕ (Unit × xI × xJ)))) : Prop := match t with
  | .inl s => Rn L xs (d + 4) 253 84 [some (.ref 61), some (.int s.1), some (.int s.2.1), some (.int s.2.2.1), s.2.2.2.1] [] 94 (s.2.2.2.2.1, s.2.2.2.2.2, xrf) Q
  | .inr t => (c_X12_laysMet_12 L xs d Q) t
def c_X12_laysMet_16 (L : Nat) (xs : Nat → Int32) (d : Nat) (Q : xO → Prop) (t : (Int32 × Int32 × Int32 × Int32 × xI × xJ) ⊕ ((Int32 × Int32 × Int32 × (Option Value) × xI × xJ) ⊕ ((Int32 × Int32 × (Option Value) × (Option Value) × xI × xJ) ⊕ ((Int32 × (Option Value) × (Option Value) × (Option Value) × xI × xJ) ⊕ (Unit × xI × xJ))))) : Prop := match t with
  | .inl s => Rn L xs (d + 4) 253 95 [some (.ref 61), some (.int s.1), some (.int s.2.1), some (.int s.2.2.1), some (.int s.2.2.2.1)] [] 94 (s.2.2.2.2.1, s.2.2.2.2.2, xrf) Q
  | .inr t => (c_X12_laysMet_14 L xs d Q) t
def c_X12_laysMet_1 (L : Nat) (xs : Nat → Int32) (d : Nat) (Q : xO → Prop) (t : (Int32 × (Option Value) × xI × xJ) ⊕ (Unit × xI × xJ)) : Prop := match t with
  | .inl s => Rn L xs (d + 4) 253 2 [some (.ref 61), some (.int s.1), s.2.1, none, none] [] 94 (s.2.2.1, s.2.2.2, xrf) Q
  | .inr t => (c_X12_laysMet Q) t
def c_X12_laysMet_3 (L : Nat) (xs : Nat → Int32) (d : Nat) (Q : xO → Prop) (t : (Int32 × Int32 × xI × xJ) ⊕ ((Int32 × (Option Value) × xI × xJ) ⊕ (Unit × xI × xJ))) : Prop := match t with
  | .inl s => Rn L xs (d + 4) 253 19 [some (.ref 61), some (.int s.1), some (.int s.2.1), none, none] [] 94 (s.2.2.1, s.2.2.2, xrf) Q
  | .inr t => (c_X12_laysMet_1 L xs d Q) t
def f_X12_laysMet_35 (x1 : Int32) (z2 : Option Value) (z3 : Option Value) (z4 : Option Value) (I : xI) (J : xJ) : Option (Unit × xI × xJ) := some ((), I, J)
def f_X12_laysMet_34 (x1 : Int32) (x2 : Int32) (z3 : Option Value) (z4 : Option Value) (I : xI) (J : xJ) : Option ((Int32 × (Option Value) × (Option Value) × (Option Value) × xI × xJ) ⊕ (Unit × xI × xJ)) := some (.inl (x1, (some (.int x2)), z3, z4, I, J))
def f_X12_laysMet_33 (x1 : Int32) (x2 : Int32) (x3 : Int32) (z4 : Option Value) (I : xI) (J : xJ) : Option ((Int32 × Int32 × (Option Value) × (Option Value) × xI × xJ) ⊕ ((Int32 × (Option Value) × (Option Value) × (Option Value) × xI × xJ) ⊕ (Unit × xI × xJ))) := some (.inl (x1, ((x2 + 1)), (some (.int x3)), z4, I, J))
def f_X12_laysMet_32 (x1 : Int32) (x2 : Int32) (x3 : Int32) (x4 : Int32) (I : xI) (J : xJ) : Option ((Int32 × Int32 × Int32 × (Option Value) × xI × xJ) ⊕ ((Int32 × Int32 × (Option Value) × (Option Value) × xI × xJ) ⊕ ((Int32 × (Option Value) × (Option Value) × (Option Value) × xI × xJ) ⊕ (Unit × xI × xJ)))) := some (.inl (x1, x2, ((x3 + 1)), (some (.int x4)), I, J))
def f_X12_laysMet_31 (x1 : Int32) (x2 : Int32) (x3 : Int32) (x4 : Int32) (I : xI) (J : xJ) : Option ((Int32 × Int32 × Int32 × Int32 × xI × xJ) ⊕ ((Int32 × Int32 × Int32 × (Option Value) × xI × xJ) ⊕ ((Int32 × Int32 × (Option Value) × (Option Value) × xI × xJ) ⊕ ((Int32 × (Option Value) × (Option Value) × (Option Value) × xI × xJ) ⊕ (Unit × xI × xJ))))) := some (.inl (x1, x2, x3, ((x4 + 1)), I, J))
def f_X12_laysMet_30 (x1 : Int32) (x2 : Int32) (x3 : Int32) (x4 : Int32) (s1 : Int32) (s2 : Int32) (s3 : Int32) (s4 : Int32) (I : xI) (J : xJ) : Option ((Int32 × Int32 × Int32 × Int32 × xI × xJ) ⊕ ((Int32 × Int32 × Int32 × (Option Value) × xI × xJ) ⊕ ((Int32 × Int32 × (Option Value) × (Option Value) × xI × xJ) ⊕ ((Int32 × (Option Value) × (Option Value) × (Option Value) × xI × xJ) ⊕ (Unit × xI × xJ))))) := if s1 < 0 ∨ 6 ≤ s1.toNatClampNeg then none else f_X12_laysMet_31 1 x2 x3 x4 ((xup I 81 s1.toNatClampNeg ((s2 ||| (s3 <<< (s4 &&& 31)))))) J
def f_X12_laysMet_29 (x1 : Int32) (x2 : Int32) (x3 : Int32) (x4 : Int32) (s1 : Int32) (I : xI) (J : xJ) : Option ((Int32 × Int32 × Int32 × Int32 × xI × xJ) ⊕ ((Int32 × Int32 × Int32 × (Option Value) × xI × xJ) ⊕ ((Int32 × Int32 × (Option Value) × (Option Value) × xI × xJ) ⊕ ((Int32 × (Option Value) × (Option Value) × (Option Value) × xI × xJ) ⊕ (Unit × xI × xJ))))) := if s1 < 0 ∨ 6 ≤ s1.toNatClampNeg then none else (f_X12_smallTo x3 x4 I J).bind fun o => f_X12_laysMet_30 x1 x2 x3 x4 s1 ((I 81 s1.toNatClampNeg)) 1 o.1 o.2.1 o.2.2
def f_X12_laysMet_28 (x1 : Int32) (x2 : Int32) (x3 : Int32) (x4 : Int32) (I : xI) (J : xJ) : Option ((Int32 × Int32 × Int32 × Int32 × xI × xJ) ⊕ ((Int32 × Int32 × Int32 × (Option Value) × xI × xJ) ⊕ ((Int32 × Int32 × (Option Value) × (Option Value) × xI × xJ) ⊕ ((Int32 × (Option Value) × (Option Value) × (Option Value) × xI × xJ) ⊕ (Unit × xI × xJ))))) := (f_X12_to x2 x4 I J).bind fun o => f_X12_laysMet_29 x1 x2 x3 x4 o.1 o.2.1 o.2.2
def f_X12_laysMet_27 (x1 : Int32) (x2 : Int32) (x3 : Int32) (x4 : Int32) (I : xI) (J : xJ) : Option ((Int32 × Int32 × Int32 × Int32 × xI × xJ) ⊕ ((Int32 × Int32 × Int32 × (Option Value) × xI × xJ) ⊕ ((Int32 × Int32 × (Option Value) × (Option Value) × xI × xJ) ⊕ ((Int32 × (Option Value) × (Option Value) × (Option Value) × xI × xJ) ⊕ (Unit × xI × xJ))))) := f_X12_laysMet_31 x1 x2 x3 x4 I J
def f_X12_laysMet_26 (x1 : Int32) (x2 : Int32) (x3 : Int32) (x4 : Int32) (s0 : Int32) (I : xI) (J : xJ) : Option ((Int32 × Int32 × Int32 × Int32 × xI × xJ) ⊕ ((Int32 × Int32 × Int32 × (Option Value) × xI × xJ) ⊕ ((Int32 × Int32 × (Option Value) × (Option Value) × xI × xJ) ⊕ ((Int32 × (Option Value) × (Option Value) × (Option Value) × xI × xJ) ⊕ (Unit × xI × xJ))))) := if s0 = 0 then f_X12_laysMet_28 x1 x2 x3 x4 I J else f_X12_laysMet_27 x1 x2 x3 x4 I J
def f_X12_laysMet_25 (x1 : Int32) (x2 : Int32) (x3 : Int32) (x4 : Int32) (s0 : Int32) (s1 : Int32) (I : xI) (J : xJ) : Option ((Int32 × Int32 × Int32 × Int32 × xI × xJ) ⊕ ((Int32 × Int32 × Int32 × (Option Value) × xI × xJ) ⊕ ((Int32 × Int32 × (Option Value) × (Option Value) × xI × xJ) ⊕ ((Int32 × (Option Value) × (Option Value) × (Option Value) × xI × xJ) ⊕ (Unit × xI × xJ))))) := (f_X12_has s0 s1 I J).bind fun o => f_X12_laysMet_26 x1 x2 x3 x4 o.1 o.2.1 o.2.2
def f_X12_laysMet_24 (x1 : Int32) (x2 : Int32) (x3 : Int32) (x4 : Int32) (s1 : Int32) (I : xI) (J : xJ) : Option ((Int32 × Int32 × Int32 × Int32 × xI × xJ) ⊕ ((Int32 × Int32 × Int32 × (Option Value) × xI × xJ) ⊕ ((Int32 × Int32 × (Option Value) × (Option Value) × xI × xJ) ⊕ ((Int32 × (Option Value) × (Option Value) × (Option Value) × xI × xJ) ⊕ (Unit × xI × xJ))))) := if s1 < 0 ∨ 6 ≤ s1.toNatClampNeg then none else (f_X12_smallTo x3 x4 I J).bind fun o => f_X12_laysMet_25 x1 x2 x3 x4 ((I 81 s1.toNatClampNeg)) o.1 o.2.1 o.2.2
def f_X12_laysMet_23 (x1 : Int32) (x2 : Int32) (x3 : Int32) (x4 : Int32) (I : xI) (J : xJ) : Option ((Int32 × Int32 × Int32 × Int32 × xI × xJ) ⊕ ((Int32 × Int32 × Int32 × (Option Value) × xI × xJ) ⊕ ((Int32 × Int32 × (Option Value) × (Option Value) × xI × xJ) ⊕ ((Int32 × (Option Value) × (Option Value) × (Option Value) × xI × xJ) ⊕ (Unit × xI × xJ))))) := (f_X12_to x2 x4 I J).bind fun o => f_X12_laysMet_24 x1 x2 x3 x4 o.1 o.2.1 o.2.2
def f_X12_laysMet_22 (x1 : Int32) (x2 : Int32) (x3 : Int32) (x4 : Int32) (s0 : Int32) (I : xI) (J : xJ) : Option ((Int32 × Int32 × Int32 × Int32 × xI × xJ) ⊕ ((Int32 × Int32 × Int32 × (Option Value) × xI × xJ) ⊕ ((Int32 × Int32 × (Option Value) × (Option Value) × xI × xJ) ⊕ ((Int32 × (Option Value) × (Option Value) × (Option Value) × xI × xJ) ⊕ (Unit × xI × xJ))))) := if s0 < 0 then f_X12_laysMet_31 x1 x2 x3 x4 I J else f_X12_laysMet_23 x1 x2 x3 x4 I J
def f_X12_laysMet_21 (x1 : Int32) (x2 : Int32) (x3 : Int32) (x4 : Int32) (I : xI) (J : xJ) : Option ((Int32 × Int32 × Int32 × Int32 × xI × xJ) ⊕ ((Int32 × Int32 × Int32 × (Option Value) × xI × xJ) ⊕ ((Int32 × Int32 × (Option Value) × (Option Value) × xI × xJ) ⊕ ((Int32 × (Option Value) × (Option Value) × (Option Value) × xI × xJ) ⊕ (Unit × xI × xJ))))) := (f_X12_smallTo x3 x4 I J).bind fun o => f_X12_laysMet_22 x1 x2 x3 x4 o.1 o.2.1 o.2.2
def f_X12_laysMet_20 (x1 : Int32) (x2 : Int32) (x3 : Int32) (x4 : Int32) (s0 : Int32) (I : xI) (J : xJ) : Option ((Int32 × Int32 × Int32 × Int32 × xI × xJ) ⊕ ((Int32 × Int32 × Int32 × (Option Value) × xI × xJ) ⊕ ((Int32 × Int32 × (Option Value) × (Option Value) × xI × xJ) ⊕ ((Int32 × (Option Value) × (Option Value) × (Option Value) × xI × xJ) ⊕ (Unit × xI × xJ))))) := if s0 < 0 then f_X12_laysMet_31 x1 x2 x3 x4 I J else f_X12_laysMet_21 x1 x2 x3 x4 I J
def f_X12_laysMet_19 (x1 : Int32) (x2 : Int32) (x3 : Int32) (x4 : Int32) (I : xI) (J : xJ) : Option ((Int32 × Int32 × Int32 × Int32 × xI × xJ) ⊕ ((Int32 × Int32 × Int32 × (Option Value) × xI × xJ) ⊕ ((Int32 × Int32 × (Option Value) × (Option Value) × xI × xJ) ⊕ ((Int32 × (Option Value) × (Option Value) × (Option Value) × xI × xJ) ⊕ (Unit × xI × xJ))))) := (f_X12_to x2 x4 I J).bind fun o => f_X12_laysMet_20 x1 x2 x3 x4 o.1 o.2.1 o.2.2
def f_X12_laysMet_18 (x1 : Int32) (x2 : Int32) (x3 : Int32) (x4 : Int32) (s0 : Int32) (I : xI) (J : xJ) : Option ((Int32 × Int32 × Int32 × Int32 × xI × xJ) ⊕ ((Int32 × Int32 × Int32 × (Option Value) × xI × xJ) ⊕ ((Int32 × Int32 × (Option Value) × (Option Value) × xI × xJ) ⊕ ((Int32 × (Option Value) × (Option Value) × (Option Value) × xI × xJ) ⊕ (Unit × xI × xJ))))) := if s0 = 0 then f_X12_laysMet_31 x1 x2 x3 x4 I J else f_X12_laysMet_19 x1 x2 x3 x4 I J
def f_X12_laysMet_17 (x1 : Int32) (x2 : Int32) (x3 : Int32) (x4 : Int32) (I : xI) (J : xJ) : Option ((Int32 × Int32 × Int32 × Int32 × xI × xJ) ⊕ ((Int32 × Int32 × Int32 × (Option Value) × xI × xJ) ⊕ ((Int32 × Int32 × (Option Value) × (Option Value) × xI × xJ) ⊕ ((Int32 × (Option Value) × (Option Value) × (Option Value) × xI × xJ) ⊕ (Unit × xI × xJ))))) := if x2 < 0 ∨ 6 ≤ x2.toNatClampNeg then none else (f_X12_has ((I 81 x2.toNatClampNeg)) x3 I J).bind fun o => f_X12_laysMet_18 x1 x2 x3 x4 o.1 o.2.1 o.2.2
def b_X12_laysMet_16 (x1 : Int32) (x2 : Int32) (x3 : Int32) (x4 : Int32) (I : xI) (J : xJ) : Option ((Int32 × Int32 × Int32 × Int32 × xI × xJ) ⊕ ((Int32 × Int32 × Int32 × (Option Value) × xI × xJ) ⊕ ((Int32 × Int32 × (Option Value) × (Option Value) × xI × xJ) ⊕ ((Int32 × (Option Value) × (Option Value) × (Option Value) × xI × xJ) ⊕ (Unit × xI × xJ))))) := if (I 61 18) ≤ x4 then ((f_X12_laysMet_32 x1 x2 x3 x4 I J)).map .inr else f_X12_laysMet_17 x1 x2 x3 x4 I J
def f_X12_laysMet_16 (x1 : Int32) (x2 : Int32) (x3 : Int32) (x4 : Int32) (I : xI) (J : xJ) : Option ((Int32 × Int32 × Int32 × (Option Value) × xI × xJ) ⊕ ((Int32 × Int32 × (Option Value) × (Option Value) × xI × xJ) ⊕ ((Int32 × (Option Value) × (Option Value) × (Option Value) × xI × xJ) ⊕ (Unit × xI × xJ)))) := xloop (fun s : Int32 × Int32 × Int32 × Int32 × xI × xJ => b_X12_laysMet_16 s.1 s.2.1 s.2.2.1 s.2.2.2.1 s.2.2.2.2.1 s.2.2.2.2.2) 5000 (x1, x2, x3, x4, I, J)
def f_X12_laysMet_15 (x1 : Int32) (x2 : Int32) (x3 : Int32) (z4 : Option Value) (I : xI) (J : xJ) : Option ((Int32 × Int32 × Int32 × (Option Value) × xI × xJ) ⊕ ((Int32 × Int32 × (Option Value) × (Option Value) × xI × xJ) ⊕ ((Int32 × (Option Value) × (Option Value) × (Option Value) × xI × xJ) ⊕ (Unit × xI × xJ)))) := f_X12_laysMet_16 x1 x2 x3 0 I J
def b_X12_laysMet_14 (x1 : Int32) (x2 : Int32) (x3 : Int32) (z4 : Option Value) (I : xI) (J : xJ) : Option ((Int32 × Int32 × Int32 × (Option Value) × xI × xJ) ⊕ ((Int32 × Int32 × (Option Value) × (Option Value) × xI × xJ) ⊕ ((Int32 × (Option Value) × (Option Value) × (Option Value) × xI × xJ) ⊕ (Unit × xI × xJ)))) := if (I 61 37) ≤ x3 then ((f_X12_laysMet_33 x1 x2 x3 z4 I J)).map .inr else f_X12_laysMet_15 x1 x2 x3 z4 I J
def f_X12_laysMet_14 (x1 : Int32) (x2 : Int32) (x3 : Int32) (z4 : Option Value) (I : xI) (J : xJ) : Option ((Int32 × Int32 × (Option Value) × (Option Value) × xI × xJ) ⊕ ((Int32 × (Option Value) × (Option Value) × (Option Value) × xI × xJ) ⊕ (Unit × xI × xJ))) := xloop (fun s : Int32 × Int32 × Int32 × (Option Value) × xI × xJ => b_X12_laysMet_14 s.1 s.2.1 s.2.2.1 s.2.2.2.1 s.2.2.2.2.1 s.2.2.2.2.2) 5000 (x1, x2, x3, z4, I, J)
def f_X12_laysMet_13 (x1 : Int32) (x2 : Int32) (z3 : Option Value) (z4 : Option Value) (I : xI) (J : xJ) : Option ((Int32 × Int32 × (Option Value) × (Option Value) × xI × xJ) ⊕ ((Int32 × (Option Value) × (Option Value) × (Option Value) × xI × xJ) ⊕ (Unit × xI × xJ))) := f_X12_laysMet_14 x1 x2 0 z4 I J
def b_X12_laysMet_12 (x1 : Int32) (x2 : Int32) (z3 : Option Value) (z4 : Option Value) (I : xI) (J : xJ) : Option ((Int32 × Int32 × (Option Value) × (Option Value) × xI × xJ) ⊕ ((Int32 × (Option Value) × (Option Value) × (Option Value) × xI × xJ) ⊕ (Unit × xI × xJ))) := if (I 61 17) ≤ x2 then ((f_X12_laysMet_34 x1 x2 z3 z4 I J)).map .inr else f_X12_laysMet_13 x1 x2 z3 z4 I J
def f_X12_laysMet_12 (x1 : Int32) (x2 : Int32) (z3 : Option Value) (z4 : Option Value) (I : xI) (J : xJ) : Option ((Int32 × (Option Value) × (Option Value) × (Option Value) × xI × xJ) ⊕ (Unit × xI × xJ)) := xloop (fun s : Int32 × Int32 × (Option Value) × (Option Value) × xI × xJ => b_X12_laysMet_12 s.1 s.2.1 s.2.2.1 s.2.2.2.1 s.2.2.2.2.1 s.2.2.2.2.2) 5000 (x1, x2, z3, z4, I, J)
def f_X12_laysMet_11 (x1 : Int32) (z2 : Option Value) (z3 : Option Value) (z4 : Option Value) (I : xI) (J : xJ) : Option ((Int32 × (Option Value) × (Option Value) × (Option Value) × xI × xJ) ⊕ (Unit × xI × xJ)) := f_X12_laysMet_12 0 0 z3 z4 I J
def b_X12_laysMet_10 (x1 : Int32) (z2 : Option Value) (z3 : Option Value) (z4 : Option Value) (I : xI) (J : xJ) : Option ((Int32 × (Option Value) × (Option Value) × (Option Value) × xI × xJ) ⊕ (Unit × xI × xJ)) := if x1 = 0 then ((f_X12_laysMet_35 x1 z2 z3 z4 I J)).map .inr else f_X12_laysMet_11 x1 z2 z3 z4 I J
def f_X12_laysMet_10 (x1 : Int32) (z2 : Option Value) (z3 : Option Value) (z4 : Option Value) (I : xI) (J : xJ) : Option (Unit × xI × xJ) := xloop (fun s : Int32 × (Option Value) × (Option Value) × (Option Value) × xI × xJ => b_X12_laysMet_10 s.1 s.2.1 s.2.2.1 s.2.2.2.1 s.2.2.2.2.1 s.2.2.2.2.2) 5000 (x1, z2, z3, z4, I, J)
def f_X12_laysMet_9 (x1 : Int32) (z2 : Option Value) (I : xI) (J : xJ) : Option (Unit × xI × xJ) := f_X12_laysMet_10 1 z2 none none I J
def f_X12_laysMet_8 (x1 : Int32) (x2 : Int32) (I : xI) (J : xJ) : Option ((Int32 × (Option Value) × xI × xJ) ⊕ (Unit × xI × xJ)) := some (.inl (((x1 + 1)), (some (.int x2)), I, J))
def f_X12_laysMet_7 (x1 : Int32) (x2 : Int32) (I : xI) (J : xJ) : Option ((Int32 × Int32 × xI × xJ) ⊕ ((Int32 × (Option Value) × xI × xJ) ⊕ (Unit × xI × xJ))) := some (.inl (x1, ((x2 + 1)), I, J))
def f_X12_laysMet_6 (x1 : Int32) (x2 : Int32) (I : xI) (J : xJ) : Option ((Int32 × Int32 × xI × xJ) ⊕ ((Int32 × (Option Value) × xI × xJ) ⊕ (Unit × xI × xJ))) := if x1 < 0 ∨ 6 ≤ x1.toNatClampNeg then none else if x1 < 0 ∨ 6 ≤ x1.toNatClampNeg then none else f_X12_laysMet_7 x1 x2 ((xup I 81 x1.toNatClampNeg (((I 81 x1.toNatClampNeg) ||| (1 <<< (x2 &&& 31)))))) J
def f_X12_laysMet_5 (x1 : Int32) (x2 : Int32) (s0 : Int32) (I : xI) (J : xJ) : Option ((Int32 × Int32 × xI × xJ) ⊕ ((Int32 × (Option Value) × xI × xJ) ⊕ (Unit × xI × xJ))) := if s0 = 0 then f_X12_laysMet_7 x1 x2 I J else f_X12_laysMet_6 x1 x2 I J
def f_X12_laysMet_4 (x1 : Int32) (x2 : Int32) (I : xI) (J : xJ) : Option ((Int32 × Int32 × xI × xJ) ⊕ ((Int32 × (Option Value) × xI × xJ) ⊕ (Unit × xI × xJ))) := if x2 < 0 ∨ 6 ≤ x2.toNatClampNeg then none else (f_X12_has ((I 79 x2.toNatClampNeg)) x1 I J).bind fun o => f_X12_laysMet_5 x1 x2 o.1 o.2.1 o.2.2
def b_X12_laysMet_3 (x1 : Int32) (x2 : Int32) (I : xI) (J : xJ) : Option ((Int32 × Int32 × xI × xJ) ⊕ ((Int32 × (Option Value) × xI × xJ) ⊕ (Unit × xI × xJ))) := if (I 61 37) ≤ x2 then ((f_X12_laysMet_8 x1 x2 I J)).map .inr else f_X12_laysMet_4 x1 x2 I J
def f_X12_laysMet_3 (x1 : Int32) (x2 : Int32) (I : xI) (J : xJ) : Option ((Int32 × (Option Value) × xI × xJ) ⊕ (Unit × xI × xJ)) := xloop (fun s : Int32 × Int32 × xI × xJ => b_X12_laysMet_3 s.1 s.2.1 s.2.2.1 s.2.2.2) 5000 (x1, x2, I, J)
def f_X12_laysMet_2 (x1 : Int32) (z2 : Option Value) (I : xI) (J : xJ) : Option ((Int32 × (Option Value) × xI × xJ) ⊕ (Unit × xI × xJ)) := if x1 < 0 ∨ 6 ≤ x1.toNatClampNeg then none else f_X12_laysMet_3 x1 0 ((xup I 81 x1.toNatClampNeg 0)) J
def b_X12_laysMet_1 (x1 : Int32) (z2 : Option Value) (I : xI) (J : xJ) : Option ((Int32 × (Option Value) × xI × xJ) ⊕ (Unit × xI × xJ)) := if (I 61 17) ≤ x1 then ((f_X12_laysMet_9 x1 z2 I J)).map .inr else f_X12_laysMet_2 x1 z2 I J
def f_X12_laysMet_1 (x1 : Int32) (z2 : Option Value) (I : xI) (J : xJ) : Option (Unit × xI × xJ) := xloop (fun s : Int32 × (Option Value) × xI × xJ => b_X12_laysMet_1 s.1 s.2.1 s.2.2.1 s.2.2.2) 5000 (x1, z2, I, J)
def f_X12_laysMet_0 (I : xI) (J : xJ) : Option (Unit × xI × xJ) := f_X12_laysMet_1 0 none I J
def f_X12_laysMet (I : xI) (J : xJ) : Option (Unit × xI × xJ) := f_X12_laysMet_0 I J
theorem p_X12_laysMet_35 {L : Nat} {xs : Nat → Int32} {d : Nat} {Q : xO → Prop} (x1 : Int32) (z2 : Option Value) (z3 : Option Value) (z4 : Option Value) (I : xI) (J : xJ) {t : Unit × xI × xJ} (h : f_X12_laysMet_35 x1 z2 z3 z4 I J = some t) (hC : (c_X12_laysMet Q) t) : Rn L xs (d + 4) 253 212 [some (.ref 61), some (.int x1), z2, z3, z4] [] 94 (I, J, xrf) Q := by
  unfold f_X12_laysMet_35 at h
  cases h
  exact Rn.ret 1 (o := (none, 94, (I, J, xrf))) (fun f => rfl) hC
theorem p_X12_laysMet_34 {L : Nat} {xs : Nat → Int32} {d : Nat} {Q : xO → Prop} (x1 : Int32) (x2 : Int32) (z3 : Option Value) (z4 : Option Value) (I : xI) (J : xJ) {t : (Int32 × (Option Value) × (Option Value) × (Option Value) × xI × xJ) ⊕ (Unit × xI × xJ)} (h : f_X12_laysMet_34 x1 x2 z3 z4 I J = some t) (hC : (c_X12_laysMet_10 L xs d Q) t) : Rn L xs (d + 4) 253 209 [some (.ref 61), some (.int x1), some (.int x2), z3, z4] [] 94 (I, J, xrf) Q := by
  unfold f_X12_laysMet_34 at h
  refine Rn.go 1 (j' := 253) (pc' := 66) (ls' := [some (.ref 61), some (.int x1), some (.int x2), z3, z4]) (st' := []) (n' := 94) (M' := (I, J, xrf)) (fun f => rfl) ?_
  cases h; exact hC
theorem p_X12_laysMet_33 {L : Nat} {xs : Nat → Int32} {d : Nat} {Q : xO → Prop} (x1 : Int32) (x2 : Int32) (x3 : Int32) (z4 : Option Value) (I : xI) (J : xJ) {t : (Int32 × Int32 × (Option Value) × (Option Value) × xI × xJ) ⊕ ((Int32 × (Option Value) × (Option Value) × (Option Value) × xI × xJ) ⊕ (Unit × xI × xJ))} (h : f_X12_laysMet_33 x1 x2 x3 z4 I J = some t) (hC : (c_X12_laysMet_12 L xs d Q) t) : Rn L xs (d + 4) 253 203 [some (.ref 61), some (.int x1), some (.int x2), some (.int x3), z4] [] 94 (I, J, xrf) Q := by
  unfold f_X12_laysMet_33 at h
  refine Rn.go 2 (j' := 253) (pc' := 74) (ls' := [some (.ref 61), some (.int x1), some (.int ((x2 + 1))), some (.int x3), z4]) (st' := []) (n' := 94) (M' := (I, J, xrf)) (fun f => rfl) ?_
  cases h; exact hC
theorem p_X12_laysMet_32 {L : Nat} {xs : Nat → Int32} {d : Nat} {Q : xO → Prop} (x1 : Int32) (x2 : Int32) (x3 : Int32) (x4 : Int32) (I : xI) (J : xJ) {t : (Int32 × Int32 × Int32 × (Option Value) × xI × xJ) ⊕ ((Int32 × Int32 × (Option Value) × (Option Value) × xI × xJ) ⊕ ((Int32 × (Option Value) × (Option Value) × (Option Value) × xI × xJ) ⊕ (Unit × xI × xJ)))} (h : f_X12_laysMet_32 x1 x2 x3 x4 I J = some t) (hC : (c_X12_laysMet_14 L xs d Q) t) : Rn L xs (d + 4) 253 197 [some (.ref 61), some (.int x1), some (.int x2), some (.int x3), some (.int x4)] [] 94 (I, J, xrf) Q := by
  unfold f_X12_laysMet_32 at h
  refine Rn.go 2 (j' := 253) (pc' := 84) (ls' := [some (.ref 61), some (.int x1), some (.int x2), some (.int ((x3 + 1))), some (.int x4)]) (st' := []) (n' := 94) (M' := (I, J, xrf)) (fun f => rfl) ?_
  cases h; exact hC
theorem p_X12_laysMet_31 {L : Nat} {xs : Nat → Int32} {d : Nat} {Q : xO → Prop} (x1 : Int32) (x2 : Int32) (x3 : Int32) (x4 : Int32) (I : xI) (J : xJ) {t : (Int32 × Int32 × Int32 × Int32 × xI × xJ) ⊕ ((Int32 × Int32 × Int32 × (Option Value) × xI × xJ) ⊕ ((Int32 × Int32 × (Option Value) × (Option Value) × xI × xJ) ⊕ ((Int32 × (Option Value) × (Option Value) × (Option Value) × xI × xJ) ⊕ (Unit × xI × xJ))))} (h : f_X12_laysMet_31 x1 x2 x3 x4 I J = some t) (hC : (c_X12_laysMet_16 L xs d Q) t) : Rn L xs (d + 4) 253 191 [some (.ref 61), some (.int x1), some (.int x2), some (.int x3), some (.int x4)] [] 94 (I, J, xrf) Q := by
  unfold f_X12_laysMet_31 at h
  refine Rn.go 2 (j' := 253) (pc' := 95) (ls' := [some (.ref 61), some (.int x1), some (.int x2), some (.int x3), some (.int ((x4 + 1)))]) (st' := []) (n' := 94) (M' := (I, J, xrf)) (fun f => rfl) ?_
  cases h; exact hC
theorem p_X12_laysMet_30 {L : Nat} {xs : Nat → Int32} {d : Nat} {Q : xO → Prop} (x1 : Int32) (x2 : Int32) (x3 : Int32) (x4 : Int32) (s1 : Int32) (s2 : Int32) (s3 : Int32) (s4 : Int32) (I : xI) (J : xJ) {t : (Int32 × Int32 × Int32 × Int32 × xI × xJ) ⊕ ((Int32 × Int32 × Int32 × (Option Value) × xI × xJ) ⊕ ((Int32 × Int32 × (Option Value) × (Option Value) × xI × xJ) ⊕ ((Int32 × (Option Value) × (Option Value) × (Option Value) × xI × xJ) ⊕ (Unit × xI × xJ))))} (h : f_X12_laysMet_30 x1 x2 x3 x4 s1 s2 s3 s4 I J = some t) (hC : (c_X12_laysMet_16 L xs d Q) t) : Rn L xs (d + 4) 253 186 [some (.ref 61), some (.int x1), some (.int x2), some (.int x3), some (.int x4)] [.int s4, .int s3, .int s2, .int s1, .ref 81] 94 (I, J, xrf) Q := by
  unfold f_X12_laysMet_30 at h
  obtain ⟨hc, h⟩ := xif h
  refine Rn.ok 3 (c := s1 < 0 ∨ 6 ≤ s1.toNatClampNeg) (p1 := 189) (l1 := [some (.ref 61), some (.int x1), some (.int x2), some (.int x3), some (.int x4)]) (s1 := []) (n1 := 94) (M1 := ((xup I 81 s1.toNatClampNeg ((s2 ||| (s3 <<< (s4 &&& 31))))), J, xrf)) (fun f => rfl) hc ?_
  refine Rn.go 2 (j' := 253) (pc' := 191) (ls' := [some (.ref 61), some (.int 1), some (.int x2), some (.int x3), some (.int x4)]) (st' := []) (n' := 94) (M' := ((xup I 81 s1.toNatClampNeg ((s2 ||| (s3 <<< (s4 &&& 31))))), J, xrf)) (fun f => rfl) ?_
  exact p_X12_laysMet_31 1 x2 x3 x4 ((xup I 81 s1.toNatClampNeg ((s2 ||| (s3 <<< (s4 &&& 31)))))) J h hC
theorem p_X12_laysMet_29 {L : Nat} {xs : Nat → Int32} {d : Nat} {Q : xO → Prop} (x1 : Int32) (x2 : Int32) (x3 : Int32) (x4 : Int32) (s1 : Int32) (I : xI) (J : xJ) {t : (Int32 × Int32 × Int32 × Int32 × xI × xJ) ⊕ ((Int32 × Int32 × Int32 × (Option Value) × xI × xJ) ⊕ ((Int32 × Int32 × (Option Value) × (Option Value) × xI × xJ) ⊕ ((Int32 × (Option Value) × (Option Value) × (Option Value) × xI × xJ) ⊕ (Unit × xI × xJ))))} (h : f_X12_laysMet_29 x1 x2 x3 x4 s1 I J = some t) (hC : (c_X12_laysMet_16 L xs d Q) t) : Rn L xs (d + 4) 253 176 [some (.ref 61), some (.int x1), some (.int x2), some (.int x3), some (.int x4)] [.int s1, .ref 81] 94 (I, J, xrf) Q := by
  unfold f_X12_laysMet_29 at h
  obtain ⟨hc, h⟩ := xif h
  refine Rn.ok 2 (c := s1 < 0 ∨ 6 ≤ s1.toNatClampNeg) (p1 := 178) (l1 := [some (.ref 61), some (.int x1), some (.int x2), some (.int x3), some (.int x4)]) (s1 := [.int ((I 81 s1.toNatClampNeg)), .int s1, .ref 81]) (n1 := 94) (M1 := (I, J, xrf)) (fun f => rfl) hc ?_
  refine Rn.go 4 (j' := 253) (pc' := 183) (ls' := [some (.ref 61), some (.int x1), some (.int x2), some (.int x3), some (.int x4)]) (st' := [.int x4, .int x3, .ref 61, .int 1, .int ((I 81 s1.toNatClampNeg)), .int s1, .ref 81]) (n' := 94) (M' := (I, J, xrf)) (fun f => rfl) ?_
  obtain ⟨o, ho, h⟩ := Option.bind_eq_some_iff.mp h
  refine Rn.call (d1 := d + 3) (j1 := 249) (ls1 := [some (.ref 61), some (.int x3), some (.int x4), none]) (rest := [.int 1, .int ((I 81 s1.toNatClampNeg)), .int s1, .ref 81]) (fun f => rfl) ?_
  refine p_X12_smallTo (d := d + 0) x3 x4 I J (t := o) ho ?_
  exact p_X12_laysMet_30 x1 x2 x3 x4 s1 ((I 81 s1.toNatClampNeg)) 1 o.1 o.2.1 o.2.2 h hC
theorem p_X12_laysMet_28 {L : Nat} {xs : Nat → Int32} {d : Nat} {Q : xO → Prop} (x1 : Int32) (x2 : Int32) (x3 : Int32) (x4 : Int32) (I : xI) (J : xJ) {t : (Int32 × Int32 × Int32 × Int32 × xI × xJ) ⊕ ((Int32 × Int32 × Int32 × (Option Value) × xI × xJ) ⊕ ((Int32 × Int32 × (Option Value) × (Option Value) × xI × xJ) ⊕ ((Int32 × (Option Value) × (Option Value) × (Option Value) × xI × xJ) ⊕ (Unit × xI × xJ))))} (h : f_X12_laysMet_28 x1 x2 x3 x4 I J = some t) (hC : (c_X12_laysMet_16 L xs d Q) t) : Rn L xs (d + 4) 253 165 [some (.ref 61), some (.int x1), some (.int x2), some (.int x3), some (.int x4)] [] 94 (I, J, xrf) Q := by
  unfold f_X12_laysMet_28 at h
  refine Rn.go 5 (j' := 253) (pc' := 173) (ls' := [some (.ref 61), some (.int x1), some (.int x2), some (.int x3), some (.int x4)]) (st' := [.int x4, .int x2, .ref 61, .ref 81]) (n' := 94) (M' := (I, J, xrf)) (fun f => rfl) ?_
  obtain ⟨o, ho, h⟩ := Option.bind_eq_some_iff.mp h
  refine Rn.call (d1 := d + 3) (j1 := 210) (ls1 := [some (.ref 61), some (.int x2), some (.int x4)]) (rest := [.ref 81]) (fun f => rfl) ?_
  refine p_X12_to (d := d + 2) x2 x4 I J (t := o) ho ?_
  exact p_X12_laysMet_29 x1 x2 x3 x4 o.1 o.2.1 o.2.2 h hC
theorem p_X12_laysMet_27 {L : Nat} {xs : Nat → Int32} {d : Nat} {Q : xO → Prop} (x1 : Int32) (x2 : Int32) (x3 : Int32) (x4 : Int32) (I : xI) (J : xJ) {t : (Int32 × Int32 × Int32 × Int32 × xI × xJ) ⊕ ((Int32 × Int32 × Int32 × (Option Value) × xI × xJ) ⊕ ((Int32 × Int32 × (Option Value) × (Option Value) × xI × xJ) ⊕ ((Int32 × (Option Value) × (Option Value) × (Option Value) × xI × xJ) ⊕ (Unit × xI × xJ))))} (h : f_X12_laysMet_27 x1 x2 x3 x4 I J = some t) (hC : (c_X12_laysMet_16 L xs d Q) t) : Rn L xs (d + 4) 253 162 [some (.ref 61), some (.int x1), some (.int x2), some (.int x3), some (.int x4)] [] 94 (I, J, xrf) Q := by
  unfold f_X12_laysMet_27 at h
  refine Rn.go 1 (j' := 253) (pc' := 191) (ls' := [some (.ref 61), some (.int x1), some (.int x2), some (.int x3), some (.int x4)]) (st' := []) (n' := 94) (M' := (I, J, xrf)) (fun f => rfl) ?_
  exact p_X12_laysMet_31 x1 x2 x3 x4 I J h hC
theorem p_X12_laysMet_26 {L : Nat} {xs : Nat → Int32} {d : Nat} {Q : xO → Prop} (x1 : Int32) (x2 : Int32) (x3 : Int32) (x4 : Int32) (s0 : Int32) (I : xI) (J : xJ) {t : (Int32 × Int32 × Int32 × Int32 × xI × xJ) ⊕ ((Int32 × Int32 × Int32 × (Option Value) × xI × xJ) ⊕ ((Int32 × Int32 × (Option Value) × (Option Value) × xI × xJ) ⊕ ((Int32 × (Option Value) × (Option Value) × (Option Value) × xI × xJ) ⊕ (Unit × xI × xJ))))} (h : f_X12_laysMet_26 x1 x2 x3 x4 s0 I J = some t) (hC : (c_X12_laysMet_16 L xs d Q) t) : Rn L xs (d + 4) 253 159 [some (.ref 61), some (.int x1), some (.int x2), some (.int x3), some (.int x4)] [.int s0] 94 (I, J, xrf) Q := by
  unfold f_X12_laysMet_26 at h
  refine Rn.fi 1 (c := s0 = 0) (p1 := 165) (l1 := [some (.ref 61), some (.int x1), some (.int x2), some (.int x3), some (.int x4)]) (s1 := []) (n1 := 94) (M1 := (I, J, xrf)) (p2 := 162) (l2 := [some (.ref 61), some (.int x1), some (.int x2), some (.int x3), some (.int x4)]) (s2 := []) (n2 := 94) (M2 := (I, J, xrf)) (fun f => rfl) (fun hc => ?_) (fun hc => ?_)
  · rw [if_pos hc] at h
    exact p_X12_laysMet_28 x1 x2 x3 x4 I J h hC
  · rw [if_neg hc] at h
    exact p_X12_laysMet_27 x1 x2 x3 x4 I J h hC
theorem p_X12_laysMet_25 {L : Nat} {xs : Nat → Int32} {d : Nat} {Q : xO → Prop} (x1 : Int32) (x2 : Int32) (x3 : Int32) (x4 : Int32) (s0 : Int32) (s1 : Int32) (I : xI) (J : xJ) {t : (Int32 × Int32 × Int32 × Int32 × xI × xJ) ⊕ ((Int32 × Int32 × Int32 × (Option Value) × xI × xJ) ⊕ ((Int32 × Int32 × (Option Value) × (Option Value) × xI × xJ) ⊕ ((Int32 × (Option Value) × (Option Value) × (Option Value) × xI × xJ) ⊕ (Unit × xI × xJ))))} (h : f_X12_laysMet_25 x1 x2 x3 x4 s0 s1 I J = some t) (hC : (c_X12_laysMet_16 L xs d Q) t) : Rn L xs (d + 4) 253 156 [some (.ref 61), some (.int x1), some (.int x2), some (.int x3), some (.int x4)] [.int s1, .int s0] 94 (I, J, xrf) Q := by
  unfold f_X12_laysMet_25 at h
  obtain ⟨o, ho, h⟩ := Option.bind_eq_some_iff.mp h
  refine Rn.call (d1 := d + 3) (j1 := 214) (ls1 := [some (.int s0), some (.int s1)]) (rest := []) (fun f => rfl) ?_
  refine p_X12_has (d := d + 2) s0 s1 I J (t := o) ho ?_
  exact p_X12_laysMet_26 x1 x2 x3 x4 o.1 o.2.1 o.2.2 h hC
theorem p_X12_laysMet_24 {L : Nat} {xs : Nat → Int32} {d : Nat} {Q : xO → Prop} (x1 : Int32) (x2 : Int32) (x3 : Int32) (x4 : Int32) (s1 : Int32) (I : xI) (J : xJ) {t : (Int32 × Int32 × Int32 × Int32 × xI × xJ) ⊕ ((Int32 × Int32 × Int32 × (Option Value) × xI × xJ) ⊕ ((Int32 × Int32 × (Option Value) × (Option Value) × xI × xJ) ⊕ ((Int32 × (Option Value) × (Option Value) × (Option Value) × xI × xJ) ⊕ (Unit × xI × xJ))))} (h : f_X12_laysMet_24 x1 x2 x3 x4 s1 I J = some t) (hC : (c_X12_laysMet_16 L xs d Q) t) : Rn L xs (d + 4) 253 148 [some (.ref 61), some (.int x1), some (.int x2), some (.int x3), some (.int x4)] [.int s1, .ref 81] 94 (I, J, xrf) Q := by
  unfold f_X12_laysMet_24 at h
  obtain ⟨hc, h⟩ := xif h
  refine Rn.ok 1 (c := s1 < 0 ∨ 6 ≤ s1.toNatClampNeg) (p1 := 149) (l1 := [some (.ref 61), some (.int x1), some (.int x2), some (.int x3), some (.int x4)]) (s1 := [.int ((I 81 s1.toNatClampNeg))]) (n1 := 94) (M1 := (I, J, xrf)) (fun f => rfl) hc ?_
  refine Rn.go 3 (j' := 253) (pc' := 153) (ls' := [some (.ref 61), some (.int x1), some (.int x2), some (.int x3), some (.int x4)]) (st' := [.int x4, .int x3, .ref 61, .int ((I 81 s1.toNatClampNeg))]) (n' := 94) (M' := (I, J, xrf)) (fun f => rfl) ?_
  obtain ⟨o, ho, h⟩ := Option.bind_eq_some_iff.mp h
  refine Rn.call (d1 := d + 3) (j1 := 249) (ls1 := [some (.ref 61), some (.int x3), some (.int x4), none]) (rest := [.int ((I 81 s1.toNatClampNeg))]) (fun f => rfl) ?_
  refine p_X12_smallTo (d := d + 0) x3 x4 I J (t := o) ho ?_
  exact p_X12_laysMet_25 x1 x2 x3 x4 ((I 81 s1.toNatClampNeg)) o.1 o.2.1 o.2.2 h hC
theorem p_X12_laysMet_23 {L : Nat} {xs : Nat → Int32} {d : Nat} {Q : xO → Prop} (x1 : Int32) (x2 : Int32) (x3 : Int32) (x4 : Int32) (I : xI) (J : xJ) {t : (Int32 × Int32 × Int32 × Int32 × xI × xJ) ⊕ ((Int32 × Int32 × Int32 × (Option Value) × xI × xJ) ⊕ ((Int32 × Int32 × (Option Value) × (Option Value) × xI × xJ) ⊕ ((Int32 × (Option Value) × (Option Value) × (Option Value) × xI × xJ) ⊕ (Unit × xI × xJ))))} (h : f_X12_laysMet_23 x1 x2 x3 x4 I J = some t) (hC : (c_X12_laysMet_16 L xs d Q) t) : Rn L xs (d + 4) 253 137 [some (.ref 61), some (.int x1), some (.int x2), some (.int x3), some (.int x4)] [] 94 (I, J, xrf) Q := by
  unfold f_X12_laysMet_23 at h
  refine Rn.go 5 (j' := 253) (pc' := 145) (ls' := [some (.ref 61), some (.int x1), some (.int x2), some (.int x3), some (.int x4)]) (st' := [.int x4, .int x2, .ref 61, .ref 81]) (n' := 94) (M' := (I, J, xrf)) (fun f => rfl) ?_
  obtain ⟨o, ho, h⟩ := Option.bind_eq_some_iff.mp h
  refine Rn.call (d1 := d + 3) (j1 := 210) (ls1 := [some (.ref 61), some (.int x2), some (.int x4)]) (rest := [.ref 81]) (fun f => rfl) ?_
  refine p_X12_to (d := d + 2) x2 x4 I J (t := o) ho ?_
  exact p_X12_laysMet_24 x1 x2 x3 x4 o.1 o.2.1 o.2.2 h hC
theorem p_X12_laysMet_22 {L : Nat} {xs : Nat → Int32} {d : Nat} {Q : xO → Prop} (x1 : Int32) (x2 : Int32) (x3 : Int32) (x4 : Int32) (s0 : Int32) (I : xI) (J : xJ) {t : (Int32 × Int32 × Int32 × Int32 × xI × xJ) ⊕ ((Int32 × Int32 × Int32 × (Option Value) × xI × xJ) ⊕ ((Int32 × Int32 × (Option Value) × (Option Value) × xI × xJ) ⊕ ((Int32 × (Option Value) × (Option Value) × (Option Value) × xI × xJ) ⊕ (Unit × xI × xJ))))} (h : f_X12_laysMet_22 x1 x2 x3 x4 s0 I J = some t) (hC : (c_X12_laysMet_16 L xs d Q) t) : Rn L xs (d + 4) 253 134 [some (.ref 61), some (.int x1), some (.int x2), some (.int x3), some (.int x4)] [.int s0] 94 (I, J, xrf) Q := by
  unfold f_X12_laysMet_22 at h
  refine Rn.fi 1 (c := s0 < 0) (p1 := 191) (l1 := [some (.ref 61), some (.int x1), some (.int x2), some (.int x3), some (.int x4)]) (s1 := []) (n1 := 94) (M1 := (I, J, xrf)) (p2 := 137) (l2 := [some (.ref 61), some (.int x1), some (.int x2), some (.int x3), some (.int x4)]) (s2 := []) (n2 := 94) (M2 := (I, J, xrf)) (fun f => rfl) (fun hc => ?_) (fun hc => ?_)
  · rw [if_pos hc] at h
    exact p_X12_laysMet_31 x1 x2 x3 x4 I J h hC
  · rw [if_neg hc] at h
    exact p_X12_laysMet_23 x1 x2 x3 x4 I J h hC
theorem p_X12_laysMet_21 {L : Nat} {xs : Nat → Int32} {d : Nat} {Q : xO → Prop} (x1 : Int32) (x2 : Int32) (x3 : Int32) (x4 : Int32) (I : xI) (J : xJ) {t : (Int32 × Int32 × Int32 × Int32 × xI × xJ) ⊕ ((Int32 × Int32 × Int32 × (Option Value) × xI × xJ) ⊕ ((Int32 × Int32 × (Option Value) × (Option Value) × xI × xJ) ⊕ ((Int32 × (Option Value) × (Option Value) × (Option Value) × xI × xJ) ⊕ (Unit × xI × xJ))))} (h : f_X12_laysMet_21 x1 x2 x3 x4 I J = some t) (hC : (c_X12_laysMet_16 L xs d Q) t) : Rn L xs (d + 4) 253 127 [some (.ref 61), some (.int x1), some (.int x2), some (.int x3), some (.int x4)] [] 94 (I, J, xrf) Q := by
  unfold f_X12_laysMet_21 at h
  refine Rn.go 3 (j' := 253) (pc' := 131) (ls' := [some (.ref 61), some (.int x1), some (.int x2), some (.int x3), some (.int x4)]) (st' := [.int x4, .int x3, .ref 61]) (n' := 94) (M' := (I, J, xrf)) (fun f => rfl) ?_
  obtain ⟨o, ho, h⟩ := Option.bind_eq_some_iff.mp h
  refine Rn.call (d1 := d + 3) (j1 := 249) (ls1 := [some (.ref 61), some (.int x3), some (.int x4), none]) (rest := []) (fun f => rfl) ?_
  refine p_X12_smallTo (d := d + 0) x3 x4 I J (t := o) ho ?_
  exact p_X12_laysMet_22 x1 x2 x3 x4 o.1 o.2.1 o.2.2 h hC
theorem p_X12_laysMet_20 {L : Nat} {xs : Nat → Int32} {d : Nat} {Q : xO → Prop} (x1 : Int32) (x2 : Int32) (x3 : Int32) (x4 : Int32) (s0 : Int32) (I : xI) (J : xJ) {t : (Int32 × Int32 × Int32 × Int32 × xI × xJ) ⊕ ((Int32 × Int32 × Int32 × (Option Value) × xI × xJ) ⊕ ((Int32 × Int32 × (Option Value) × (Option Value) × xI × xJ) ⊕ ((Int32 × (Option Value) × (Option Value) × (Option Value) × xI × xJ) ⊕ (Unit × xI × xJ))))} (h : f_X12_laysMet_20 x1 x2 x3 x4 s0 I J = some t) (hC : (c_X12_laysMet_16 L xs d Q) t) : Rn L xs (d + 4) 253 124 [some (.ref 61), some (.int x1), some (.int x2), some (.int x3), some (.int x4)] [.int s0] 94 (I, J, xrf) Q := by
  unfold f_X12_laysMet_20 at h
  refine Rn.fi 1 (c := s0 < 0) (p1 := 191) (l1 := [some (.ref 61), some (.int x1), some (.int x2), some (.int x3), some (.int x4)]) (s1 := []) (n1 := 94) (M1 := (I, J, xrf)) (p2 := 127) (l2 := [some (.ref 61), some (.int x1), some (.int x2), some (.int x3), some (.int x4)]) (s2 := []) (n2 := 94) (M2 := (I, J, xrf)) (fun f => rfl) (fun hc => ?_) (fun hc => ?_)
  · rw [if_pos hc] at h
    exact p_X12_laysMet_31 x1 x2 x3 x4 I J h hC
  · rw [if_neg hc] at h
    exact p_X12_laysMet_21 x1 x2 x3 x4 I J h hC
theorem p_X12_laysMet_19 {L : Nat} {xs : Nat → Int32} {d : Nat} {Q : xO → Prop} (x1 : Int32) (x2 : Int32) (x3 : Int32) (x4 : Int32) (I : xI) (J : xJ) {t : (Int32 × Int32 × Int32 × Int32 × xI × xJ) ⊕ ((Int32 × Int32 × Int32 × (Option Value) × xI × xJ) ⊕ ((Int32 × Int32 × (Option Value) × (Option Value) × xI × xJ) ⊕ ((Int32 × (Option Value) × (Option Value) × (Option Value) × xI × xJ) ⊕ (Unit × xI × xJ))))} (h : f_X12_laysMet_19 x1 x2 x3 x4 I J = some t) (hC : (c_X12_laysMet_16 L xs d Q) t) : Rn L xs (d + 4) 253 117 [some (.ref 61), some (.int x1), some (.int x2), some (.int x3), some (.int x4)] [] 94 (I, J, xrf) Q := by
  unfold f_X12_laysMet_19 at h
  refine Rn.go 3 (j' := 253) (pc' := 121) (ls' := [some (.ref 61), some (.int x1), some (.int x2), some (.int x3), some (.int x4)]) (st' := [.int x4, .int x2, .ref 61]) (n' := 94) (M' := (I, J, xrf)) (fun f => rfl) ?_
  obtain ⟨o, ho, h⟩ := Option.bind_eq_some_iff.mp h
  refine Rn.call (d1 := d + 3) (j1 := 210) (ls1 := [some (.ref 61), some (.int x2), some (.int x4)]) (rest := []) (fun f => rfl) ?_
  refine p_X12_to (d := d + 2) x2 x4 I J (t := o) ho ?_
  exact p_X12_laysMet_20 x1 x2 x3 x4 o.1 o.2.1 o.2.2 h hC
theorem p_X12_laysMet_18 {L : Nat} {xs : Nat → Int32} {d : Nat} {Q : xO → Prop} (x1 : Int32) (x2 : Int32) (x3 : Int32) (x4 : Int32) (s0 : Int32) (I : xI) (J : xJ) {t : (Int32 × Int32 × Int32 × Int32 × xI × xJ) ⊕ ((Int32 × Int32 × Int32 × (Option Value) × xI × xJ) ⊕ ((Int32 × Int32 × (Option Value) × (Option Value) × xI × xJ) ⊕ ((Int32 × (Option Value) × (Option Value) × (Option Value) × xI × xJ) ⊕ (Unit × xI × xJ))))} (h : f_X12_laysMet_18 x1 x2 x3 x4 s0 I J = some t) (hC : (c_X12_laysMet_16 L xs d Q) t) : Rn L xs (d + 4) 253 114 [some (.ref 61), some (.int x1), some (.int x2), some (.int x3), some (.int x4)] [.int s0] 94 (I, J, xrf) Q := by
  unfold f_X12_laysMet_18 at h
  refine Rn.fi 1 (c := s0 = 0) (p1 := 191) (l1 := [some (.ref 61), some (.int x1), some (.int x2), some (.int x3), some (.int x4)]) (s1 := []) (n1 := 94) (M1 := (I, J, xrf)) (p2 := 117) (l2 := [some (.ref 61), some (.int x1), some (.int x2), some (.int x3), some (.int x4)]) (s2 := []) (n2 := 94) (M2 := (I, J, xrf)) (fun f => rfl) (fun hc => ?_) (fun hc => ?_)
  · rw [if_pos hc] at h
    exact p_X12_laysMet_31 x1 x2 x3 x4 I J h hC
  · rw [if_neg hc] at h
    exact p_X12_laysMet_19 x1 x2 x3 x4 I J h hC
theorem p_X12_laysMet_17 {L : Nat} {xs : Nat → Int32} {d : Nat} {Q : xO → Prop} (x1 : Int32) (x2 : Int32) (x3 : Int32) (x4 : Int32) (I : xI) (J : xJ) {t : (Int32 × Int32 × Int32 × Int32 × xI × xJ) ⊕ ((Int32 × Int32 × Int32 × (Option Value) × xI × xJ) ⊕ ((Int32 × Int32 × (Option Value) × (Option Value) × xI × xJ) ⊕ ((Int32 × (Option Value) × (Option Value) × (Option Value) × xI × xJ) ⊕ (Unit × xI × xJ))))} (h : f_X12_laysMet_17 x1 x2 x3 x4 I J = some t) (hC : (c_X12_laysMet_16 L xs d Q) t) : Rn L xs (d + 4) 253 104 [some (.ref 61), some (.int x1), some (.int x2), some (.int x3), some (.int x4)] [] 94 (I, J, xrf) Q := by
  unfold f_X12_laysMet_17 at h
  obtain ⟨hc, h⟩ := xif h
  refine Rn.ok 4 (c := x2 < 0 ∨ 6 ≤ x2.toNatClampNeg) (p1 := 110) (l1 := [some (.ref 61), some (.int x1), some (.int x2), some (.int x3), some (.int x4)]) (s1 := [.int ((I 81 x2.toNatClampNeg))]) (n1 := 94) (M1 := (I, J, xrf)) (fun f => rfl) hc ?_
  refine Rn.go 1 (j' := 253) (pc' := 111) (ls' := [some (.ref 61), some (.int x1), some (.int x2), some (.int x3), some (.int x4)]) (st' := [.int x3, .int ((I 81 x2.toNatClampNeg))]) (n' := 94) (M' := (I, J, xrf)) (fun f => rfl) ?_
  obtain ⟨o, ho, h⟩ := Option.bind_eq_some_iff.mp h
  refine Rn.call (d1 := d + 3) (j1 := 214) (ls1 := [some (.int ((I 81 x2.toNatClampNeg))), some (.int x3)]) (rest := []) (fun f => rfl) ?_
  refine p_X12_has (d := d + 2) ((I 81 x2.toNatClampNeg)) x3 I J (t := o) ho ?_
  exact p_X12_laysMet_18 x1 x2 x3 x4 o.1 o.2.1 o.2.2 h hC
theorem q_X12_laysMet_16 {L : Nat} {xs : Nat → Int32} {d : Nat} {Q : xO → Prop} (x1 : Int32) (x2 : Int32) (x3 : Int32) (x4 : Int32) (I : xI) (J : xJ) {t : (Int32 × Int32 × Int32 × Int32 × xI × xJ) ⊕ ((Int32 × Int32 × Int32 × (Option Value) × xI × xJ) ⊕ ((Int32 × Int32 × (Option Value) × (Option Value) × xI × xJ) ⊕ ((Int32 × (Option Value) × (Option Value) × (Option Value) × xI × xJ) ⊕ (Unit × xI × xJ))))} (h : b_X12_laysMet_16 x1 x2 x3 x4 I J = some t) (hC : (c_X12_laysMet_16 L xs d Q) t) : Rn L xs (d + 4) 253 95 [some (.ref 61), some (.int x1), some (.int x2), some (.int x3), some (.int x4)] [] 94 (I, J, xrf) Q := by
  unfold b_X12_laysMet_16 at h
  refine Rn.fi 4 (c := (I 61 18) ≤ x4) (p1 := 197) (l1 := [some (.ref 61), some (.int x1), some (.int x2), some (.int x3), some (.int x4)]) (s1 := []) (n1 := 94) (M1 := (I, J, xrf)) (p2 := 104) (l2 := [some (.ref 61), some (.int x1), some (.int x2), some (.int x3), some (.int x4)]) (s2 := []) (n2 := 94) (M2 := (I, J, xrf)) (fun f => rfl) (fun hc => ?_) (fun hc => ?_)
  · rw [if_pos hc] at h
    obtain ⟨t0, h0, rfl⟩ := Option.map_eq_some_iff.mp h
    exact p_X12_laysMet_32 x1 x2 x3 x4 I J h0 hC
  · rw [if_neg hc] at h
    exact p_X12_laysMet_17 x1 x2 x3 x4 I J h hC
theorem p_X12_laysMet_16 {L : Nat} {xs : Nat → Int32} {d : Nat} {Q : xO → Prop} (x1 : Int32) (x2 : Int32) (x3 : Int32) (x4 : Int32) (I : xI) (J : xJ) {t : (Int32 × Int32 × Int32 × (Option Value) × xI × xJ) ⊕ ((Int32 × Int32 × (Option Value) × (Option Value) × xI × xJ) ⊕ ((Int32 × (Option Value) × (Option Value) × (Option Value) × xI × xJ) ⊕ (Unit × xI × xJ)))} (h : f_X12_laysMet_16 x1 x2 x3 x4 I J = some t) (hC : (c_X12_laysMet_14 L xs d Q) t) : Rn L xs (d + 4) 253 95 [some (.ref 61), some (.int x1), some (.int x2), some (.int x3), some (.int x4)] [] 94 (I, J, xrf) Q := by
  unfold f_X12_laysMet_16 at h
  exact xloop_some (P := fun s : Int32 × Int32 × Int32 × Int32 × xI × xJ => Rn L xs (d + 4) 253 95 [some (.ref 61), some (.int s.1), some (.int s.2.1), some (.int s.2.2.1), some (.int s.2.2.2.1)] [] 94 (s.2.2.2.2.1, s.2.2.2.2.2, xrf) Q) t (fun s ⟨s', hb, hp⟩ => q_X12_laysMet_16 s.1 s.2.1 s.2.2.1 s.2.2.2.1 s.2.2.2.2.1 s.2.2.2.2.2 hb hp) (fun s hb => q_X12_laysMet_16 s.1 s.2.1 s.2.2.1 s.2.2.2.1 s.2.2.2.2.1 s.2.2.2.2.2 hb hC) _ _ h
theorem p_X12_laysMet_15 {L : Nat} {xs : Nat → Int32} {d : Nat} {Q : xO → Prop} (x1 : Int32) (x2 : Int32) (x3 : Int32) (z4 : Option Value) (I : xI) (J : xJ) {t : (Int32 × Int32 × Int32 × (Option Value) × xI × xJ) ⊕ ((Int32 × Int32 × (Option Value) × (Option Value) × xI × xJ) ⊕ ((Int32 × (Option Value) × (Option Value) × (Option Value) × xI × xJ) ⊕ (Unit × xI × xJ)))} (h : f_X12_laysMet_15 x1 x2 x3 z4 I J = some t) (hC : (c_X12_laysMet_14 L xs d Q) t) : Rn L xs (d + 4) 253 92 [some (.ref 61), some (.int x1), some (.int x2), some (.int x3), z4] [] 94 (I, J, xrf) Q := by
  unfold f_X12_laysMet_15 at h
  refine Rn.go 2 (j' := 253) (pc' := 95) (ls' := [some (.ref 61), some (.int x1), some (.int x2), some (.int x3), some (.int 0)]) (st' := []) (n' := 94) (M' := (I, J, xrf)) (fun f => rfl) ?_
  exact p_X12_laysMet_16 x1 x2 x3 0 I J h hC
theorem q_X12_laysMet_14 {L : Nat} {xs : Nat → Int32} {d : Nat} {Q : xO → Prop} (x1 : Int32) (x2 : Int32) (x3 : Int32) (z4 : Option Value) (I : xI) (J : xJ) {t : (Int32 × Int32 × Int32 × (Option Value) × xI × xJ) ⊕ ((Int32 × Int32 × (Option Value) × (Option Value) × xI × xJ) ⊕ ((Int32 × (Option Value) × (Option Value) × (Option Value) × xI × xJ) ⊕ (Unit × xI × xJ)))} (h : b_X12_laysMet_14 x1 x2 x3 z4 I J = some t) (hC : (c_X12_laysMet_14 L xs d Q) t) : Rn L xs (d + 4) 253 84 [some (.ref 61), some (.int x1), some (.int x2), some (.int x3), z4] [] 94 (I, J, xrf) Q := by
  unfold b_X12_laysMet_14 at h
  refine Rn.fi 4 (c := (I 61 37) ≤ x3) (p1 := 203) (l1 := [some (.ref 61), some (.int x1), some (.int x2), some (.int x3), z4]) (s1 := []) (n1 := 94) (M1 := (I, J, xrf)) (p2 := 92) (l2 := [some (.ref 61), some (.int x1), some (.int x2), some (.int x3), z4]) (s2 := []) (n2 := 94) (M2 := (I, J, xrf)) (fun f => rfl) (fun hc => ?_) (fun hc => ?_)
  · rw [if_pos hc] at h
    obtain ⟨t0, h0, rfl⟩ := Option.map_eq_some_iff.mp h
    exact p_X12_laysMet_33 x1 x2 x3 z4 I J h0 hC
  · rw [if_neg hc] at h
    exact p_X12_laysMet_15 x1 x2 x3 z4 I J h hC
theorem p_X12_laysMet_14 {L : Nat} {xs : Nat → Int32} {d : Nat} {Q : xO → Prop} (x1 : Int32) (x2 : Int32) (x3 : Int32) (z4 : Option Value) (I : xI) (J : xJ) {t : (Int32 × Int32 × (Option Value) × (Option Value) × xI × xJ) ⊕ ((Int32 × (Option Value) × (Option Value) × (Option Value) × xI × xJ) ⊕ (Unit × xI × xJ))} (h : f_X12_laysMet_14 x1 x2 x3 z4 I J = some t) (hC : (c_X12_laysMet_12 L xs d Q) t) : Rn L xs (d + 4) 253 84 [some (.ref 61), some (.int x1), some (.int x2), some (.int x3), z4] [] 94 (I, J, xrf) Q := by
  unfold f_X12_laysMet_14 at h
  exact xloop_some (P := fun s : Int32 × Int32 × Int32 × (Option Value) × xI × xJ => Rn L xs (d + 4) 253 84 [some (.ref 61), some (.int s.1), some (.int s.2.1), some (.int s.2.2.1), s.2.2.2.1] [] 94 (s.2.2.2.2.1, s.2.2.2.2.2, xrf) Q) t (fun s ⟨s', hb, hp⟩ => q_X12_laysMet_14 s.1 s.2.1 s.2.2.1 s.2.2.2.1 s.2.2.2.2.1 s.2.2.2.2.2 hb hp) (fun s hb => q_X12_laysMet_14 s.1 s.2.1 s.2.2.1 s.2.2.2.1 s.2.2.2.2.1 s.2.2.2.2.2 hb hC) _ _ h
theorem p_X12_laysMet_13 {L : Nat} {xs : Nat → Int32} {d : Nat} {Q : xO → Prop} (x1 : Int32) (x2 : Int32) (z3 : Option Value) (z4 : Option Value) (I : xI) (J : xJ) {t : (Int32 × Int32 × (Option Value) × (Option Value) × xI × xJ) ⊕ ((Int32 × (Option Value) × (Option Value) × (Option Value) × xI × xJ) ⊕ (Unit × xI × xJ))} (h : f_X12_laysMet_13 x1 x2 z3 z4 I J = some t) (hC : (c_X12_laysMet_12 L xs d Q) t) : Rn L xs (d + 4) 253 82 [some (.ref 61), some (.int x1), some (.int x2), z3, z4] [] 94 (I, J, xrf) Q := by
  unfold f_X12_laysMet_13 at h
  refine Rn.go 2 (j' := 253) (pc' := 84) (ls' := [some (.ref 61), some (.int x1), some (.int x2), some (.int 0), z4]) (st' := []) (n' := 94) (M' := (I, J, xrf)) (fun f => rfl) ?_
  exact p_X12_laysMet_14 x1 x2 0 z4 I J h hC
theorem q_X12_laysMet_12 {L : Nat} {xs : Nat → Int32} {d : Nat} {Q : xO → Prop} (x1 : Int32) (x2 : Int32) (z3 : Option Value) (z4 : Option Value) (I : xI) (J : xJ) {t : (Int32 × Int32 × (Option Value) × (Option Value) × xI × xJ) ⊕ ((Int32 × (Option Value) × (Option Value) × (Option Value) × xI × xJ) ⊕ (Unit × xI × xJ))} (h : b_X12_laysMet_12 x1 x2 z3 z4 I J = some t) (hC : (c_X12_laysMet_12 L xs d Q) t) : Rn L xs (d + 4) 253 74 [some (.ref 61), some (.int x1), some (.int x2), z3, z4] [] 94 (I, J, xrf) Q := by
  unfold b_X12_laysMet_12 at h
  refine Rn.fi 4 (c := (I 61 17) ≤ x2) (p1 := 209) (l1 := [some (.ref 61), some (.int x1), some (.int x2), z3, z4]) (s1 := []) (n1 := 94) (M1 := (I, J, xrf)) (p2 := 82) (l2 := [some (.ref 61), some (.int x1), some (.int x2), z3, z4]) (s2 := []) (n2 := 94) (M2 := (I, J, xrf)) (fun f => rfl) (fun hc => ?_) (fun hc => ?_)
  · rw [if_pos hc] at h
    obtain ⟨t0, h0, rfl⟩ := Option.map_eq_some_iff.mp h
    exact p_X12_laysMet_34 x1 x2 z3 z4 I J h0 hC
  · rw [if_neg hc] at h
    exact p_X12_laysMet_13 x1 x2 z3 z4 I J h hC
theorem p_X12_laysMet_12 {L : Nat} {xs : Nat → Int32} {d : Nat} {Q : xO → Prop} (x1 : Int32) (x2 : Int32) (z3 : Option Value) (z4 : Option Value) (I : xI) (J : xJ) {t : (Int32 × (Option Value) × (Option Value) × (Option Value) × xI × xJ) ⊕ (Unit × xI × xJ)} (h : f_X12_laysMet_12 x1 x2 z3 z4 I J = some t) (hC : (c_X12_laysMet_10 L xs d Q) t) : Rn L xs (d + 4) 253 74 [some (.ref 61), some (.int x1), some (.int x2), z3, z4] [] 94 (I, J, xrf) Q := by
  unfold f_X12_laysMet_12 at h
  exact xloop_some (P := fun s : Int32 × Int32 × (Option Value) × (Option Value) × xI × xJ => Rn L xs (d + 4) 253 74 [some (.ref 61), some (.int s.1), some (.int s.2.1), s.2.2.1, s.2.2.2.1] [] 94 (s.2.2.2.2.1, s.2.2.2.2.2, xrf) Q) t (fun s ⟨s', hb, hp⟩ => q_X12_laysMet_12 s.1 s.2.1 s.2.2.1 s.2.2.2.1 s.2.2.2.2.1 s.2.2.2.2.2 hb hp) (fun s hb => q_X12_laysMet_12 s.1 s.2.1 s.2.2.1 s.2.2.2.1 s.2.2.2.2.1 s.2.2.2.2.2 hb hC) _ _ h
theorem p_X12_laysMet_11 {L : Nat} {xs : Nat → Int32} {d : Nat} {Q : xO → Prop} (x1 : Int32) (z2 : Option Value) (z3 : Option Value) (z4 : Option Value) (I : xI) (J : xJ) {t : (Int32 × (Option Value) × (Option Value) × (Option Value) × xI × xJ) ⊕ (Unit × xI × xJ)} (h : f_X12_laysMet_11 x1 z2 z3 z4 I J = some t) (hC : (c_X12_laysMet_10 L xs d Q) t) : Rn L xs (d + 4) 253 70 [some (.ref 61), some (.int x1), z2, z3, z4] [] 94 (I, J, xrf) Q := by
  unfold f_X12_laysMet_11 at h
  refine Rn.go 4 (j' := 253) (pc' := 74) (ls' := [some (.ref 61), some (.int 0), some (.int 0), z3, z4]) (st' := []) (n' := 94) (M' := (I, J, xrf)) (fun f => rfl) ?_
  exact p_X12_laysMet_12 0 0 z3 z4 I J h hC
theorem q_X12_laysMet_10 {L : Nat} {xs : Nat → Int32} {d : Nat} {Q : xO → Prop} (x1 : Int32) (z2 : Option Value) (z3 : Option Value) (z4 : Option Value) (I : xI) (J : xJ) {t : (Int32 × (Option Value) × (Option Value) × (Option Value) × xI × xJ) ⊕ (Unit × xI × xJ)} (h : b_X12_laysMet_10 x1 z2 z3 z4 I J = some t) (hC : (c_X12_laysMet_10 L xs d Q) t) : Rn L xs (d + 4) 253 66 [some (.ref 61), some (.int x1), z2, z3, z4] [] 94 (I, J, xrf) Q := by
  unfold b_X12_laysMet_10 at h
  refine Rn.fi 2 (c := x1 = 0) (p1 := 212) (l1 := [some (.ref 61), some (.int x1), z2, z3, z4]) (s1 := []) (n1 := 94) (M1 := (I, J, xrf)) (p2 := 70) (l2 := [some (.ref 61), some (.int x1), z2, z3, z4]) (s2 := []) (n2 := 94) (M2 := (I, J, xrf)) (fun f => rfl) (fun hc => ?_) (fun hc => ?_)
  · rw [if_pos hc] at h
    obtain ⟨t0, h0, rfl⟩ := Option.map_eq_some_iff.mp h
    exact p_X12_laysMet_35 x1 z2 z3 z4 I J h0 hC
  · rw [if_neg hc] at h
    exact p_X12_laysMet_11 x1 z2 z3 z4 I J h hC
theorem p_X12_laysMet_10 {L : Nat} {xs : Nat → Int32} {d : Nat} {Q : xO → Prop} (x1 : Int32) (z2 : Option Value) (z3 : Option Value) (z4 : Option Value) (I : xI) (J : xJ) {t : Unit × xI × xJ} (h : f_X12_laysMet_10 x1 z2 z3 z4 I J = some t) (hC : (c_X12_laysMet Q) t) : Rn L xs (d + 4) 253 66 [some (.ref 61), some (.int x1), z2, z3, z4] [] 94 (I, J, xrf) Q := by
  unfold f_X12_laysMet_10 at h
  exact xloop_some (P := fun s : Int32 × (Option Value) × (Option Value) × (Option Value) × xI × xJ => Rn L xs (d + 4) 253 66 [some (.ref 61), some (.int s.1), s.2.1, s.2.2.1, s.2.2.2.1] [] 94 (s.2.2.2.2.1, s.2.2.2.2.2, xrf) Q) t (fun s ⟨s', hb, hp⟩ => q_X12_laysMet_10 s.1 s.2.1 s.2.2.1 s.2.2.2.1 s.2.2.2.2.1 s.2.2.2.2.2 hb hp) (fun s hb => q_X12_laysMet_10 s.1 s.2.1 s.2.2.1 s.2.2.2.1 s.2.2.2.2.1 s.2.2.2.2.2 hb hC) _ _ h
theorem p_X12_laysMet_9 {L : Nat} {xs : Nat → Int32} {d : Nat} {Q : xO → Prop} (x1 : Int32) (z2 : Option Value) (I : xI) (J : xJ) {t : Unit × xI × xJ} (h : f_X12_laysMet_9 x1 z2 I J = some t) (hC : (c_X12_laysMet Q) t) : Rn L xs (d + 4) 253 64 [some (.ref 61), some (.int x1), z2, none, none] [] 94 (I, J, xrf) Q := by
  unfold f_X12_laysMet_9 at h
  refine Rn.go 2 (j' := 253) (pc' := 66) (ls' := [some (.ref 61), some (.int 1), z2, none, none]) (st' := []) (n' := 94) (M' := (I, J, xrf)) (fun f => rfl) ?_
  exact p_X12_laysMet_10 1 z2 none none I J h hC
theorem p_X12_laysMet_8 {L : Nat} {xs : Nat → Int32} {d : Nat} {Q : xO → Prop} (x1 : Int32) (x2 : Int32) (I : xI) (J : xJ) {t : (Int32 × (Option Value) × xI × xJ) ⊕ (Unit × xI × xJ)} (h : f_X12_laysMet_8 x1 x2 I J = some t) (hC : (c_X12_laysMet_1 L xs d Q) t) : Rn L xs (d + 4) 253 58 [some (.ref 61), some (.int x1), some (.int x2), none, none] [] 94 (I, J, xrf) Q := by
  unfold f_X12_laysMet_8 at h
  refine Rn.go 2 (j' := 253) (pc' := 2) (ls' := [some (.ref 61), some (.int ((x1 + 1))), some (.int x2), none, none]) (st' := []) (n' := 94) (M' := (I, J, xrf)) (fun f => rfl) ?_
  cases h; exact hC
theorem p_X12_laysMet_7 {L : Nat} {xs : Nat → Int32} {d : Nat} {Q : xO → Prop} (x1 : Int32) (x2 : Int32) (I : xI) (J : xJ) {t : (Int32 × Int32 × xI × xJ) ⊕ ((Int32 × (Option Value) × xI × xJ) ⊕ (Unit × xI × xJ))} (h : f_X12_laysMet_7 x1 x2 I J = some t) (hC : (c_X12_laysMet_3 L xs d Q) t) : Rn L xs (d + 4) 253 52 [some (.ref 61), some (.int x1), some (.int x2), none, none] [] 94 (I, J, xrf) Q := by
  unfold f_X12_laysMet_7 at h
  refine Rn.go 2 (j' := 253) (pc' := 19) (ls' := [some (.ref 61), some (.int x1), some (.int ((x2 + 1))), none, none]) (st' := []) (n' := 94) (M' := (I, J, xrf)) (fun f => rfl) ?_
  cases h; exact hC
theorem p_X12_laysMet_6 {L : Nat} {xs : Nat → Int32} {d : Nat} {Q : xO → Prop} (x1 : Int32) (x2 : Int32) (I : xI) (J : xJ) {t : (Int32 × Int32 × xI × xJ) ⊕ ((Int32 × (Option Value) × xI × xJ) ⊕ (Unit × xI × xJ))} (h : f_X12_laysMet_6 x1 x2 I J = some t) (hC : (c_X12_laysMet_3 L xs d Q) t) : Rn L xs (d + 4) 253 40 [some (.ref 61), some (.int x1), some (.int x2), none, none] [] 94 (I, J, xrf) Q := by
  unfold f_X12_laysMet_6 at h
  obtain ⟨hc, h⟩ := xif h
  refine Rn.ok 5 (c := x1 < 0 ∨ 6 ≤ x1.toNatClampNeg) (p1 := 47) (l1 := [some (.ref 61), some (.int x1), some (.int x2), none, none]) (s1 := [.int ((I 81 x1.toNatClampNeg)), .int x1, .ref 81]) (n1 := 94) (M1 := (I, J, xrf)) (fun f => rfl) hc ?_
  obtain ⟨hc, h⟩ := xif h
  refine Rn.ok 5 (c := x1 < 0 ∨ 6 ≤ x1.toNatClampNeg) (p1 := 52) (l1 := [some (.ref 61), some (.int x1), some (.int x2), none, none]) (s1 := []) (n1 := 94) (M1 := ((xup I 81 x1.toNatClampNeg (((I 81 x1.toNatClampNeg) ||| (1 <<< (x2 &&& 31))))), J, xrf)) (fun f => rfl) hc ?_
  exact p_X12_laysMet_7 x1 x2 ((xup I 81 x1.toNatClampNeg (((I 81 x1.toNatClampNeg) ||| (1 <<< (x2 &&& 31)))))) J h hC
theorem p_X12_laysMet_5 {L : Nat} {xs : Nat → Int32} {d : Nat} {Q : xO → Prop} (x1 : Int32) (x2 : Int32) (s0 : Int32) (I : xI) (J : xJ) {t : (Int32 × Int32 × xI × xJ) ⊕ ((Int32 × (Option Value) × xI × xJ) ⊕ (Unit × xI × xJ))} (h : f_X12_laysMet_5 x1 x2 s0 I J = some t) (hC : (c_X12_laysMet_3 L xs d Q) t) : Rn L xs (d + 4) 253 37 [some (.ref 61), some (.int x1), some (.int x2), none, none] [.int s0] 94 (I, J, xrf) Q := by
  unfold f_X12_laysMet_5 at h
  refine Rn.fi 1 (c := s0 = 0) (p1 := 52) (l1 := [some (.ref 61), some (.int x1), some (.int x2), none, none]) (s1 := []) (n1 := 94) (M1 := (I, J, xrf)) (p2 := 40) (l2 := [some (.ref 61), some (.int x1), some (.int x2), none, none]) (s2 := []) (n2 := 94) (M2 := (I, J, xrf)) (fun f => rfl) (fun hc => ?_) (fun hc => ?_)
  · rw [if_pos hc] at h
    exact p_X12_laysMet_7 x1 x2 I J h hC
  · rw [if_neg hc] at h
    exact p_X12_laysMet_6 x1 x2 I J h hC
theorem p_X12_laysMet_4 {L : Nat} {xs : Nat → Int32} {d : Nat} {Q : xO → Prop} (x1 : Int32) (x2 : Int32) (I : xI) (J : xJ) {t : (Int32 × Int32 × xI × xJ) ⊕ ((Int32 × (Option Value) × xI × xJ) ⊕ (Unit × xI × xJ))} (h : f_X12_laysMet_4 x1 x2 I J = some t) (hC : (c_X12_laysMet_3 L xs d Q) t) : Rn L xs (d + 4) 253 27 [some (.ref 61), some (.int x1), some (.int x2), none, none] [] 94 (I, J, xrf) Q := by
  unfold f_X12_laysMet_4 at h
  obtain ⟨hc, h⟩ := xif h
  refine Rn.ok 4 (c := x2 < 0 ∨ 6 ≤ x2.toNatClampNeg) (p1 := 33) (l1 := [some (.ref 61), some (.int x1), some (.int x2), none, none]) (s1 := [.int ((I 79 x2.toNatClampNeg))]) (n1 := 94) (M1 := (I, J, xrf)) (fun f => rfl) hc ?_
  refine Rn.go 1 (j' := 253) (pc' := 34) (ls' := [some (.ref 61), some (.int x1), some (.int x2), none, none]) (st' := [.int x1, .int ((I 79 x2.toNatClampNeg))]) (n' := 94) (M' := (I, J, xrf)) (fun f => rfl) ?_
  obtain ⟨o, ho, h⟩ := Option.bind_eq_some_iff.mp h
  refine Rn.call (d1 := d + 3) (j1 := 214) (ls1 := [some (.int ((I 79 x2.toNatClampNeg))), some (.int x1)]) (rest := []) (fun f => rfl) ?_
  refine p_X12_has (d := d + 2) ((I 79 x2.toNatClampNeg)) x1 I J (t := o) ho ?_
  exact p_X12_laysMet_5 x1 x2 o.1 o.2.1 o.2.2 h hC
theorem q_X12_laysMet_3 {L : Nat} {xs : Nat → Int32} {d : Nat} {Q : xO → Prop} (x1 : Int32) (x2 : Int32) (I : xI) (J : xJ) {t : (Int32 × Int32 × xI × xJ) ⊕ ((Int32 × (Option Value) × xI × xJ) ⊕ (Unit × xI × xJ))} (h : b_X12_laysMet_3 x1 x2 I J = some t) (hC : (c_X12_laysMet_3 L xs d Q) t) : Rn L xs (d + 4) 253 19 [some (.ref 61), some (.int x1), some (.int x2), none, none] [] 94 (I, J, xrf) Q := by
  unfold b_X12_laysMet_3 at h
  refine Rn.fi 4 (c := (I 61 37) ≤ x2) (p1 := 58) (l1 := [some (.ref 61), some (.int x1), some (.int x2), none, none]) (s1 := []) (n1 := 94) (M1 := (I, J, xrf)) (p2 := 27) (l2 := [some (.ref 61), some (.int x1), some (.int x2), none, none]) (s2 := []) (n2 := 94) (M2 := (I, J, xrf)) (fun f => rfl) (fun hc => ?_) (fun hc => ?_)
  · rw [if_pos hc] at h
    obtain ⟨t0, h0, rfl⟩ := Option.map_eq_some_iff.mp h
    exact p_X12_laysMet_8 x1 x2 I J h0 hC
  · rw [if_neg hc] at h
    exact p_X12_laysMet_4 x1 x2 I J h hC
theorem p_X12_laysMet_3 {L : Nat} {xs : Nat → Int32} {d : Nat} {Q : xO → Prop} (x1 : Int32) (x2 : Int32) (I : xI) (J : xJ) {t : (Int32 × (Option Value) × xI × xJ) ⊕ (Unit × xI × xJ)} (h : f_X12_laysMet_3 x1 x2 I J = some t) (hC : (c_X12_laysMet_1 L xs d Q) t) : Rn L xs (d + 4) 253 19 [some (.ref 61), some (.int x1), some (.int x2), none, none] [] 94 (I, J, xrf) Q := by
  unfold f_X12_laysMet_3 at h
  exact xloop_some (P := fun s : Int32 × Int32 × xI × xJ => Rn L xs (d + 4) 253 19 [some (.ref 61), some (.int s.1), some (.int s.2.1), none, none] [] 94 (s.2.2.1, s.2.2.2, xrf) Q) t (fun s ⟨s', hb, hp⟩ => q_X12_laysMet_3 s.1 s.2.1 s.2.2.1 s.2.2.2 hb hp) (fun s hb => q_X12_laysMet_3 s.1 s.2.1 s.2.2.1 s.2.2.2 hb hC) _ _ h
theorem p_X12_laysMet_2 {L : Nat} {xs : Nat → Int32} {d : Nat} {Q : xO → Prop} (x1 : Int32) (z2 : Option Value) (I : xI) (J : xJ) {t : (Int32 × (Option Value) × xI × xJ) ⊕ (Unit × xI × xJ)} (h : f_X12_laysMet_2 x1 z2 I J = some t) (hC : (c_X12_laysMet_1 L xs d Q) t) : Rn L xs (d + 4) 253 10 [some (.ref 61), some (.int x1), z2, none, none] [] 94 (I, J, xrf) Q := by
  unfold f_X12_laysMet_2 at h
  obtain ⟨hc, h⟩ := xif h
  refine Rn.ok 5 (c := x1 < 0 ∨ 6 ≤ x1.toNatClampNeg) (p1 := 17) (l1 := [some (.ref 61), some (.int x1), z2, none, none]) (s1 := []) (n1 := 94) (M1 := ((xup I 81 x1.toNatClampNeg 0), J, xrf)) (fun f => rfl) hc ?_
  refine Rn.go 2 (j' := 253) (pc' := 19) (ls' := [some (.ref 61), some (.int x1), some (.int 0), none, none]) (st' := []) (n' := 94) (M' := ((xup I 81 x1.toNatClampNeg 0), J, xrf)) (fun f => rfl) ?_
  exact p_X12_laysMet_3 x1 0 ((xup I 81 x1.toNatClampNeg 0)) J h hC
theorem q_X12_laysMet_1 {L : Nat} {xs : Nat → Int32} {d : Nat} {Q : xO → Prop} (x1 : Int32) (z2 : Option Value) (I : xI) (J : xJ) {t : (Int32 × (Option Value) × xI × xJ) ⊕ (Unit × xI × xJ)} (h : b_X12_laysMet_1 x1 z2 I J = some t) (hC : (c_X12_laysMet_1 L xs d Q) t) : Rn L xs (d + 4) 253 2 [some (.ref 61), some (.int x1), z2, none, none] [] 94 (I, J, xrf) Q := by
  unfold b_X12_laysMet_1 at h
  refine Rn.fi 4 (c := (I 61 17) ≤ x1) (p1 := 64) (l1 := [some (.ref 61), some (.int x1), z2, none, none]) (s1 := []) (n1 := 94) (M1 := (I, J, xrf)) (p2 := 10) (l2 := [some (.ref 61), some (.int x1), z2, none, none]) (s2 := []) (n2 := 94) (M2 := (I, J, xrf)) (fun f => rfl) (fun hc => ?_) (fun hc => ?_)
  · rw [if_pos hc] at h
    obtain ⟨t0, h0, rfl⟩ := Option.map_eq_some_iff.mp h
    exact p_X12_laysMet_9 x1 z2 I J h0 hC
  · rw [if_neg hc] at h
    exact p_X12_laysMet_2 x1 z2 I J h hC
theorem p_X12_laysMet_1 {L : Nat} {xs : Nat → Int32} {d : Nat} {Q : xO → Prop} (x1 : Int32) (z2 : Option Value) (I : xI) (J : xJ) {t : Unit × xI × xJ} (h : f_X12_laysMet_1 x1 z2 I J = some t) (hC : (c_X12_laysMet Q) t) : Rn L xs (d + 4) 253 2 [some (.ref 61), some (.int x1), z2, none, none] [] 94 (I, J, xrf) Q := by
  unfold f_X12_laysMet_1 at h
  exact xloop_some (P := fun s : Int32 × (Option Value) × xI × xJ => Rn L xs (d + 4) 253 2 [some (.ref 61), some (.int s.1), s.2.1, none, none] [] 94 (s.2.2.1, s.2.2.2, xrf) Q) t (fun s ⟨s', hb, hp⟩ => q_X12_laysMet_1 s.1 s.2.1 s.2.2.1 s.2.2.2 hb hp) (fun s hb => q_X12_laysMet_1 s.1 s.2.1 s.2.2.1 s.2.2.2 hb hC) _ _ h
theorem p_X12_laysMet_0 {L : Nat} {xs : Nat → Int32} {d : Nat} {Q : xO → Prop} (I : xI) (J : xJ) {t : Unit × xI × xJ} (h : f_X12_laysMet_0 I J = some t) (hC : (c_X12_laysMet Q) t) : Rn L xs (d + 4) 253 0 [some (.ref 61), none, none, none, none] [] 94 (I, J, xrf) Q := by
  unfold f_X12_laysMet_0 at h
  refine Rn.go 2 (j' := 253) (pc' := 2) (ls' := [some (.ref 61), some (.int 0), none, none, none]) (st' := []) (n' := 94) (M' := (I, J, xrf)) (fun f => rfl) ?_
  exact p_X12_laysMet_1 0 none I J h hC
theorem p_X12_laysMet {L : Nat} {xs : Nat → Int32} {d : Nat} {Q : xO → Prop} (I : xI) (J : xJ) {t : Unit × xI × xJ} (h : f_X12_laysMet I J = some t) (hC : Q (none, 94, (t.2.1, t.2.2, xrf))) : Rn L xs (d + 4) 253 0 [some (.ref 61), none, none, none, none] [] 94 (I, J, xrf) Q := p_X12_laysMet_0 I J h hC
/-! X12_doesGo -/
def c_X12_doesGo (Q : xO → Prop) (t : Int32 × xI × xJ) : Prop := Q ((some (.int t.1)), 94, (t.2.1, t.2.2, xrf))
def c_X12_doesGo_1 (L : Nat) (xs : Nat → Int32) (d : Nat) (Q : xO → Prop) (t : (Int32 × Int32 × Int32 × (Option Value) × (Option Value) × xI × xJ) ⊕ (Int32 × xI × xJ)) : Prop := match t with
  | .inl s => Rn L xs (d + 2) 258 2 [some (.ref 61), some (.int s.1), some (.int s.2.1), some (.int s.2.2.1), s.2.2.2.1, s.2.2.2.2.1] [] 94 (s.2.2.2.2.2.1, s.2.2.2.2.2.2, xrf) Q
  | .inr t => (c_X12_doesGo Q) t
def c_X12_doesGo_3 (L : Nat) (xs : Nat → Int32) (d : Nat) (Q : xO → Prop) (t : (Int32 × Int32 × Int32 × Int32 × (Option Value) × xI × xJ) ⊕ ((Int32 × Int32 × Int32 × (Option Value) × (Option Value) × xI × xJ) ⊕ (Int32 × xI × xJ))) : Prop := match t with
  | .inl s => Rn L xs (d + 2) 258 13 [some (.ref 61), some (.int s.1), some (.int s.2.1), some (.int s.2.2.1), some (.int s.2.2.2.1), s.2.2.2.2.1] [] 94 (s.2.2.2.2.2.1, s.2.2.2.2.2.2, xrf) Q
  | .inr t => (c_X12_doesGo_1 L xs d Q) t
def c_X12_doesGo_5 (L : Nat) (xs : Nat → Int32) (d : Nat) (Q : xO → Prop) (t : (Int32 × Int32 × Int32 × Int32 × Int32 × xI × xJ) ⊕ ((Int32 × Int32 × Int32 × Int32 × (Option Value) × xI × xJ) ⊕ ((Int32 × Int32 × Int32 × (Option Value) × (Option Value) × xI × xJ) ⊕ (Int32 × xI × xJ)))) : Prop := match t with
  | .inl s => Rn L xs (d + 2) 258 25 [some (.ref 61), some (.int s.1), some (.int s.2.1), some (.int s.2.2.1), some (.int s.2.2.2.1), some (.int s.2.2.2.2.1)] [] 94 (s.2.2.2.2.2.1, s.2.2.2.2.2.2, xrf) Q
  | .inr t => (c_X12_doesGo_3 L xs d Q) t
def f_X12_doesGo_19 (x1 : Int32) (x2 : Int32) (x3 : Int32) (z4 : Option Value) (z5 : Option Value) (I : xI) (J : xJ) : Option (Int32 × xI × xJ) := some (1, I, J)
def f_X12_doesGo_18 (x1 : Int32) (x2 : Int32) (x3 : Int32) (x4 : Int32) (z5 : Option Value) (I : xI) (J : xJ) : Option ((Int32 × Int32 × Int32 × (Option Value) × (Option Value) × xI × xJ) ⊕ (Int32 × xI × xJ)) := some (.inl (x1, x2, ((x3 + 1)), (some (.int x4)), z5, I, J))
def f_X12_doesGo_17 (x1 : Int32) (x2 : Int32) (x3 : Int32) (x4 : Int32) (x5 : Int32) (I : xI) (J : xJ) : Option ((Int32 × Int32 × Int32 × Int32 × (Option Value) × xI × xJ) ⊕ ((Int32 × Int32 × Int32 × (Option Value) × (Option Value) × xI × xJ) ⊕ (Int32 × xI × xJ))) := some (.inl (x1, x2, x3, ((x4 + 1)), (some (.int x5)), I, J))
def f_X12_doesGo_16 (x1 : Int32) (x2 : Int32) (x3 : Int32) (x4 : Int32) (x5 : Int32) (I : xI) (J : xJ) : Option ((Int32 × Int32 × Int32 × Int32 × Int32 × xI × xJ) ⊕ ((Int32 × Int32 × Int32 × Int32 × (Option Value) × xI × xJ) ⊕ ((Int32 × Int32 × Int32 × (Option Value) × (Option Value) × xI × xJ) ⊕ (Int32 × xI × xJ)))) := some (.inl (x1, x2, x3, x4, ((x5 + 1)), I, J))
def f_X12_doesGo_15 (x1 : Int32) (x2 : Int32) (x3 : Int32) (x4 : Int32) (x5 : Int32) (I : xI) (J : xJ) : Option (Int32 × xI × xJ) := some (0, I, J)
def f_X12_doesGo_14 (x1 : Int32) (x2 : Int32) (x3 : Int32) (x4 : Int32) (x5 : Int32) (s0 : Int32) (s2 : Int32) (s3 : Int32) (I : xI) (J : xJ) : Option ((Int32 × Int32 × Int32 × Int32 × Int32 × xI × xJ) ⊕ ((Int32 × Int32 × Int32 × Int32 × (Option Value) × xI × xJ) ⊕ ((Int32 × Int32 × Int32 × (Option Value) × (Option Value) × xI × xJ) ⊕ (Int32 × xI × xJ)))) := if (s2 + s3) < 0 ∨ 1218 ≤ ((s2 + s3)).toNatClampNeg then none else if s0 = (I 85 ((s2 + s3)).toNatClampNeg) then f_X12_doesGo_16 x1 x2 x3 x4 x5 I J else ((((f_X12_doesGo_15 x1 x2 x3 x4 x5 I J)).map .inr).map .inr).map .inr
def f_X12_doesGo_13 (x1 : Int32) (x2 : Int32) (x3 : Int32) (x4 : Int32) (x5 : Int32) (s1 : Int32) (s2 : Int32) (I : xI) (J : xJ) : Option ((Int32 × Int32 × Int32 × Int32 × Int32 × xI × xJ) ⊕ ((Int32 × Int32 × Int32 × Int32 × (Option Value) × xI × xJ) ⊕ ((Int32 × Int32 × Int32 × (Option Value) × (Option Value) × xI × xJ) ⊕ (Int32 × xI × xJ)))) := if (s1 + s2) < 0 ∨ 1218 ≤ ((s1 + s2)).toNatClampNeg then none else (f_X12_to x5 x3 I J).bind fun o => f_X12_doesGo_14 x1 x2 x3 x4 x5 ((I 85 ((s1 + s2)).toNatClampNeg)) ((6 * x2)) o.1 o.2.1 o.2.2
def f_X12_doesGo_12 (x1 : Int32) (x2 : Int32) (x3 : Int32) (x4 : Int32) (x5 : Int32) (I : xI) (J : xJ) : Option ((Int32 × Int32 × Int32 × Int32 × Int32 × xI × xJ) ⊕ ((Int32 × Int32 × Int32 × Int32 × (Option Value) × xI × xJ) ⊕ ((Int32 × Int32 × Int32 × (Option Value) × (Option Value) × xI × xJ) ⊕ (Int32 × xI × xJ)))) := (f_X12_to x4 x3 I J).bind fun o => f_X12_doesGo_13 x1 x2 x3 x4 x5 ((6 * x2)) o.1 o.2.1 o.2.2
def f_X12_doesGo_11 (x1 : Int32) (x2 : Int32) (x3 : Int32) (x4 : Int32) (x5 : Int32) (I : xI) (J : xJ) : Option ((Int32 × Int32 × Int32 × Int32 × Int32 × xI × xJ) ⊕ ((Int32 × Int32 × Int32 × Int32 × (Option Value) × xI × xJ) ⊕ ((Int32 × Int32 × Int32 × (Option Value) × (Option Value) × xI × xJ) ⊕ (Int32 × xI × xJ)))) := f_X12_doesGo_16 x1 x2 x3 x4 x5 I J
def f_X12_doesGo_10 (x1 : Int32) (x2 : Int32) (x3 : Int32) (x4 : Int32) (x5 : Int32) (I : xI) (J : xJ) : Option ((Int32 × Int32 × Int32 × Int32 × Int32 × xI × xJ) ⊕ ((Int32 × Int32 × Int32 × Int32 × (Option Value) × xI × xJ) ⊕ ((Int32 × Int32 × Int32 × (Option Value) × (Option Value) × xI × xJ) ⊕ (Int32 × xI × xJ)))) := if ((6 * x1) + x4) < 0 ∨ 1218 ≤ (((6 * x1) + x4)).toNatClampNeg then none else if ((6 * x1) + x5) < 0 ∨ 1218 ≤ (((6 * x1) + x5)).toNatClampNeg then none else if (I 85 (((6 * x1) + x4)).toNatClampNeg) = (I 85 (((6 * x1) + x5)).toNatClampNeg) then f_X12_doesGo_12 x1 x2 x3 x4 x5 I J else f_X12_doesGo_11 x1 x2 x3 x4 x5 I J
def f_X12_doesGo_9 (x1 : Int32) (x2 : Int32) (x3 : Int32) (x4 : Int32) (x5 : Int32) (s0 : Int32) (I : xI) (J : xJ) : Option ((Int32 × Int32 × Int32 × Int32 × Int32 × xI × xJ) ⊕ ((Int32 × Int32 × Int32 × Int32 × (Option Value) × xI × xJ) ⊕ ((Int32 × Int32 × Int32 × (Option Value) × (Option Value) × xI × xJ) ⊕ (Int32 × xI × xJ)))) := if s0 < 0 then f_X12_doesGo_16 x1 x2 x3 x4 x5 I J else f_X12_doesGo_10 x1 x2 x3 x4 x5 I J
def f_X12_doesGo_8 (x1 : Int32) (x2 : Int32) (x3 : Int32) (x4 : Int32) (x5 : Int32) (I : xI) (J : xJ) : Option ((Int32 × Int32 × Int32 × Int32 × Int32 × xI × xJ) ⊕ ((Int32 × Int32 × Int32 × Int32 × (Option Value) × xI × xJ) ⊕ ((Int32 × Int32 × Int32 × (Option Value) × (Option Value) × xI × xJ) ⊕ (Int32 × xI × xJ)))) := (f_X12_to x5 x3 I J).bind fun o => f_X12_doesGo_9 x1 x2 x3 x4 x5 o.1 o.2.1 o.2.2
def f_X12_doesGo_7 (x1 : Int32) (x2 : Int32) (x3 : Int32) (x4 : Int32) (x5 : Int32) (s0 : Int32) (I : xI) (J : xJ) : Option ((Int32 × Int32 × Int32 × Int32 × Int32 × xI × xJ) ⊕ ((Int32 × Int32 × Int32 × Int32 × (Option Value) × xI × xJ) ⊕ ((Int32 × Int32 × Int32 × (Option Value) × (Option Value) × xI × xJ) ⊕ (Int32 × xI × xJ)))) := if s0 < 0 then f_X12_doesGo_16 x1 x2 x3 x4 x5 I J else f_X12_doesGo_8 x1 x2 x3 x4 x5 I J
def f_X12_doesGo_6 (x1 : Int32) (x2 : Int32) (x3 : Int32) (x4 : Int32) (x5 : Int32) (I : xI) (J : xJ) : Option ((Int32 × Int32 × Int32 × Int32 × Int32 × xI × xJ) ⊕ ((Int32 × Int32 × Int32 × Int32 × (Option Value) × xI × xJ) ⊕ ((Int32 × Int32 × Int32 × (Option Value) × (Option Value) × xI × xJ) ⊕ (Int32 × xI × xJ)))) := (f_X12_to x4 x3 I J).bind fun o => f_X12_doesGo_7 x1 x2 x3 x4 x5 o.1 o.2.1 o.2.2
def b_X12_doesGo_5 (x1 : Int32) (x2 : Int32) (x3 : Int32) (x4 : Int32) (x5 : Int32) (I : xI) (J : xJ) : Option ((Int32 × Int32 × Int32 × Int32 × Int32 × xI × xJ) ⊕ ((Int32 × Int32 × Int32 × Int32 × (Option Value) × xI × xJ) ⊕ ((Int32 × Int32 × Int32 × (Option Value) × (Option Value) × xI × xJ) ⊕ (Int32 × xI × xJ)))) := if x4 ≤ x5 then ((f_X12_doesGo_17 x1 x2 x3 x4 x5 I J)).map .inr else f_X12_doesGo_6 x1 x2 x3 x4 x5 I J
def f_X12_doesGo_5 (x1 : Int32) (x2 : Int32) (x3 : Int32) (x4 : Int32) (x5 : Int32) (I : xI) (J : xJ) : Option ((Int32 × Int32 × Int32 × Int32 × (Option Value) × xI × xJ) ⊕ ((Int32 × Int32 × Int32 × (Option Value) × (Option Value) × xI × xJ) ⊕ (Int32 × xI × xJ))) := xloop (fun s : Int32 × Int32 × Int32 × Int32 × Int32 × xI × xJ => b_X12_doesGo_5 s.1 s.2.1 s.2.2.1 s.2.2.2.1 s.2.2.2.2.1 s.2.2.2.2.2.1 s.2.2.2.2.2.2) 5000 (x1, x2, x3, x4, x5, I, J)
def f_X12_doesGo_4 (x1 : Int32) (x2 : Int32) (x3 : Int32) (x4 : Int32) (z5 : Option Value) (I : xI) (J : xJ) : Option ((Int32 × Int32 × Int32 × Int32 × (Option Value) × xI × xJ) ⊕ ((Int32 × Int32 × Int32 × (Option Value) × (Option Value) × xI × xJ) ⊕ (Int32 × xI × xJ))) := f_X12_doesGo_5 x1 x2 x3 x4 0 I J
def b_X12_doesGo_3 (x1 : Int32) (x2 : Int32) (x3 : Int32) (x4 : Int32) (z5 : Option Value) (I : xI) (J : xJ) : Option ((Int32 × Int32 × Int32 × Int32 × (Option Value) × xI × xJ) ⊕ ((Int32 × Int32 × Int32 × (Option Value) × (Option Value) × xI × xJ) ⊕ (Int32 × xI × xJ))) := if (I 61 17) ≤ x4 then ((f_X12_doesGo_18 x1 x2 x3 x4 z5 I J)).map .inr else f_X12_doesGo_4 x1 x2 x3 x4 z5 I J
def f_X12_doesGo_3 (x1 : Int32) (x2 : Int32) (x3 : Int32) (x4 : Int32) (z5 : Option Value) (I : xI) (J : xJ) : Option ((Int32 × Int32 × Int32 × (Option Value) × (Option Value) × xI × xJ) ⊕ (Int32 × xI × xJ)) := xloop (fun s : Int32 × Int32 × Int32 × Int32 × (Option Value) × xI × xJ => b_X12_doesGo_3 s.1 s.2.1 s.2.2.1 s.2.2.2.1 s.2.2.2.2.1 s.2.2.2.2.2.1 s.2.2.2.2.2.2) 5000 (x1, x2, x3, x4, z5, I, J)
def f_X12_doesGo_2 (x1 : Int32) (x2 : Int32) (x3 : Int32) (z4 : Option Value) (z5 : Option Value) (I : xI) (J : xJ) : Option ((Int32 × Int32 × Int32 × (Option Value) × (Option Value) × xI × xJ) ⊕ (Int32 × xI × xJ)) := f_X12_doesGo_3 x1 x2 x3 0 z5 I J
def b_X12_doesGo_1 (x1 : Int32) (x2 : Int32) (x3 : Int32) (z4 : Option Value) (z5 : Option Value) (I : xI) (J : xJ) : Option ((Int32 × Int32 × Int32 × (Option Value) × (Option Value) × xI × xJ) ⊕ (Int32 × xI × xJ)) := if (I 61 18) ≤ x3 then ((f_X12_doesGo_19 x1 x2 x3 z4 z5 I J)).map .inr else f_X12_doesGo_2 x1 x2 x3 z4 z5 I J
def f_X12_doesGo_1 (x1 : Int32) (x2 : Int32) (x3 : Int32) (z4 : Option Value) (z5 : Option Value) (I : xI) (J : xJ) : Option (Int32 × xI × xJ) := xloop (fun s : Int32 × Int32 × Int32 × (Option Value) × (Option Value) × xI × xJ => b_X12_doesGo_1 s.1 s.2.1 s.2.2.1 s.2.2.2.1 s.2.2.2.2.1 s.2.2.2.2.2.1 s.2.2.2.2.2.2) 5000 (x1, x2, x3, z4, z5, I, J)
def f_X12_doesGo_0 (x1 : Int32) (x2 : Int32) (I : xI) (J : xJ) : Option (Int32 × xI × xJ) := f_X12_doesGo_1 x1 x2 0 none none I J
def f_X12_doesGo (x1 : Int32) (x2 : Int32) (I : xI) (J : xJ) : Option (Int32 × xI × xJ) := f_X12_doesGo_0 x1 x2 I J
theorem p_X12_doesGo_19 {L : Nat} {xs : Nat → Int32} {d : Nat} {Q : xO → Prop} (x1 : Int32) (x2 : Int32) (x3 : Int32) (z4 : Option Value) (z5 : Option Value) (I : xI) (J : xJ) {t : Int32 × xI × xJ} (h : f_X12_doesGo_19 x1 x2 x3 z4 z5 I J = some t) (hC : (c_X12_doesGo Q) t) : Rn L xs (d + 2) 258 139 [some (.ref 61), some (.int x1), some (.int x2), some (.int x3), z4, z5] [] 94 (I, J, xrf) Q := by
  unfold f_X12_doesGo_19 at h
  cases h
  exact Rn.ret 2 (o := ((some (.int 1)), 94, (I, J, xrf))) (fun f => rfl) hC
theorem p_X12_doesGo_18 {L : Nat} {xs : Nat → Int32} {d : Nat} {Q : xO → Prop} (x1 : Int32) (x2 : Int32) (x3 : Int32) (x4 : Int32) (z5 : Option Value) (I : xI) (J : xJ) {t : (Int32 × Int32 × Int32 × (Option Value) × (Option Value) × xI × xJ) ⊕ (Int32 × xI × xJ)} (h : f_X12_doesGo_18 x1 x2 x3 x4 z5 I J = some t) (hC : (c_X12_doesGo_1 L xs d Q) t) : Rn L xs (d + 2) 258 133 [some (.ref 61), some (.int x1), some (.int x2), some (.int x3), some (.int x4), z5] [] 94 (I, J, xrf) Q := by
  unfold f_X12_doesGo_18 at h
  refine Rn.go 2 (j' := 258) (pc' := 2) (ls' := [some (.ref 61), some (.int x1), some (.int x2), some (.int ((x3 + 1))), some (.int x4), z5]) (st' := []) (n' := 94) (M' := (I, J, xrf)) (fun f => rfl) ?_
  cases h; exact hC
theorem p_X12_doesGo_17 {L : Nat} {xs : Nat → Int32} {d : Nat} {Q : xO → Prop} (x1 : Int32) (x2 : Int32) (x3 : Int32) (x4 : Int32) (x5 : Int32) (I : xI) (J : xJ) {t : (Int32 × Int32 × Int32 × Int32 × (Option Value) × xI × xJ) ⊕ ((Int32 × Int32 × Int32 × (Option Value) × (Option Value) × xI × xJ) ⊕ (Int32 × xI × xJ))} (h : f_X12_doesGo_17 x1 x2 x3 x4 x5 I J = some t) (hC : (c_X12_doesGo_3 L xs d Q) t) : Rn L xs (d + 2) 258 127 [some (.ref 61), some (.int x1), some (.int x2), some (.int x3), some (.int x4), some (.int x5)] [] 94 (I, J, xrf) Q := by
  unfold f_X12_doesGo_17 at h
  refine Rn.go 2 (j' := 258) (pc' := 13) (ls' := [some (.ref 61), some (.int x1), some (.int x2), some (.int x3), some (.int ((x4 + 1))), some (.int x5)]) (st' := []) (n' := 94) (M' := (I, J, xrf)) (fun f => rfl) ?_
  cases h; exact hC
theorem p_X12_doesGo_16 {L : Nat} {xs : Nat → Int32} {d : Nat} {Q : xO → Prop} (x1 : Int32) (x2 : Int32) (x3 : Int32) (x4 : Int32) (x5 : Int32) (I : xI) (J : xJ) {t : (Int32 × Int32 × Int32 × Int32 × Int32 × xI × xJ) ⊕ ((Int32 × Int32 × Int32 × Int32 × (Option Value) × xI × xJ) ⊕ ((Int32 × Int32 × Int32 × (Option Value) × (Option Value) × xI × xJ) ⊕ (Int32 × xI × xJ)))} (h : f_X12_doesGo_16 x1 x2 x3 x4 x5 I J = some t) (hC : (c_X12_doesGo_5 L xs d Q) t) : Rn L xs (d + 2) 258 121 [some (.ref 61), some (.int x1), some (.int x2), some (.int x3), some (.int x4), some (.int x5)] [] 94 (I, J, xrf) Q := by
  unfold f_X12_doesGo_16 at h
  refine Rn.go 2 (j' := 258) (pc' := 25) (ls' := [some (.ref 61), some (.int x1), some (.int x2), some (.int x3), some (.int x4), some (.int ((x5 + 1)))]) (st' := []) (n' := 94) (M' := (I, J, xrf)) (fun f => rfl) ?_
  cases h; exact hC
theorem p_X12_doesGo_15 {L : Nat} {xs : Nat → Int32} {d : Nat} {Q : xO → Prop} (x1 : Int32) (x2 : Int32) (x3 : Int32) (x4 : Int32) (x5 : Int32) (I : xI) (J : xJ) {t : Int32 × xI × xJ} (h : f_X12_doesGo_15 x1 x2 x3 x4 x5 I J = some t) (hC : (c_X12_doesGo Q) t) : Rn L xs (d + 2) 258 119 [some (.ref 61), some (.int x1), some (.int x2), some (.int x3), some (.int x4), some (.int x5)] [] 94 (I, J, xrf) Q := by
  unfold f_X12_doesGo_15 at h
  cases h
  exact Rn.ret 2 (o := ((some (.int 0)), 94, (I, J, xrf))) (fun f => rfl) hC
theorem p_X12_doesGo_14 {L : Nat} {xs : Nat → Int32} {d : Nat} {Q : xO → Prop} (x1 : Int32) (x2 : Int32) (x3 : Int32) (x4 : Int32) (x5 : Int32) (s0 : Int32) (s2 : Int32) (s3 : Int32) (I : xI) (J : xJ) {t : (Int32 × Int32 × Int32 × Int32 × Int32 × xI × xJ) ⊕ ((Int32 × Int32 × Int32 × Int32 × (Option Value) × xI × xJ) ⊕ ((Int32 × Int32 × Int32 × (Option Value) × (Option Value) × xI × xJ) ⊕ (Int32 × xI × xJ)))} (h : f_X12_doesGo_14 x1 x2 x3 x4 x5 s0 s2 s3 I J = some t) (hC : (c_X12_doesGo_5 L xs d Q) t) : Rn L xs (d + 2) 258 114 [some (.ref 61), some (.int x1), some (.int x2), some (.int x3), some (.int x4), some (.int x5)] [.int s3, .int s2, .ref 85, .int s0] 94 (I, J, xrf) Q := by
  unfold f_X12_doesGo_14 at h
  obtain ⟨hc, h⟩ := xif h
  refine Rn.ok 2 (c := (s2 + s3) < 0 ∨ 1218 ≤ ((s2 + s3)).toNatClampNeg) (p1 := 116) (l1 := [some (.ref 61), some (.int x1), some (.int x2), some (.int x3), some (.int x4), some (.int x5)]) (s1 := [.int ((I 85 ((s2 + s3)).toNatClampNeg)), .int s0]) (n1 := 94) (M1 := (I, J, xrf)) (fun f => rfl) hc ?_
  refine Rn.fi 1 (c := s0 = (I 85 ((s2 + s3)).toNatClampNeg)) (p1 := 121) (l1 := [some (.ref 61), some (.int x1), some (.int x2), some (.int x3), some (.int x4), some (.int x5)]) (s1 := []) (n1 := 94) (M1 := (I, J, xrf)) (p2 := 119) (l2 := [some (.ref 61), some (.int x1), some (.int x2), some (.int x3), some (.int x4), some (.int x5)]) (s2 := []) (n2 := 94) (M2 := (I, J, xrf)) (fun f => rfl) (fun hc => ?_) (fun hc => ?_)
  · rw [if_pos hc] at h
    exact p_X12_doesGo_16 x1 x2 x3 x4 x5 I J h hC
  · rw [if_neg hc] at h
    obtain ⟨t0, h0, rfl⟩ := Option.map_eq_some_iff.mp h
    obtain ⟨t1, h1, rfl⟩ := Option.map_eq_some_iff.mp h0
    obtain ⟨t2, h2, rfl⟩ := Option.map_eq_some_iff.mp h1
    exact p_X12_doesGo_15 x1 x2 x3 x4 x5 I J h2 hC
theorem p_X12_doesGo_13 {L : Nat} {xs : Nat → Int32} {d : Nat} {Q : xO → Prop} (x1 : Int32) (x2 : Int32) (x3 : Int32) (x4 : Int32) (x5 : Int32) (s1 : Int32) (s2 : Int32) (I : xI) (J : xJ) {t : (Int32 × Int32 × Int32 × Int32 × Int32 × xI × xJ) ⊕ ((Int32 × Int32 × Int32 × Int32 × (Option Value) × xI × xJ) ⊕ ((Int32 × Int32 × Int32 × (Option Value) × (Option Value) × xI × xJ) ⊕ (Int32 × xI × xJ)))} (h : f_X12_doesGo_13 x1 x2 x3 x4 x5 s1 s2 I J = some t) (hC : (c_X12_doesGo_5 L xs d Q) t) : Rn L xs (d + 2) 258 97 [some (.ref 61), some (.int x1), some (.int x2), some (.int x3), some (.int x4), some (.int x5)] [.int s2, .int s1, .ref 85] 94 (I, J, xrf) Q := by
  unfold f_X12_doesGo_13 at h
  obtain ⟨hc, h⟩ := xif h
  refine Rn.ok 2 (c := (s1 + s2) < 0 ∨ 1218 ≤ ((s1 + s2)).toNatClampNeg) (p1 := 99) (l1 := [some (.ref 61), some (.int x1), some (.int x2), some (.int x3), some (.int x4), some (.int x5)]) (s1 := [.int ((I 85 ((s1 + s2)).toNatClampNeg))]) (n1 := 94) (M1 := (I, J, xrf)) (fun f => rfl) hc ?_
  refine Rn.go 8 (j' := 258) (pc' := 111) (ls' := [some (.ref 61), some (.int x1), some (.int x2), some (.int x3), some (.int x4), some (.int x5)]) (st' := [.int x3, .int x5, .ref 61, .int ((6 * x2)), .ref 85, .int ((I 85 ((s1 + s2)).toNatClampNeg))]) (n' := 94) (M' := (I, J, xrf)) (fun f => rfl) ?_
  obtain ⟨o, ho, h⟩ := Option.bind_eq_some_iff.mp h
  refine Rn.call (d1 := d + 1) (j1 := 210) (ls1 := [some (.ref 61), some (.int x5), some (.int x3)]) (rest := [.int ((6 * x2)), .ref 85, .int ((I 85 ((s1 + s2)).toNatClampNeg))]) (fun f => rfl) ?_
  refine p_X12_to (d := d + 0) x5 x3 I J (t := o) ho ?_
  exact p_X12_doesGo_14 x1 x2 x3 x4 x5 ((I 85 ((s1 + s2)).toNatClampNeg)) ((6 * x2)) o.1 o.2.1 o.2.2 h hC
theorem p_X12_doesGo_12 {L : Nat} {xs : Nat → Int32} {d : Nat} {Q : xO → Prop} (x1 : Int32) (x2 : Int32) (x3 : Int32) (x4 : Int32) (x5 : Int32) (I : xI) (J : xJ) {t : (Int32 × Int32 × Int32 × Int32 × Int32 × xI × xJ) ⊕ ((Int32 × Int32 × Int32 × Int32 × (Option Value) × xI × xJ) ⊕ ((Int32 × Int32 × Int32 × (Option Value) × (Option Value) × xI × xJ) ⊕ (Int32 × xI × xJ)))} (h : f_X12_doesGo_12 x1 x2 x3 x4 x5 I J = some t) (hC : (c_X12_doesGo_5 L xs d Q) t) : Rn L xs (d + 2) 258 82 [some (.ref 61), some (.int x1), some (.int x2), some (.int x3), some (.int x4), some (.int x5)] [] 94 (I, J, xrf) Q := by
  unfold f_X12_doesGo_12 at h
  refine Rn.go 8 (j' := 258) (pc' := 94) (ls' := [some (.ref 61), some (.int x1), some (.int x2), some (.int x3), some (.int x4), some (.int x5)]) (st' := [.int x3, .int x4, .ref 61, .int ((6 * x2)), .ref 85]) (n' := 94) (M' := (I, J, xrf)) (fun f => rfl) ?_
  obtain ⟨o, ho, h⟩ := Option.bind_eq_some_iff.mp h
  refine Rn.call (d1 := d + 1) (j1 := 210) (ls1 := [some (.ref 61), some (.int x4), some (.int x3)]) (rest := [.int ((6 * x2)), .ref 85]) (fun f => rfl) ?_
  refine p_X12_to (d := d + 0) x4 x3 I J (t := o) ho ?_
  exact p_X12_doesGo_13 x1 x2 x3 x4 x5 ((6 * x2)) o.1 o.2.1 o.2.2 h hC
theorem p_X12_doesGo_11 {L : Nat} {xs : Nat → Int32} {d : Nat} {Q : xO → Prop} (x1 : Int32) (x2 : Int32) (x3 : Int32) (x4 : Int32) (x5 : Int32) (I : xI) (J : xJ) {t : (Int32 × Int32 × Int32 × Int32 × Int32 × xI × xJ) ⊕ ((Int32 × Int32 × Int32 × Int32 × (Option Value) × xI × xJ) ⊕ ((Int32 × Int32 × Int32 × (Option Value) × (Option Value) × xI × xJ) ⊕ (Int32 × xI × xJ)))} (h : f_X12_doesGo_11 x1 x2 x3 x4 x5 I J = some t) (hC : (c_X12_doesGo_5 L xs d Q) t) : Rn L xs (d + 2) 258 79 [some (.ref 61), some (.int x1), some (.int x2), some (.int x3), some (.int x4), some (.int x5)] [] 94 (I, J, xrf) Q := by
  unfold f_X12_doesGo_11 at h
  refine Rn.go 1 (j' := 258) (pc' := 121) (ls' := [some (.ref 61), some (.int x1), some (.int x2), some (.int x3), some (.int x4), some (.int x5)]) (st' := []) (n' := 94) (M' := (I, J, xrf)) (fun f => rfl) ?_
  exact p_X12_doesGo_16 x1 x2 x3 x4 x5 I J h hC
theorem p_X12_doesGo_10 {L : Nat} {xs : Nat → Int32} {d : Nat} {Q : xO → Prop} (x1 : Int32) (x2 : Int32) (x3 : Int32) (x4 : Int32) (x5 : Int32) (I : xI) (J : xJ) {t : (Int32 × Int32 × Int32 × Int32 × Int32 × xI × xJ) ⊕ ((Int32 × Int32 × Int32 × Int32 × (Option Value) × xI × xJ) ⊕ ((Int32 × Int32 × Int32 × (Option Value) × (Option Value) × xI × xJ) ⊕ (Int32 × xI × xJ)))} (h : f_X12_doesGo_10 x1 x2 x3 x4 x5 I J = some t) (hC : (c_X12_doesGo_5 L xs d Q) t) : Rn L xs (d + 2) 258 52 [some (.ref 61), some (.int x1), some (.int x2), some (.int x3), some (.int x4), some (.int x5)] [] 94 (I, J, xrf) Q := by
  unfold f_X12_doesGo_10 at h
  obtain ⟨hc, h⟩ := xif h
  refine Rn.ok 8 (c := ((6 * x1) + x4) < 0 ∨ 1218 ≤ (((6 * x1) + x4)).toNatClampNeg) (p1 := 64) (l1 := [some (.ref 61), some (.int x1), some (.int x2), some (.int x3), some (.int x4), some (.int x5)]) (s1 := [.int ((I 85 (((6 * x1) + x4)).toNatClampNeg))]) (n1 := 94) (M1 := (I, J, xrf)) (fun f => rfl) hc ?_
  obtain ⟨hc, h⟩ := xif h
  refine Rn.ok 8 (c := ((6 * x1) + x5) < 0 ∨ 1218 ≤ (((6 * x1) + x5)).toNatClampNeg) (p1 := 76) (l1 := [some (.ref 61), some (.int x1), some (.int x2), some (.int x3), some (.int x4), some (.int x5)]) (s1 := [.int ((I 85 (((6 * x1) + x5)).toNatClampNeg)), .int ((I 85 (((6 * x1) + x4)).toNatClampNeg))]) (n1 := 94) (M1 := (I, J, xrf)) (fun f => rfl) hc ?_
  refine Rn.fi 1 (c := (I 85 (((6 * x1) + x4)).toNatClampNeg) = (I 85 (((6 * x1) + x5)).toNatClampNeg)) (p1 := 82) (l1 := [some (.ref 61), some (.int x1), some (.int x2), some (.int x3), some (.int x4), some (.int x5)]) (s1 := []) (n1 := 94) (M1 := (I, J, xrf)) (p2 := 79) (l2 := [some (.ref 61), some (.int x1), some (.int x2), some (.int x3), some (.int x4), some (.int x5)]) (s2 := []) (n2 := 94) (M2 := (I, J, xrf)) (fun f => rfl) (fun hc => ?_) (fun hc => ?_)
  · rw [if_pos hc] at h
    exact p_X12_doesGo_12 x1 x2 x3 x4 x5 I J h hC
  · rw [if_neg hc] at h
    exact p_X12_doesGo_11 x1 x2 x3 x4 x5 I J h hC
theorem p_X12_doesGo_9 {L : Nat} {xs : Nat → Int32} {d : Nat} {Q : xO → Prop} (x1 : Int32) (x2 : Int32) (x3 : Int32) (x4 : Int32) (x5 : Int32) (s0 : Int32) (I : xI) (J : xJ) {t : (Int32 × Int32 × Int32 × Int32 × Int32 × xI × xJ) ⊕ ((Int32 × Int32 × Int32 × Int32 × (Option Value) × xI × xJ) ⊕ ((Int32 × Int32 × Int32 × (Option Value) × (Option Value) × xI × xJ) ⊕ (Int32 × xI × xJ)))} (h : f_X12_doesGo_9 x1 x2 x3 x4 x5 s0 I J = some t) (hC : (c_X12_doesGo_5 L xs d Q) t) : Rn L xs (d + 2) 258 49 [some (.ref 61), some (.int x1), some (.int x2), some (.int x3), some (.int x4), some (.int x5)] [.int s0] 94 (I, J, xrf) Q := by
  unfold f_X12_doesGo_9 at h
  refine Rn.fi 1 (c := s0 < 0) (p1 := 121) (l1 := [some (.ref 61), some (.int x1), some (.int x2), some (.int x3), some (.int x4), some (.int x5)]) (s1 := []) (n1 := 94) (M1 := (I, J, xrf)) (p2 := 52) (l2 := [some (.ref 61), some (.int x1), some (.int x2), some (.int x3), some (.int x4), some (.int x5)]) (s2 := []) (n2 := 94) (M2 := (I, J, xrf)) (fun f => rfl) (fun hc => ?_) (fun hc => ?_)
  · rw [if_pos hc] at h
    exact p_X12_doesGo_16 x1 x2 x3 x4 x5 I J h hC
  · rw [if_neg hc] at h
    exact p_X12_doesGo_10 x1 x2 x3 x4 x5 I J h hC
theorem p_X12_doesGo_8 {L : Nat} {xs : Nat → Int32} {d : Nat} {Q : xO → Prop} (x1 : Int32) (x2 : Int32) (x3 : Int32) (x4 : Int32) (x5 : Int32) (I : xI) (J : xJ) {t : (Int32 × Int32 × Int32 × Int32 × Int32 × xI × xJ) ⊕ ((Int32 × Int32 × Int32 × Int32 × (Option Value) × xI × xJ) ⊕ ((Int32 × Int32 × Int32 × (Option Value) × (Option Value) × xI × xJ) ⊕ (Int32 × xI × xJ)))} (h : f_X12_doesGo_8 x1 x2 x3 x4 x5 I J = some t) (hC : (c_X12_doesGo_5 L xs d Q) t) : Rn L xs (d + 2) 258 42 [some (.ref 61), some (.int x1), some (.int x2), some (.int x3), some (.int x4), some (.int x5)] [] 94 (I, J, xrf) Q := by
  unfold f_X12_doesGo_8 at h
  refine Rn.go 3 (j' := 258) (pc' := 46) (ls' := [some (.ref 61), some (.int x1), some (.int x2), some (.int x3), some (.int x4), some (.int x5)]) (st' := [.int x3, .int x5, .ref 61]) (n' := 94) (M' := (I, J, xrf)) (fun f => rfl) ?_
  obtain ⟨o, ho, h⟩ := Option.bind_eq_some_iff.mp h
  refine Rn.call (d1 := d + 1) (j1 := 210) (ls1 := [some (.ref 61), some (.int x5), some (.int x3)]) (rest := []) (fun f => rfl) ?_
  refine p_X12_to (d := d + 0) x5 x3 I J (t := o) ho ?_
  exact p_X12_doesGo_9 x1 x2 x3 x4 x5 o.1 o.2.1 o.2.2 h hC
theorem p_X12_doesGo_7 {L : Nat} {xs : Nat → Int32} {d : Nat} {Q : xO → Prop} (x1 : Int32) (x2 : Int32) (x3 : Int32) (x4 : Int32) (x5 : Int32) (s0 : Int32) (I : xI) (J : xJ) {t : (Int32 × Int32 × Int32 × Int32 × Int32 × xI × xJ) ⊕ ((Int32 × Int32 × Int32 × Int32 × (Option Value) × xI × xJ) ⊕ ((Int32 × Int32 × Int32 × (Option Value) × (Option Value) × xI × xJ) ⊕ (Int32 × xI × xJ)))} (h : f_X12_doesGo_7 x1 x2 x3 x4 x5 s0 I J = some t) (hC : (c_X12_doesGo_5 L xs d Q) t) : Rn L xs (d + 2) 258 39 [some (.ref 61), some (.int x1), some (.int x2), some (.int x3), some (.int x4), some (.int x5)] [.int s0] 94 (I, J, xrf) Q := by
  unfold f_X12_doesGo_7 at h
  refine Rn.fi 1 (c := s0 < 0) (p1 := 121) (l1 := [some (.ref 61), some (.int x1), some (.int x2), some (.int x3), some (.int x4), some (.int x5)]) (s1 := []) (n1 := 94) (M1 := (I, J, xrf)) (p2 := 42) (l2 := [some (.ref 61), some (.int x1), some (.int x2), some (.int x3), some (.int x4), some (.int x5)]) (s2 := []) (n2 := 94) (M2 := (I, J, xrf)) (fun f => rfl) (fun hc => ?_) (fun hc => ?_)
  · rw [if_pos hc] at h
    exact p_X12_doesGo_16 x1 x2 x3 x4 x5 I J h hC
  · rw [if_neg hc] at h
    exact p_X12_doesGo_8 x1 x2 x3 x4 x5 I J h hC
theorem p_X12_doesGo_6 {L : Nat} {xs : Nat → Int32} {d : Nat} {Q : xO → Prop} (x1 : Int32) (x2 : Int32) (x3 : Int32) (x4 : Int32) (x5 : Int32) (I : xI) (J : xJ) {t : (Int32 × Int32 × Int32 × Int32 × Int32 × xI × xJ) ⊕ ((Int32 × Int32 × Int32 × Int32 × (Option Value) × xI × xJ) ⊕ ((Int32 × Int32 × Int32 × (Option Value) × (Option Value) × xI × xJ) ⊕ (Int32 × xI × xJ)))} (h : f_X12_doesGo_6 x1 x2 x3 x4 x5 I J = some t) (hC : (c_X12_doesGo_5 L xs d Q) t) : Rn L xs (d + 2) 258 32 [some (.ref 61), some (.int x1), some (.int x2), some (.int x3), some (.int x4), some (.int x5)] [] 94 (I, J, xrf) Q := by
  unfold f_X12_doesGo_6 at h
  refine Rn.go 3 (j' := 258) (pc' := 36) (ls' := [some (.ref 61), some (.int x1), some (.int x2), some (.int x3), some (.int x4), some (.int x5)]) (st' := [.int x3, .int x4, .ref 61]) (n' := 94) (M' := (I, J, xrf)) (fun f => rfl) ?_
  obtain ⟨o, ho, h⟩ := Option.bind_eq_some_iff.mp h
  refine Rn.call (d1 := d + 1) (j1 := 210) (ls1 := [some (.ref 61), some (.int x4), some (.int x3)]) (rest := []) (fun f => rfl) ?_
  refine p_X12_to (d := d + 0) x4 x3 I J (t := o) ho ?_
  exact p_X12_doesGo_7 x1 x2 x3 x4 x5 o.1 o.2.1 o.2.2 h hC
theorem q_X12_doesGo_5 {L : Nat} {xs : Nat → Int32} {d : Nat} {Q : xO → Prop} (x1 : Int32) (x2 : Int32) (x3 : Int32) (x4 : Int32) (x5 : Int32) (I : xI) (J : xJ) {t : (Int32 × Int32 × Int32 × Int32 × Int32 × xI × xJ) ⊕ ((Int32 × Int32 × Int32 × Int32 × (Option Value) × xI × xJ) ⊕ ((Int32 × Int32 × Int32 × (Option Value) × (Option Value) × xI × xJ) ⊕ (Int32 × xI × xJ)))} (h : b_X12_doesGo_5 x1 x2 x3 x4 x5 I J = some t) (hC : (c_X12_doesGo_5 L xs d Q) t) : Rn L xs (d + 2) 258 25 [some (.ref 61), some (.int x1), some (.int x2), some (.int x3), some (.int x4), some (.int x5)] [] 94 (I, J, xrf) Q := by
  unfold b_X12_doesGo_5 at h
  refine Rn.fi 3 (c := x4 ≤ x5) (p1 := 127) (l1 := [some (.ref 61), some (.int x1), some (.int x2), some (.int x3), some (.int x4), some (.int x5)]) (s1 := []) (n1 := 94) (M1 := (I, J, xrf)) (p2 := 32) (l2 := [some (.ref 61), some (.int x1), some (.int x2), some (.int x3), some (.int x4), some (.int x5)]) (s2 := []) (n2 := 94) (M2 := (I, J, xrf)) (fun f => rfl) (fun hc => ?_) (fun hc => ?_)
  · rw [if_pos hc] at h
    obtain ⟨t0, h0, rfl⟩ := Option.map_eq_some_iff.mp h
    exact p_X12_doesGo_17 x1 x2 x3 x4 x5 I J h0 hC
  · rw [if_neg hc] at h
    exact p_X12_doesGo_6 x1 x2 x3 x4 x5 I J h hC
theorem p_X12_doesGo_5 {L : Nat} {xs : Nat → Int32} {d : Nat} {Q : xO → Prop} (x1 : Int32) (x2 : Int32) (x3 : Int32) (x4 : Int32) (x5 : Int32) (I : xI) (J : xJ) {t : (Int32 × Int32 × Int32 × Int32 × (Option Value) × xI × xJ) ⊕ ((Int32 × Int32 × Int32 × (Option Value) × (Option Value) × xI × xJ) ⊕ (Int32 × xI × xJ))} (h : f_X12_doesGo_5 x1 x2 x3 x4 x5 I J = some t) (hC : (c_X12_doesGo_3 L xs d Q) t) : Rn L xs (d + 2) 258 25 [some (.ref 61), some (.int x1), some (.int x2), some (.int x3), some (.int x4), some (.int x5)] [] 94 (I, J, xrf) Q := by
  unfold f_X12_doesGo_5 at h
  exact xloop_some (P := fun s : Int32 × Int32 × Int32 × Int32 × Int32 × xI × xJ => Rn L xs (d + 2) 258 25 [some (.ref 61), some (.int s.1), some (.int s.2.1), some (.int s.2.2.1), some (.int s.2.2.2.1), some (.int s.2.2.2.2.1)] [] 94 (s.2.2.2.2.2.1, s.2.2.2.2.2.2, xrf) Q) t (fun s ⟨s', hb, hp⟩ => q_X12_doesGo_5 s.1 s.2.1 s.2.2.1 s.2.2.2.1 s.2.2.2.2.1 s.2.2.2.2.2.1 s.2.2.2.2.2.2 hb hp) (fun s hb => q_X12_doesGo_5 s.1 s.2.1 s.2.2.1 s.2.2.2.1 s.2.2.2.2.1 s.2.2.2.2.2.1 s.2.2.2.2.2.2 hb hC) _ _ h
theorem p_X12_doesGo_4 {L : Nat} {xs : Nat → Int32} {d : Nat} {Q : xO → Prop} (x1 : Int32) (x2 : Int32) (x3 : Int32) (x4 : Int32) (z5 : Option Value) (I : xI) (J : xJ) {t : (Int32 × Int32 × Int32 × Int32 × (Option Value) × xI × xJ) ⊕ ((Int32 × Int32 × Int32 × (Option Value) × (Option Value) × xI × xJ) ⊕ (Int32 × xI × xJ))} (h : f_X12_doesGo_4 x1 x2 x3 x4 z5 I J = some t) (hC : (c_X12_doesGo_3 L xs d Q) t) : Rn L xs (d + 2) 258 22 [some (.ref 61), some (.int x1), some (.int x2), some (.int x3), some (.int x4), z5] [] 94 (I, J, xrf) Q := by
  unfold f_X12_doesGo_4 at h
  refine Rn.go 2 (j' := 258) (pc' := 25) (ls' := [some (.ref 61), some (.int x1), some (.int x2), some (.int x3), some (.int x4), some (.int 0)]) (st' := []) (n' := 94) (M' := (I, J, xrf)) (fun f => rfl) ?_
  exact p_X12_doesGo_5 x1 x2 x3 x4 0 I J h hC
theorem q_X12_doesGo_3 {L : Nat} {xs : Nat → Int32} {d : Nat} {Q : xO → Prop} (x1 : Int32) (x2 : Int32) (x3 : Int32) (x4 : Int32) (z5 : Option Value) (I : xI) (J : xJ) {t : (Int32 × Int32 × Int32 × Int32 × (Option Value) × xI × xJ) ⊕ ((Int32 × Int32 × Int32 × (Option Value) × (Option Value) × xI × xJ) ⊕ (Int32 × xI × xJ))} (h : b_X12_doesGo_3 x1 x2 x3 x4 z5 I J = some t) (hC : (c_X12_doesGo_3 L xs d Q) t) : Rn L xs (d + 2) 258 13 [some (.ref 61), some (.int x1), some (.int x2), some (.int x3), some (.int x4), z5] [] 94 (I, J, xrf) Q := by
  unfold b_X12_doesGo_3 at h
  refine Rn.fi 4 (c := (I 61 17) ≤ x4) (p1 := 133) (l1 := [some (.ref 61), some (.int x1), some (.int x2), some (.int x3), some (.int x4), z5]) (s1 := []) (n1 := 94) (M1 := (I, J, xrf)) (p2 := 22) (l2 := [some (.ref 61), some (.int x1), some (.int x2), some (.int x3), some (.int x4), z5]) (s2 := []) (n2 := 94) (M2 := (I, J, xrf)) (fun f => rfl) (fun hc => ?_) (fun hc => ?_)
  · rw [if_pos hc] at h
    obtain ⟨t0, h0, rfl⟩ := Option.map_eq_some_iff.mp h
    exact p_X12_doesGo_18 x1 x2 x3 x4 z5 I J h0 hC
  · rw [if_neg hc] at h
    exact p_X12_doesGo_4 x1 x2 x3 x4 z5 I J h hC
theorem p_X12_doesGo_3 {L : Nat} {xs : Nat → Int32} {d : Nat} {Q : xO → Prop} (x1 : Int32) (x2 : Int32) (x3 : Int32) (x4 : Int32) (z5 : Option Value) (I : xI) (J : xJ) {t : (Int32 × Int32 × Int32 × (Option Value) × (Option Value) × xI × xJ) ⊕ (Int32 × xI × xJ)} (h : f_X12_doesGo_3 x1 x2 x3 x4 z5 I J = some t) (hC : (c_X12_doesGo_1 L xs d Q) t) : Rn L xs (d + 2) 258 13 [some (.ref 61), some (.int x1), some (.int x2), some (.int x3), some (.int x4), z5] [] 94 (I, J, xrf) Q := by
  unfold f_X12_doesGo_3 at h
  exact xloop_some (P := fun s : Int32 × Int32 × Int32 × Int32 × (Option Value) × xI × xJ => Rn L xs (d + 2) 258 13 [some (.ref 61), some (.int s.1), some (.int s.2.1), some (.int s.2.2.1), some (.int s.2.2.2.1), s.2.2.2.2.1] [] 94 (s.2.2.2.2.2.1, s.2.2.2.2.2.2, xrf) Q) t (fun s ⟨s', hb, hp⟩ => q_X12_doesGo_3 s.1 s.2.1 s.2.2.1 s.2.2.2.1 s.2.2.2.2.1 s.2.2.2.2.2.1 s.2.2.2.2.2.2 hb hp) (fun s hb => q_X12_doesGo_3 s.1 s.2.1 s.2.2.1 s.2.2.2.1 s.2.2.2.2.1 s.2.2.2.2.2.1 s.2.2.2.2.2.2 hb hC) _ _ h
theorem p_X12_doesGo_2 {L : Nat} {xs : Nat → Int32} {d : Nat} {Q : xO → Prop} (x1 : Int32) (x2 : Int32) (x3 : Int32) (z4 : Option Value) (z5 : Option Value) (I : xI) (J : xJ) {t : (Int32 × Int32 × Int32 × (Option Value) × (Option Value) × xI × xJ) ⊕ (Int32 × xI × xJ)} (h : f_X12_doesGo_2 x1 x2 x3 z4 z5 I J = some t) (hC : (c_X12_doesGo_1 L xs d Q) t) : Rn L xs (d + 2) 258 10 [some (.ref 61), some (.int x1), some (.int x2), some (.int x3), z4, z5] [] 94 (I, J, xrf) Q := by
  unfold f_X12_doesGo_2 at h
  refine Rn.go 2 (j' := 258) (pc' := 13) (ls' := [some (.ref 61), some (.int x1), some (.int x2), some (.int x3), some (.int 0), z5]) (st' := []) (n' := 94) (M' := (I, J, xrf)) (fun f => rfl) ?_
  exact p_X12_doesGo_3 x1 x2 x3 0 z5 I J h hC
theorem q_X12_doesGo_1 {L : Nat} {xs : Nat → Int32} {d : Nat} {Q : xO → Prop} (x1 : Int32) (x2 : Int32) (x3 : Int32) (z4 : Option Value) (z5 : Option Value) (I : xI) (J : xJ) {t : (Int32 × Int32 × Int32 × (Option Value) × (Option Value) × xI × xJ) ⊕ (Int32 × xI × xJ)} (h : b_X12_doesGo_1 x1 x2 x3 z4 z5 I J = some t) (hC : (c_X12_doesGo_1 L xs d Q) t) : Rn L xs (d + 2) 258 2 [some (.ref 61), some (.int x1), some (.int x2), some (.int x3), z4, z5] [] 94 (I, J, xrf) Q := by
  unfold b_X12_doesGo_1 at h
  refine Rn.fi 4 (c := (I 61 18) ≤ x3) (p1 := 139) (l1 := [some (.ref 61), some (.int x1), some (.int x2), some (.int x3), z4, z5]) (s1 := []) (n1 := 94) (M1 := (I, J, xrf)) (p2 := 10) (l2 := [some (.ref 61), some (.int x1), some (.int x2), some (.int x3), z4, z5]) (s2 := []) (n2 := 94) (M2 := (I, J, xrf)) (fun f => rfl) (fun hc => ?_) (fun hc => ?_)
  · rw [if_pos hc] at h
    obtain ⟨t0, h0, rfl⟩ := Option.map_eq_some_iff.mp h
    exact p_X12_doesGo_19 x1 x2 x3 z4 z5 I J h0 hC
  · rw [if_neg hc] at h
    exact p_X12_doesGo_2 x1 x2 x3 z4 z5 I J h hC
theorem p_X12_doesGo_1 {L : Nat} {xs : Nat → Int32} {d : Nat} {Q : xO → Prop} (x1 : Int32) (x2 : Int32) (x3 : Int32) (z4 : Option Value) (z5 : Option Value) (I : xI) (J : xJ) {t : Int32 × xI × xJ} (h : f_X12_doesGo_1 x1 x2 x3 z4 z5 I J = some t) (hC : (c_X12_doesGo Q) t) : Rn L xs (d + 2) 258 2 [some (.ref 61), some (.int x1), some (.int x2), some (.int x3), z4, z5] [] 94 (I, J, xrf) Q := by
  unfold f_X12_doesGo_1 at h
  exact xloop_some (P := fun s : Int32 × Int32 × Int32 × (Option Value) × (Option Value) × xI × xJ => Rn L xs (d + 2) 258 2 [some (.ref 61), some (.int s.1), some (.int s.2.1), some (.int s.2.2.1), s.2.2.2.1, s.2.2.2.2.1] [] 94 (s.2.2.2.2.2.1, s.2.2.2.2.2.2, xrf) Q) t (fun s ⟨s', hb, hp⟩ => q_X12_doesGo_1 s.1 s.2.1 s.2.2.1 s.2.2.2.1 s.2.2.2.2.1 s.2.2.2.2.2.1 s.2.2.2.2.2.2 hb hp) (fun s hb => q_X12_doesGo_1 s.1 s.2.1 s.2.2.1 s.2.2.2.1 s.2.2.2.2.1 s.2.2.2.2.2.1 s.2.2.2.2.2.2 hb hC) _ _ h
theorem p_X12_doesGo_0 {L : Nat} {xs : Nat → Int32} {d : Nat} {Q : xO → Prop} (x1 : Int32) (x2 : Int32) (I : xI) (J : xJ) {t : Int32 × xI × xJ} (h : f_X12_doesGo_0 x1 x2 I J = some t) (hC : (c_X12_doesGo Q) t) : Rn L xs (d + 2) 258 0 [some (.ref 61), some (.int x1), some (.int x2), none, none, none] [] 94 (I, J, xrf) Q := by
  unfold f_X12_doesGo_0 at h
  refine Rn.go 2 (j' := 258) (pc' := 2) (ls' := [some (.ref 61), some (.int x1), some (.int x2), some (.int 0), none, none]) (st' := []) (n' := 94) (M' := (I, J, xrf)) (fun f => rfl) ?_
  exact p_X12_doesGo_1 x1 x2 0 none none I J h hC
theorem p_X12_doesGo {L : Nat} {xs : Nat → Int32} {d : Nat} {Q : xO → Prop} (x1 : Int32) (x2 : Int32) (I : xI) (J : xJ) {t : Int32 × xI × xJ} (h : f_X12_doesGo x1 x2 I J = some t) (hC : Q ((some (.int t.1)), 94, (t.2.1, t.2.2, xrf))) : Rn L xs (d + 2) 258 0 [some (.ref 61), some (.int x1), some (.int x2), none, none, none] [] 94 (I, J, xrf) Q := p_X12_doesGo_0 x1 x2 I J h hC
/-! X12_hasNext -/
def c_X12_hasNext (Q : xO → Prop) (t : Int32 × xI × xJ) : Prop := Q ((some (.int t.1)), 94, (t.2.1, t.2.2, xrf))
def c_X12_hasNext_1 (L : Nat) (xs : Nat → Int32) (d : Nat) (Q : xO → Prop) (t : (Int32 × Int32 × (Option Value) × (Option Value) × xI × xJ) ⊕ (Int32 × xI × xJ)) : Prop := match t with
  | .inl s => Rn L xs (d + 1) 257 7 [some (.ref 61), some (.int s.1), some (.int s.2.1), s.2.2.1, s.2.2.2.1] [] 94 (s.2.2.2.2.1, s.2.2.2.2.2, xrf) Q
  | .inr t => (c_X12_hasNext Q) t
def c_X12_hasNext_10 (L : Nat) (xs : Nat → Int32) (d : Nat) (Q : xO → Prop) (t : (Int32 × Int32 × Int32 × Int32 × xI × xJ) ⊕ (Int32 × xI × xJ)) : Prop := match t with
  | .inl s => Rn L xs (d + 1) 257 69 [some (.ref 61), some (.int s.1), some (.int s.2.1), some (.int s.2.2.1), some (.int s.2.2.2.1)] [] 94 (s.2.2.2.2.1, s.2.2.2.2.2, xrf) Q
  | .inr t => (c_X12_hasNext Q) t
def c_X12_hasNext_3 (L : Nat) (xs : Nat → Int32) (d : Nat) (Q : xO → Prop) (t : (Int32 × Int32 × Int32 × Int32 × xI × xJ) ⊕ ((Int32 × Int32 × (Option Value) × (Option Value) × xI × xJ) ⊕ (Int32 × xI × xJ))) : Prop := match t with
  | .inl s => Rn L xs (d + 1) 257 16 [some (.ref 61), some (.int s.1), some (.int s.2.1), some (.int s.2.2.1), some (.int s.2.2.2.1)] [] 94 (s.2.2.2.2.1, s.2.2.2.2.2, xrf) Q
  | .inr t => (c_X12_hasNext_1 L xs d Q) t
def f_X12_hasNext_19 (x1 : Int32) (x2 : Int32) (z3 : Option Value) (z4 : Option Value) (I : xI) (J : xJ) : Option (Int32 × xI × xJ) := some (0, I, J)
def f_X12_hasNext_17 (x1 : Int32) (x2 : Int32) (x3 : Int32) (x4 : Int32) (I : xI) (J : xJ) : Option (Int32 × xI × xJ) := some (1, I, J)
def f_X12_hasNext_16 (x1 : Int32) (x2 : Int32) (x3 : Int32) (x4 : Int32) (s1 : Int32) (s2 : Int32) (I : xI) (J : xJ) : Option ((Int32 × Int32 × Int32 × Int32 × xI × xJ) ⊕ (Int32 × xI × xJ)) := if s1 < 0 ∨ 1218 ≤ s1.toNatClampNeg then none else some (.inl (x1, x2, x3, ((x4 + 1)), ((xup I 85 s1.toNatClampNeg s2)), J))
def f_X12_hasNext_15 (x1 : Int32) (x2 : Int32) (x3 : Int32) (x4 : Int32) (s1 : Int32) (I : xI) (J : xJ) : Option ((Int32 × Int32 × Int32 × Int32 × xI × xJ) ⊕ (Int32 × xI × xJ)) := f_X12_hasNext_16 x1 x2 x3 x4 s1 0 I J
def f_X12_hasNext_14 (x1 : Int32) (x2 : Int32) (x3 : Int32) (x4 : Int32) (s1 : Int32) (I : xI) (J : xJ) : Option ((Int32 × Int32 × Int32 × Int32 × xI × xJ) ⊕ (Int32 × xI × xJ)) := if (x1 + x2) < 0 ∨ 1218 ≤ ((x1 + x2)).toNatClampNeg then none else f_X12_hasNext_16 x1 x2 x3 x4 s1 (((I 85 ((x1 + x2)).toNatClampNeg) + 1)) I J
def f_X12_hasNext_13 (x1 : Int32) (x2 : Int32) (x3 : Int32) (x4 : Int32) (s1 : Int32) (I : xI) (J : xJ) : Option ((Int32 × Int32 × Int32 × Int32 × xI × xJ) ⊕ (Int32 × xI × xJ)) := if x4 = x2 then f_X12_hasNext_14 x1 x2 x3 x4 s1 I J else f_X12_hasNext_15 x1 x2 x3 x4 s1 I J
def f_X12_hasNext_12 (x1 : Int32) (x2 : Int32) (x3 : Int32) (x4 : Int32) (s1 : Int32) (I : xI) (J : xJ) : Option ((Int32 × Int32 × Int32 × Int32 × xI × xJ) ⊕ (Int32 × xI × xJ)) := if (x1 + x4) < 0 ∨ 1218 ≤ ((x1 + x4)).toNatClampNeg then none else f_X12_hasNext_16 x1 x2 x3 x4 s1 ((I 85 ((x1 + x4)).toNatClampNeg)) I J
def f_X12_hasNext_11 (x1 : Int32) (x2 : Int32) (x3 : Int32) (x4 : Int32) (I : xI) (J : xJ) : Option ((Int32 × Int32 × Int32 × Int32 × xI × xJ) ⊕ (Int32 × xI × xJ)) := if x2 ≤ x4 then f_X12_hasNext_13 x1 x2 x3 x4 (((x1 + 6) + x4)) I J else f_X12_hasNext_12 x1 x2 x3 x4 (((x1 + 6) + x4)) I J
def b_X12_hasNext_10 (x1 : Int32) (x2 : Int32) (x3 : Int32) (x4 : Int32) (I : xI) (J : xJ) : Option ((Int32 × Int32 × Int32 × Int32 × xI × xJ) ⊕ (Int32 × xI × xJ)) := if 6 ≤ x4 then ((f_X12_hasNext_17 x1 x2 x3 x4 I J)).map .inr else f_X12_hasNext_11 x1 x2 x3 x4 I J
def f_X12_hasNext_10 (x1 : Int32) (x2 : Int32) (x3 : Int32) (x4 : Int32) (I : xI) (J : xJ) : Option (Int32 × xI × xJ) := xloop (fun s : Int32 × Int32 × Int32 × Int32 × xI × xJ => b_X12_hasNext_10 s.1 s.2.1 s.2.2.1 s.2.2.2.1 s.2.2.2.2.1 s.2.2.2.2.2) 5000 (x1, x2, x3, x4, I, J)
def f_X12_hasNext_9 (x1 : Int32) (x2 : Int32) (x3 : Int32) (x4 : Int32) (I : xI) (J : xJ) : Option (Int32 × xI × xJ) := f_X12_hasNext_10 x1 x2 x3 0 I J
def f_X12_hasNext_18 (x1 : Int32) (x2 : Int32) (x3 : Int32) (x4 : Int32) (I : xI) (J : xJ) : Option ((Int32 × Int32 × (Option Value) × (Option Value) × xI × xJ) ⊕ (Int32 × xI × xJ)) := some (.inl (x1, ((x2 + Int32.ofInt (-1))), (some (.int x3)), (some (.int x4)), I, J))
def f_X12_hasNext_8 (x1 : Int32) (x2 : Int32) (x3 : Int32) (x4 : Int32) (I : xI) (J : xJ) : Option ((Int32 × Int32 × (Option Value) × (Option Value) × xI × xJ) ⊕ (Int32 × xI × xJ)) := f_X12_hasNext_18 x1 x2 x3 x4 I J
def f_X12_hasNext_7 (x1 : Int32) (x2 : Int32) (x3 : Int32) (x4 : Int32) (I : xI) (J : xJ) : Option ((Int32 × Int32 × (Option Value) × (Option Value) × xI × xJ) ⊕ (Int32 × xI × xJ)) := if (x1 + x2) < 0 ∨ 1218 ≤ ((x1 + x2)).toNatClampNeg then none else if (I 85 ((x1 + x2)).toNatClampNeg) ≤ x3 then ((f_X12_hasNext_9 x1 x2 x3 x4 I J)).map .inr else f_X12_hasNext_8 x1 x2 x3 x4 I J
def f_X12_hasNext_6 (x1 : Int32) (x2 : Int32) (x3 : Int32) (x4 : Int32) (I : xI) (J : xJ) : Option ((Int32 × Int32 × Int32 × Int32 × xI × xJ) ⊕ ((Int32 × Int32 × (Option Value) × (Option Value) × xI × xJ) ⊕ (Int32 × xI × xJ))) := some (.inl (x1, x2, x3, ((x4 + 1)), I, J))
def f_X12_hasNext_5 (x1 : Int32) (x2 : Int32) (x3 : Int32) (x4 : Int32) (I : xI) (J : xJ) : Option ((Int32 × Int32 × Int32 × Int32 × xI × xJ) ⊕ ((Int32 × Int32 × (Option Value) × (Option Value) × xI × xJ) ⊕ (Int32 × xI × xJ))) := if (x1 + x4) < 0 ∨ 1218 ≤ ((x1 + x4)).toNatClampNeg then none else f_X12_hasNext_6 x1 x2 ((I 85 ((x1 + x4)).toNatClampNeg)) x4 I J
def f_X12_hasNext_4 (x1 : Int32) (x2 : Int32) (x3 : Int32) (x4 : Int32) (I : xI) (J : xJ) : Option ((Int32 × Int32 × Int32 × Int32 × xI × xJ) ⊕ ((Int32 × Int32 × (Option Value) × (Option Value) × xI × xJ) ⊕ (Int32 × xI × xJ))) := if (x1 + x4) < 0 ∨ 1218 ≤ ((x1 + x4)).toNatClampNeg then none else if (I 85 ((x1 + x4)).toNatClampNeg) ≤ x3 then f_X12_hasNext_6 x1 x2 x3 x4 I J else f_X12_hasNext_5 x1 x2 x3 x4 I J
def b_X12_hasNext_3 (x1 : Int32) (x2 : Int32) (x3 : Int32) (x4 : Int32) (I : xI) (J : xJ) : Option ((Int32 × Int32 × Int32 × Int32 × xI × xJ) ⊕ ((Int32 × Int32 × (Option Value) × (Option Value) × xI × xJ) ⊕ (Int32 × xI × xJ))) := if x2 ≤ x4 then ((f_X12_hasNext_7 x1 x2 x3 x4 I J)).map .inr else f_X12_hasNext_4 x1 x2 x3 x4 I J
def f_X12_hasNext_3 (x1 : Int32) (x2 : Int32) (x3 : Int32) (x4 : Int32) (I : xI) (J : xJ) : Option ((Int32 × Int32 × (Option Value) × (Option Value) × xI × xJ) ⊕ (Int32 × xI × xJ)) := xloop (fun s : Int32 × Int32 × Int32 × Int32 × xI × xJ => b_X12_hasNext_3 s.1 s.2.1 s.2.2.1 s.2.2.2.1 s.2.2.2.2.1 s.2.2.2.2.2) 5000 (x1, x2, x3, x4, I, J)
def f_X12_hasNext_2 (x1 : Int32) (x2 : Int32) (z3 : Option Value) (z4 : Option Value) (I : xI) (J : xJ) : Option ((Int32 × Int32 × (Option Value) × (Option Value) × xI × xJ) ⊕ (Int32 × xI × xJ)) := f_X12_hasNext_3 x1 x2 0 0 I J
def b_X12_hasNext_1 (x1 : Int32) (x2 : Int32) (z3 : Option Value) (z4 : Option Value) (I : xI) (J : xJ) : Option ((Int32 × Int32 × (Option Value) × (Option Value) × xI × xJ) ⊕ (Int32 × xI × xJ)) := if x2 ≤ 0 then ((f_X12_hasNext_19 x1 x2 z3 z4 I J)).map .inr else f_X12_hasNext_2 x1 x2 z3 z4 I J
def f_X12_hasNext_1 (x1 : Int32) (x2 : Int32) (z3 : Option Value) (z4 : Option Value) (I : xI) (J : xJ) : Option (Int32 × xI × xJ) := xloop (fun s : Int32 × Int32 × (Option Value) × (Option Value) × xI × xJ => b_X12_hasNext_1 s.1 s.2.1 s.2.2.1 s.2.2.2.1 s.2.2.2.2.1 s.2.2.2.2.2) 5000 (x1, x2, z3, z4, I, J)
def f_X12_hasNext_0 (x1 : Int32) (I : xI) (J : xJ) : Option (Int32 × xI × xJ) := f_X12_hasNext_1 x1 (((I 61 17) - 1)) none none I J
def f_X12_hasNext (x1 : Int32) (I : xI) (J : xJ) : Option (Int32 × xI × xJ) := f_X12_hasNext_0 x1 I J
theorem p_X12_hasNext_19 {L : Nat} {xs : Nat → Int32} {d : Nat} {Q : xO → Prop} (x1 : Int32) (x2 : Int32) (z3 : Option Value) (z4 : Option Value) (I : xI) (J : xJ) {t : Int32 × xI × xJ} (h : f_X12_hasNext_19 x1 x2 z3 z4 I J = some t) (hC : (c_X12_hasNext Q) t) : Rn L xs (d + 1) 257 140 [some (.ref 61), some (.int x1), some (.int x2), z3, z4] [] 94 (I, J, xrf) Q := by
  unfold f_X12_hasNext_19 at h
  cases h
  exact Rn.ret 2 (o := ((some (.int 0)), 94, (I, J, xrf))) (fun f => rfl) hC
theorem p_X12_hasNext_17 {L : Nat} {xs : Nat → Int32} {d : Nat} {Q : xO → Prop} (x1 : Int32) (x2 : Int32) (x3 : Int32) (x4 : Int32) (I : xI) (J : xJ) {t : Int32 × xI × xJ} (h : f_X12_hasNext_17 x1 x2 x3 x4 I J = some t) (hC : (c_X12_hasNext Q) t) : Rn L xs (d + 1) 257 132 [some (.ref 61), some (.int x1), some (.int x2), some (.int x3), some (.int x4)] [] 94 (I, J, xrf) Q := by
  unfold f_X12_hasNext_17 at h
  cases h
  exact Rn.ret 2 (o := ((some (.int 1)), 94, (I, J, xrf))) (fun f => rfl) hC
theorem p_X12_hasNext_16 {L : Nat} {xs : Nat → Int32} {d : Nat} {Q : xO → Prop} (x1 : Int32) (x2 : Int32) (x3 : Int32) (x4 : Int32) (s1 : Int32) (s2 : Int32) (I : xI) (J : xJ) {t : (Int32 × Int32 × Int32 × Int32 × xI × xJ) ⊕ (Int32 × xI × xJ)} (h : f_X12_hasNext_16 x1 x2 x3 x4 s1 s2 I J = some t) (hC : (c_X12_hasNext_10 L xs d Q) t) : Rn L xs (d + 1) 257 125 [some (.ref 61), some (.int x1), some (.int x2), some (.int x3), some (.int x4)] [.int s2, .int s1, .ref 85] 94 (I, J, xrf) Q := by
  unfold f_X12_hasNext_16 at h
  obtain ⟨hc, h⟩ := xif h
  refine Rn.ok 1 (c := s1 < 0 ∨ 1218 ≤ s1.toNatClampNeg) (p1 := 126) (l1 := [some (.ref 61), some (.int x1), some (.int x2), some (.int x3), some (.int x4)]) (s1 := []) (n1 := 94) (M1 := ((xup I 85 s1.toNatClampNeg s2), J, xrf)) (fun f => rfl) hc ?_
  refine Rn.go 2 (j' := 257) (pc' := 69) (ls' := [some (.ref 61), some (.int x1), some (.int x2), some (.int x3), some (.int ((x4 + 1)))]) (st' := []) (n' := 94) (M' := ((xup I 85 s1.toNatClampNeg s2), J, xrf)) (fun f => rfl) ?_
  cases h; exact hC
theorem p_X12_hasNext_15 {L : Nat} {xs : Nat → Int32} {d : Nat} {Q : xO → Prop} (x1 : Int32) (x2 : Int32) (x3 : Int32) (x4 : Int32) (s1 : Int32) (I : xI) (J : xJ) {t : (Int32 × Int32 × Int32 × Int32 × xI × xJ) ⊕ (Int32 × xI × xJ)} (h : f_X12_hasNext_15 x1 x2 x3 x4 s1 I J = some t) (hC : (c_X12_hasNext_10 L xs d Q) t) : Rn L xs (d + 1) 257 124 [some (.ref 61), some (.int x1), some (.int x2), some (.int x3), some (.int x4)] [.int s1, .ref 85] 94 (I, J, xrf) Q := by
  unfold f_X12_hasNext_15 at h
  refine Rn.go 1 (j' := 257) (pc' := 125) (ls' := [some (.ref 61), some (.int x1), some (.int x2), some (.int x3), some (.int x4)]) (st' := [.int 0, .int s1, .ref 85]) (n' := 94) (M' := (I, J, xrf)) (fun f => rfl) ?_
  exact p_X12_hasNext_16 x1 x2 x3 x4 s1 0 I J h hC
theorem p_X12_hasNext_14 {L : Nat} {xs : Nat → Int32} {d : Nat} {Q : xO → Prop} (x1 : Int32) (x2 : Int32) (x3 : Int32) (x4 : Int32) (s1 : Int32) (I : xI) (J : xJ) {t : (Int32 × Int32 × Int32 × Int32 × xI × xJ) ⊕ (Int32 × xI × xJ)} (h : f_X12_hasNext_14 x1 x2 x3 x4 s1 I J = some t) (hC : (c_X12_hasNext_10 L xs d Q) t) : Rn L xs (d + 1) 257 111 [some (.ref 61), some (.int x1), some (.int x2), some (.int x3), some (.int x4)] [.int s1, .ref 85] 94 (I, J, xrf) Q := by
  unfold f_X12_hasNext_14 at h
  obtain ⟨hc, h⟩ := xif h
  refine Rn.ok 6 (c := (x1 + x2) < 0 ∨ 1218 ≤ ((x1 + x2)).toNatClampNeg) (p1 := 119) (l1 := [some (.ref 61), some (.int x1), some (.int x2), some (.int x3), some (.int x4)]) (s1 := [.int ((I 85 ((x1 + x2)).toNatClampNeg)), .int s1, .ref 85]) (n1 := 94) (M1 := (I, J, xrf)) (fun f => rfl) hc ?_
  refine Rn.go 3 (j' := 257) (pc' := 125) (ls' := [some (.ref 61), some (.int x1), some (.int x2), some (.int x3), some (.int x4)]) (st' := [.int (((I 85 ((x1 + x2)).toNatClampNeg) + 1)), .int s1, .ref 85]) (n' := 94) (M' := (I, J, xrf)) (fun f => rfl) ?_
  exact p_X12_hasNext_16 x1 x2 x3 x4 s1 (((I 85 ((x1 + x2)).toNatClampNeg) + 1)) I J h hC
theorem p_X12_hasNext_13 {L : Nat} {xs : Nat → Int32} {d : Nat} {Q : xO → Prop} (x1 : Int32) (x2 : Int32) (x3 : Int32) (x4 : Int32) (s1 : Int32) (I : xI) (J : xJ) {t : (Int32 × Int32 × Int32 × Int32 × xI × xJ) ⊕ (Int32 × xI × xJ)} (h : f_X12_hasNext_13 x1 x2 x3 x4 s1 I J = some t) (hC : (c_X12_hasNext_10 L xs d Q) t) : Rn L xs (d + 1) 257 105 [some (.ref 61), some (.int x1), some (.int x2), some (.int x3), some (.int x4)] [.int s1, .ref 85] 94 (I, J, xrf) Q := by
  unfold f_X12_hasNext_13 at h
  refine Rn.fi 3 (c := x4 = x2) (p1 := 111) (l1 := [some (.ref 61), some (.int x1), some (.int x2), some (.int x3), some (.int x4)]) (s1 := [.int s1, .ref 85]) (n1 := 94) (M1 := (I, J, xrf)) (p2 := 124) (l2 := [some (.ref 61), some (.int x1), some (.int x2), some (.int x3), some (.int x4)]) (s2 := [.int s1, .ref 85]) (n2 := 94) (M2 := (I, J, xrf)) (fun f => rfl) (fun hc => ?_) (fun hc => ?_)
  · rw [if_pos hc] at h
    exact p_X12_hasNext_14 x1 x2 x3 x4 s1 I J h hC
  · rw [if_neg hc] at h
    exact p_X12_hasNext_15 x1 x2 x3 x4 s1 I J h hC
theorem p_X12_hasNext_12 {L : Nat} {xs : Nat → Int32} {d : Nat} {Q : xO → Prop} (x1 : Int32) (x2 : Int32) (x3 : Int32) (x4 : Int32) (s1 : Int32) (I : xI) (J : xJ) {t : (Int32 × Int32 × Int32 × Int32 × xI × xJ) ⊕ (Int32 × xI × xJ)} (h : f_X12_hasNext_12 x1 x2 x3 x4 s1 I J = some t) (hC : (c_X12_hasNext_10 L xs d Q) t) : Rn L xs (d + 1) 257 93 [some (.ref 61), some (.int x1), some (.int x2), some (.int x3), some (.int x4)] [.int s1, .ref 85] 94 (I, J, xrf) Q := by
  unfold f_X12_hasNext_12 at h
  obtain ⟨hc, h⟩ := xif h
  refine Rn.ok 6 (c := (x1 + x4) < 0 ∨ 1218 ≤ ((x1 + x4)).toNatClampNeg) (p1 := 102) (l1 := [some (.ref 61), some (.int x1), some (.int x2), some (.int x3), some (.int x4)]) (s1 := [.int ((I 85 ((x1 + x4)).toNatClampNeg)), .int s1, .ref 85]) (n1 := 94) (M1 := (I, J, xrf)) (fun f => rfl) hc ?_
  refine Rn.go 1 (j' := 257) (pc' := 125) (ls' := [some (.ref 61), some (.int x1), some (.int x2), some (.int x3), some (.int x4)]) (st' := [.int ((I 85 ((x1 + x4)).toNatClampNeg)), .int s1, .ref 85]) (n' := 94) (M' := (I, J, xrf)) (fun f => rfl) ?_
  exact p_X12_hasNext_16 x1 x2 x3 x4 s1 ((I 85 ((x1 + x4)).toNatClampNeg)) I J h hC
theorem p_X12_hasNext_11 {L : Nat} {xs : Nat → Int32} {d : Nat} {Q : xO → Prop} (x1 : Int32) (x2 : Int32) (x3 : Int32) (x4 : Int32) (I : xI) (J : xJ) {t : (Int32 × Int32 × Int32 × Int32 × xI × xJ) ⊕ (Int32 × xI × xJ)} (h : f_X12_hasNext_11 x1 x2 x3 x4 I J = some t) (hC : (c_X12_hasNext_10 L xs d Q) t) : Rn L xs (d + 1) 257 76 [some (.ref 61), some (.int x1), some (.int x2), some (.int x3), some (.int x4)] [] 94 (I, J, xrf) Q := by
  unfold f_X12_hasNext_11 at h
  refine Rn.fi 10 (c := x2 ≤ x4) (p1 := 105) (l1 := [some (.ref 61), some (.int x1), some (.int x2), some (.int x3), some (.int x4)]) (s1 := [.int (((x1 + 6) + x4)), .ref 85]) (n1 := 94) (M1 := (I, J, xrf)) (p2 := 93) (l2 := [some (.ref 61), some (.int x1), some (.int x2), some (.int x3), some (.int x4)]) (s2 := [.int (((x1 + 6) + x4)), .ref 85]) (n2 := 94) (M2 := (I, J, xrf)) (fun f => rfl) (fun hc => ?_) (fun hc => ?_)
  · rw [if_pos hc] at h
    exact p_X12_hasNext_13 x1 x2 x3 x4 (((x1 + 6) + x4)) I J h hC
  · rw [if_neg hc] at h
    exact p_X12_hasNext_12 x1 x2 x3 x4 (((x1 + 6) + x4)) I J h hC
theorem q_X12_hasNext_10 {L : Nat} {xs : Nat → Int32} {d : Nat} {Q : xO → Prop} (x1 : Int32) (x2 : Int32) (x3 : Int32) (x4 : Int32) (I : xI) (J : xJ) {t : (Int32 × Int32 × Int32 × Int32 × xI × xJ) ⊕ (Int32 × xI × xJ)} (h : b_X12_hasNext_10 x1 x2 x3 x4 I J = some t) (hC : (c_X12_hasNext_10 L xs d Q) t) : Rn L xs (d + 1) 257 69 [some (.ref 61), some (.int x1), some (.int x2), some (.int x3), some (.int x4)] [] 94 (I, J, xrf) Q := by
  unfold b_X12_hasNext_10 at h
  refine Rn.fi 3 (c := 6 ≤ x4) (p1 := 132) (l1 := [some (.ref 61), some (.int x1), some (.int x2), some (.int x3), some (.int x4)]) (s1 := []) (n1 := 94) (M1 := (I, J, xrf)) (p2 := 76) (l2 := [some (.ref 61), some (.int x1), some (.int x2), some (.int x3), some (.int x4)]) (s2 := []) (n2 := 94) (M2 := (I, J, xrf)) (fun f => rfl) (fun hc => ?_) (fun hc => ?_)
  · rw [if_pos hc] at h
    obtain ⟨t0, h0, rfl⟩ := Option.map_eq_some_iff.mp h
    exact p_X12_hasNext_17 x1 x2 x3 x4 I J h0 hC
  · rw [if_neg hc] at h
    exact p_X12_hasNext_11 x1 x2 x3 x4 I J h hC
theorem p_X12_hasNext_10 {L : Nat} {xs : Nat → Int32} {d : Nat} {Q : xO → Prop} (x1 : Int32) (x2 : Int32) (x3 : Int32) (x4 : Int32) (I : xI) (J : xJ) {t : Int32 × xI × xJ} (h : f_X12_hasNext_10 x1 x2 x3 x4 I J = some t) (hC : (c_X12_hasNext Q) t) : Rn L xs (d + 1) 257 69 [some (.ref 61), some (.int x1), some (.int x2), some (.int x3), some (.int x4)] [] 94 (I, J, xrf) Q := by
  unfold f_X12_hasNext_10 at h
  exact xloop_some (P := fun s : Int32 × Int32 × Int32 × Int32 × xI × xJ => Rn L xs (d + 1) 257 69 [some (.ref 61), some (.int s.1), some (.int s.2.1), some (.int s.2.2.1), some (.int s.2.2.2.1)] [] 94 (s.2.2.2.2.1, s.2.2.2.2.2, xrf) Q) t (fun s ⟨s', hb, hp⟩ => q_X12_hasNext_10 s.1 s.2.1 s.2.2.1 s.2.2.2.1 s.2.2.2.2.1 s.2.2.2.2.2 hb hp) (fun s hb => q_X12_hasNext_10 s.1 s.2.1 s.2.2.1 s.2.2.2.1 s.2.2.2.2.1 s.2.2.2.2.2 hb hC) _ _ h
theorem p_X12_hasNext_9 {L : Nat} {xs : Nat → Int32} {d : Nat} {Q : xO → Prop} (x1 : Int32) (x2 : Int32) (x3 : Int32) (x4 : Int32) (I : xI) (J : xJ) {t : Int32 × xI × xJ} (h : f_X12_hasNext_9 x1 x2 x3 x4 I J = some t) (hC : (c_X12_hasNext Q) t) : Rn L xs (d + 1) 257 66 [some (.ref 61), some (.int x1), some (.int x2), some (.int x3), some (.int x4)] [] 94 (I, J, xrf) Q := by
  unfold f_X12_hasNext_9 at h
  refine Rn.go 2 (j' := 257) (pc' := 69) (ls' := [some (.ref 61), some (.int x1), some (.int x2), some (.int x3), some (.int 0)]) (st' := []) (n' := 94) (M' := (I, J, xrf)) (fun f => rfl) ?_
  exact p_X12_hasNext_10 x1 x2 x3 0 I J h hC
theorem p_X12_hasNext_18 {L : Nat} {xs : Nat → Int32} {d : Nat} {Q : xO → Prop} (x1 : Int32) (x2 : Int32) (x3 : Int32) (x4 : Int32) (I : xI) (J : xJ) {t : (Int32 × Int32 × (Option Value) × (Option Value) × xI × xJ) ⊕ (Int32 × xI × xJ)} (h : f_X12_hasNext_18 x1 x2 x3 x4 I J = some t) (hC : (c_X12_hasNext_1 L xs d Q) t) : Rn L xs (d + 1) 257 134 [some (.ref 61), some (.int x1), some (.int x2), some (.int x3), some (.int x4)] [] 94 (I, J, xrf) Q := by
  unfold f_X12_hasNext_18 at h
  refine Rn.go 1 (d' := (d + 1)) (j' := 257) (pc' := 137) (ls' := [some (.ref 61), some (.int x1), some (.int ((x2 + Int32.ofInt (-1)))), some (.int x3), some (.int x4)]) (st' := []) (n' := 94) (M' := (I, J, xrf)) (fun f => xrun_iinc 2 (-1) x2 rfl rfl rfl) ?_
  refine Rn.go 1 (j' := 257) (pc' := 7) (ls' := [some (.ref 61), some (.int x1), some (.int ((x2 + Int32.ofInt (-1)))), some (.int x3), some (.int x4)]) (st' := []) (n' := 94) (M' := (I, J, xrf)) (fun f => rfl) ?_
  cases h; exact hC
theorem p_X12_hasNext_8 {L : Nat} {xs : Nat → Int32} {d : Nat} {Q : xO → Prop} (x1 : Int32) (x2 : Int32) (x3 : Int32) (x4 : Int32) (I : xI) (J : xJ) {t : (Int32 × Int32 × (Option Value) × (Option Value) × xI × xJ) ⊕ (Int32 × xI × xJ)} (h : f_X12_hasNext_8 x1 x2 x3 x4 I J = some t) (hC : (c_X12_hasNext_1 L xs d Q) t) : Rn L xs (d + 1) 257 63 [some (.ref 61), some (.int x1), some (.int x2), some (.int x3), some (.int x4)] [] 94 (I, J, xrf) Q := by
  unfold f_X12_hasNext_8 at h
  refine Rn.go 1 (j' := 257) (pc' := 134) (ls' := [some (.ref 61), some (.int x1), some (.int x2), some (.int x3), some (.int x4)]) (st' := []) (n' := 94) (M' := (I, J, xrf)) (fun f => rfl) ?_
  exact p_X12_hasNext_18 x1 x2 x3 x4 I J h hC
theorem p_X12_hasNext_7 {L : Nat} {xs : Nat → Int32} {d : Nat} {Q : xO → Prop} (x1 : Int32) (x2 : Int32) (x3 : Int32) (x4 : Int32) (I : xI) (J : xJ) {t : (Int32 × Int32 × (Option Value) × (Option Value) × xI × xJ) ⊕ (Int32 × xI × xJ)} (h : f_X12_hasNext_7 x1 x2 x3 x4 I J = some t) (hC : (c_X12_hasNext_1 L xs d Q) t) : Rn L xs (d + 1) 257 51 [some (.ref 61), some (.int x1), some (.int x2), some (.int x3), some (.int x4)] [] 94 (I, J, xrf) Q := by
  unfold f_X12_hasNext_7 at h
  obtain ⟨hc, h⟩ := xif h
  refine Rn.ok 6 (c := (x1 + x2) < 0 ∨ 1218 ≤ ((x1 + x2)).toNatClampNeg) (p1 := 59) (l1 := [some (.ref 61), some (.int x1), some (.int x2), some (.int x3), some (.int x4)]) (s1 := [.int ((I 85 ((x1 + x2)).toNatClampNeg))]) (n1 := 94) (M1 := (I, J, xrf)) (fun f => rfl) hc ?_
  refine Rn.fi 2 (c := (I 85 ((x1 + x2)).toNatClampNeg) ≤ x3) (p1 := 66) (l1 := [some (.ref 61), some (.int x1), some (.int x2), some (.int x3), some (.int x4)]) (s1 := []) (n1 := 94) (M1 := (I, J, xrf)) (p2 := 63) (l2 := [some (.ref 61), some (.int x1), some (.int x2), some (.int x3), some (.int x4)]) (s2 := []) (n2 := 94) (M2 := (I, J, xrf)) (fun f => rfl) (fun hc => ?_) (fun hc => ?_)
  · rw [if_pos hc] at h
    obtain ⟨t0, h0, rfl⟩ := Option.map_eq_some_iff.mp h
    exact p_X12_hasNext_9 x1 x2 x3 x4 I J h0 hC
  · rw [if_neg hc] at h
    exact p_X12_hasNext_8 x1 x2 x3 x4 I J h hC
theorem p_X12_hasNext_6 {L : Nat} {xs : Nat → Int32} {d : Nat} {Q : xO → Prop} (x1 : Int32) (x2 : Int32) (x3 : Int32) (x4 : Int32) (I : xI) (J : xJ) {t : (Int32 × Int32 × Int32 × Int32 × xI × xJ) ⊕ ((Int32 × Int32 × (Option Value) × (Option Value) × xI × xJ) ⊕ (Int32 × xI × xJ))} (h : f_X12_hasNext_6 x1 x2 x3 x4 I J = some t) (hC : (c_X12_hasNext_3 L xs d Q) t) : Rn L xs (d + 1) 257 45 [some (.ref 61), some (.int x1), some (.int x2), some (.int x3), some (.int x4)] [] 94 (I, J, xrf) Q := by
  unfold f_X12_hasNext_6 at h
  refine Rn.go 2 (j' := 257) (pc' := 16) (ls' := [some (.ref 61), some (.int x1), some (.int x2), some (.int x3), some (.int ((x4 + 1)))]) (st' := []) (n' := 94) (M' := (I, J, xrf)) (fun f => rfl) ?_
  cases h; exact hC
theorem p_X12_hasNext_5 {L : Nat} {xs : Nat → Int32} {d : Nat} {Q : xO → Prop} (x1 : Int32) (x2 : Int32) (x3 : Int32) (x4 : Int32) (I : xI) (J : xJ) {t : (Int32 × Int32 × Int32 × Int32 × xI × xJ) ⊕ ((Int32 × Int32 × (Option Value) × (Option Value) × xI × xJ) ⊕ (Int32 × xI × xJ))} (h : f_X12_hasNext_5 x1 x2 x3 x4 I J = some t) (hC : (c_X12_hasNext_3 L xs d Q) t) : Rn L xs (d + 1) 257 35 [some (.ref 61), some (.int x1), some (.int x2), some (.int x3), some (.int x4)] [] 94 (I, J, xrf) Q := by
  unfold f_X12_hasNext_5 at h
  obtain ⟨hc, h⟩ := xif h
  refine Rn.ok 6 (c := (x1 + x4) < 0 ∨ 1218 ≤ ((x1 + x4)).toNatClampNeg) (p1 := 44) (l1 := [some (.ref 61), some (.int x1), some (.int x2), some (.int x3), some (.int x4)]) (s1 := [.int ((I 85 ((x1 + x4)).toNatClampNeg))]) (n1 := 94) (M1 := (I, J, xrf)) (fun f => rfl) hc ?_
  refine Rn.go 1 (j' := 257) (pc' := 45) (ls' := [some (.ref 61), some (.int x1), some (.int x2), some (.int ((I 85 ((x1 + x4)).toNatClampNeg))), some (.int x4)]) (st' := []) (n' := 94) (M' := (I, J, xrf)) (fun f => rfl) ?_
  exact p_X12_hasNext_6 x1 x2 ((I 85 ((x1 + x4)).toNatClampNeg)) x4 I J h hC
theorem p_X12_hasNext_4 {L : Nat} {xs : Nat → Int32} {d : Nat} {Q : xO → Prop} (x1 : Int32) (x2 : Int32) (x3 : Int32) (x4 : Int32) (I : xI) (J : xJ) {t : (Int32 × Int32 × Int32 × Int32 × xI × xJ) ⊕ ((Int32 × Int32 × (Option Value) × (Option Value) × xI × xJ) ⊕ (Int32 × xI × xJ))} (h : f_X12_hasNext_4 x1 x2 x3 x4 I J = some t) (hC : (c_X12_hasNext_3 L xs d Q) t) : Rn L xs (d + 1) 257 22 [some (.ref 61), some (.int x1), some (.int x2), some (.int x3), some (.int x4)] [] 94 (I, J, xrf) Q := by
  unfold f_X12_hasNext_4 at h
  obtain ⟨hc, h⟩ := xif h
  refine Rn.ok 6 (c := (x1 + x4) < 0 ∨ 1218 ≤ ((x1 + x4)).toNatClampNeg) (p1 := 31) (l1 := [some (.ref 61), some (.int x1), some (.int x2), some (.int x3), some (.int x4)]) (s1 := [.int ((I 85 ((x1 + x4)).toNatClampNeg))]) (n1 := 94) (M1 := (I, J, xrf)) (fun f => rfl) hc ?_
  refine Rn.fi 2 (c := (I 85 ((x1 + x4)).toNatClampNeg) ≤ x3) (p1 := 45) (l1 := [some (.ref 61), some (.int x1), some (.int x2), some (.int x3), some (.int x4)]) (s1 := []) (n1 := 94) (M1 := (I, J, xrf)) (p2 := 35) (l2 := [some (.ref 61), some (.int x1), some (.int x2), some (.int x3), some (.int x4)]) (s2 := []) (n2 := 94) (M2 := (I, J, xrf)) (fun f => rfl) (fun hc => ?_) (fun hc => ?_)
  · rw [if_pos hc] at h
    exact p_X12_hasNext_6 x1 x2 x3 x4 I J h hC
  · rw [if_neg hc] at h
    exact p_X12_hasNext_5 x1 x2 x3 x4 I J h hC
theorem q_X12_hasNext_3 {L : Nat} {xs : Nat → Int32} {d : Nat} {Q : xO → Prop} (x1 : Int32) (x2 : Int32) (x3 : Int32) (x4 : Int32) (I : xI) (J : xJ) {t : (Int32 × Int32 × Int32 × Int32 × xI × xJ) ⊕ ((Int32 × Int32 × (Option Value) × (Option Value) × xI × xJ) ⊕ (Int32 × xI × xJ))} (h : b_X12_hasNext_3 x1 x2 x3 x4 I J = some t) (hC : (c_X12_hasNext_3 L xs d Q) t) : Rn L xs (d + 1) 257 16 [some (.ref 61), some (.int x1), some (.int x2), some (.int x3), some (.int x4)] [] 94 (I, J, xrf) Q := by
  unfold b_X12_hasNext_3 at h
  refine Rn.fi 3 (c := x2 ≤ x4) (p1 := 51) (l1 := [some (.ref 61), some (.int x1), some (.int x2), some (.int x3), some (.int x4)]) (s1 := []) (n1 := 94) (M1 := (I, J, xrf)) (p2 := 22) (l2 := [some (.ref 61), some (.int x1), some (.int x2), some (.int x3), some (.int x4)]) (s2 := []) (n2 := 94) (M2 := (I, J, xrf)) (fun f => rfl) (fun hc => ?_) (fun hc => ?_)
  · rw [if_pos hc] at h
    obtain ⟨t0, h0, rfl⟩ := Option.map_eq_some_iff.mp h
    exact p_X12_hasNext_7 x1 x2 x3 x4 I J h0 hC
  · rw [if_neg hc] at h
    exact p_X12_hasNext_4 x1 x2 x3 x4 I J h hC
theorem p_X12_hasNext_3 {L : Nat} {xs : Nat → Int32} {d : Nat} {Q : xO → Prop} (x1 : Int32) (x2 : Int32) (x3 : Int32) (x4 : Int32) (I : xI) (J : xJ) {t : (Int32 × Int32 × (Option Value) × (Option Value) × xI × xJ) ⊕ (Int32 × xI × xJ)} (h : f_X12_hasNext_3 x1 x2 x3 x4 I J = some t) (hC : (c_X12_hasNext_1 L xs d Q) t) : Rn L xs (d + 1) 257 16 [some (.ref 61), some (.int x1), some (.int x2), some (.int x3), some (.int x4)] [] 94 (I, J, xrf) Q := by
  unfold f_X12_hasNext_3 at h
  exact xloop_some (P := fun s : Int32 × Int32 × Int32 × Int32 × xI × xJ => Rn L xs (d + 1) 257 16 [some (.ref 61), some (.int s.1), some (.int s.2.1), some (.int s.2.2.1), some (.int s.2.2.2.1)] [] 94 (s.2.2.2.2.1, s.2.2.2.2.2, xrf) Q) t (fun s ⟨s', hb, hp⟩ => q_X12_hasNext_3 s.1 s.2.1 s.2.2.1 s.2.2.2.1 s.2.2.2.2.1 s.2.2.2.2.2 hb hp) (fun s hb => q_X12_hasNext_3 s.1 s.2.1 s.2.2.1 s.2.2.2.1 s.2.2.2.2.1 s.2.2.2.2.2 hb hC) _ _ h
theorem p_X12_hasNext_2 {L : Nat} {xs : Nat → Int32} {d : Nat} {Q : xO → Prop} (x1 : Int32) (x2 : Int32) (z3 : Option Value) (z4 : Option Value) (I : xI) (J : xJ) {t : (Int32 × Int32 × (Option Value) × (Option Value) × xI × xJ) ⊕ (Int32 × xI × xJ)} (h : f_X12_hasNext_2 x1 x2 z3 z4 I J = some t) (hC : (c_X12_hasNext_1 L xs d Q) t) : Rn L xs (d + 1) 257 11 [some (.ref 61), some (.int x1), some (.int x2), z3, z4] [] 94 (I, J, xrf) Q := by
  unfold f_X12_hasNext_2 at h
  refine Rn.go 4 (j' := 257) (pc' := 16) (ls' := [some (.ref 61), some (.int x1), some (.int x2), some (.int 0), some (.int 0)]) (st' := []) (n' := 94) (M' := (I, J, xrf)) (fun f => rfl) ?_
  exact p_X12_hasNext_3 x1 x2 0 0 I J h hC
theorem q_X12_hasNext_1 {L : Nat} {xs : Nat → Int32} {d : Nat} {Q : xO → Prop} (x1 : Int32) (x2 : Int32) (z3 : Option Value) (z4 : Option Value) (I : xI) (J : xJ) {t : (Int32 × Int32 × (Option Value) × (Option Value) × xI × xJ) ⊕ (Int32 × xI × xJ)} (h : b_X12_hasNext_1 x1 x2 z3 z4 I J = some t) (hC : (c_X12_hasNext_1 L xs d Q) t) : Rn L xs (d + 1) 257 7 [some (.ref 61), some (.int x1), some (.int x2), z3, z4] [] 94 (I, J, xrf) Q := by
  unfold b_X12_hasNext_1 at h
  refine Rn.fi 2 (c := x2 ≤ 0) (p1 := 140) (l1 := [some (.ref 61), some (.int x1), some (.int x2), z3, z4]) (s1 := []) (n1 := 94) (M1 := (I, J, xrf)) (p2 := 11) (l2 := [some (.ref 61), some (.int x1), some (.int x2), z3, z4]) (s2 := []) (n2 := 94) (M2 := (I, J, xrf)) (fun f => rfl) (fun hc => ?_) (fun hc => ?_)
  · rw [if_pos hc] at h
    obtain ⟨t0, h0, rfl⟩ := Option.map_eq_some_iff.mp h
    exact p_X12_hasNext_19 x1 x2 z3 z4 I J h0 hC
  · rw [if_neg hc] at h
    exact p_X12_hasNext_2 x1 x2 z3 z4 I J h hC
theorem p_X12_hasNext_1 {L : Nat} {xs : Nat → Int32} {d : Nat} {Q : xO → Prop} (x1 : Int32) (x2 : Int32) (z3 : Option Value) (z4 : Option Value) (I : xI) (J : xJ) {t : Int32 × xI × xJ} (h : f_X12_hasNext_1 x1 x2 z3 z4 I J = some t) (hC : (c_X12_hasNext Q) t) : Rn L xs (d + 1) 257 7 [some (.ref 61), some (.int x1), some (.int x2), z3, z4] [] 94 (I, J, xrf) Q := by
  unfold f_X12_hasNext_1 at h
  exact xloop_some (P := fun s : Int32 × Int32 × (Option Value) × (Option Value) × xI × xJ => Rn L xs (d + 1) 257 7 [some (.ref 61), some (.int s.1), some (.int s.2.1), s.2.2.1, s.2.2.2.1] [] 94 (s.2.2.2.2.1, s.2.2.2.2.2, xrf) Q) t (fun s ⟨s', hb, hp⟩ => q_X12_hasNext_1 s.1 s.2.1 s.2.2.1 s.2.2.2.1 s.2.2.2.2.1 s.2.2.2.2.2 hb hp) (fun s hb => q_X12_hasNext_1 s.1 s.2.1 s.2.2.1 s.2.2.2.1 s.2.2.2.2.1 s.2.2.2.2.2 hb hC) _ _ h
theorem p_X12_hasNext_0 {L : Nat} {xs : Nat → Int32} {d : Nat} {Q : xO → Prop} (x1 : Int32) (I : xI) (J : xJ) {t : Int32 × xI × xJ} (h : f_X12_hasNext_0 x1 I J = some t) (hC : (c_X12_hasNext Q) t) : Rn L xs (d + 1) 257 0 [some (.ref 61), some (.int x1), none, none, none] [] 94 (I, J, xrf) Q := by
  unfold f_X12_hasNext_0 at h
  refine Rn.go 5 (j' := 257) (pc' := 7) (ls' := [some (.ref 61), some (.int x1), some (.int (((I 61 17) - 1))), none, none]) (st' := []) (n' := 94) (M' := (I, J, xrf)) (fun f => rfl) ?_
  exact p_X12_hasNext_1 x1 (((I 61 17) - 1)) none none I J h hC
theorem p_X12_hasNext {L : Nat} {xs : Nat → Int32} {d : Nat} {Q : xO → Prop} (x1 : Int32) (I : xI) (J : xJ) {t : Int32 × xI × xJ} (h : f_X12_hasNext x1 I J = some t) (hC : Q ((some (.int t.1)), 94, (t.2.1, t.2.2, xrf))) : Rn L xs (d + 1) 257 0 [some (.ref 61), some (.int x1), none, none, none] [] 94 (I, J, xrf) Q := p_X12_hasNext_0 x1 I J h hC
/-! X12_listsPartitions -/
def c_X12_listsPartitions (Q : xO → Prop) (t : Unit × xI × xJ) : Prop := Q (none, 94, (t.2.1, t.2.2, xrf))
def c_X12_listsPartitions_6 (L : Nat) (xs : Nat → Int32) (d : Nat) (Q : xO → Prop) (t : (Int32 × (Option Value) × (Option Value) × (Option Value) × (Option Value) × xI × xJ) ⊕ (Unit × xI × xJ)) : Prop := match t with
  | .inl s => Rn L xs (d + 3) 256 36 [some (.ref 61), some (.int s.1), s.2.1, s.2.2.1, s.2.2.2.1, s.2.2.2.2.1] [] 94 (s.2.2.2.2.2.1, s.2.2.2.2.2.2, xrf) Q
  | .inr t => (c_X12_listsPartitions Q) t
def c_X12_listsPartitions_8 (L : Nat) (xs : Nat → Int32) (d : Nat) (Q : xO → Prop) (t : (Int32 × Int32 × Int32 × Int32 × Int32 × xI × xJ) ⊕ ((Int32 × (Option Value) × (Option Value) × (Option Value) × (Option Value) × xI × xJ) ⊕ (Unit × xI × xJ))) : Prop := match t with
  | .inl s => Rn L xs (d + 3) 256 56 [some (.ref 61), some (.int s.1), some (.int s.2.1), some (.int s.2.2.1), some (.int s.2.2.2.1), some (.int s.2.2.2.2.1)] [] 94 (s.2.2.2.2.2.1, s.2.2.2.2.2.2, xrf) Q
  | .inr t => (c_X12_listsPartitions_6 L xs d Q) t
def c_X12_listsPartitions_3 (L : Nat) (xs : Nat → Int32) (d : Nat) (Q : xO → Prop) (t : (Int32 × xI × xJ) ⊕ (Unit × xI × xJ)) : Prop := match t with
  | .inl s => Rn L xs (d + 3) 256 15 [some (.ref 61), some (.int s.1), none, none, none, none] [] 94 (s.2.1, s.2.2, xrf) Q
  | .inr t => (c_X12_listsPartitions Q) t
def f_X12_listsPartitions_15 (x1 : Int32) (z2 : Option Value) (z3 : Option Value) (z4 : Option Value) (z5 : Option Value) (I : xI) (J : xJ) : Option (Unit × xI × xJ) := some ((), I, J)
def f_X12_listsPartitions_14 (x1 : Int32) (x2 : Int32) (x3 : Int32) (x4 : Int32) (x5 : Int32) (s0 : Int32) (I : xI) (J : xJ) : Option ((Int32 × (Option Value) × (Option Value) × (Option Value) × (Option Value) × xI × xJ) ⊕ (Unit × xI × xJ)) := some (.inl (s0, (some (.int x2)), (some (.int x3)), (some (.int x4)), (some (.int x5)), I, J))
def f_X12_listsPartitions_13 (x1 : Int32) (x2 : Int32) (x3 : Int32) (x4 : Int32) (x5 : Int32) (s1 : Int32) (s2 : Int32) (I : xI) (J : xJ) : Option ((Int32 × (Option Value) × (Option Value) × (Option Value) × (Option Value) × xI × xJ) ⊕ (Unit × xI × xJ)) := if s1 < 0 ∨ 203 ≤ s1.toNatClampNeg then none else (f_X12_hasNext x2 ((xup ((xup I 84 s1.toNatClampNeg ((vp_nar .boolean s2)))) 61 40 (((((xup I 84 s1.toNatClampNeg ((vp_nar .boolean s2)))) 61 40) + 1)))) J).bind fun o => f_X12_listsPartitions_14 x1 x2 x3 x4 x5 o.1 o.2.1 o.2.2
def f_X12_listsPartitions_12 (x1 : Int32) (x2 : Int32) (x3 : Int32) (x4 : Int32) (x5 : Int32) (I : xI) (J : xJ) : Option ((Int32 × (Option Value) × (Option Value) × (Option Value) × (Option Value) × xI × xJ) ⊕ (Unit × xI × xJ)) := if (I 61 40) < 0 ∨ 203 ≤ ((I 61 40)).toNatClampNeg then none else if (((xup I 82 ((I 61 40)).toNatClampNeg x3)) 61 40) < 0 ∨ 203 ≤ ((((xup I 82 ((I 61 40)).toNatClampNeg x3)) 61 40)).toNatClampNeg then none else (f_X12_doesGo ((((xup ((xup I 82 ((I 61 40)).toNatClampNeg x3)) 83 ((((xup I 82 ((I 61 40)).toNatClampNeg x3)) 61 40)).toNatClampNeg x4)) 61 40)) ((((xup ((xup I 82 ((I 61 40)).toNatClampNeg x3)) 83 ((((xup I 82 ((I 61 40)).toNatClampNeg x3)) 61 40)).toNatClampNeg x4)) 61 40)) ((xup ((xup I 82 ((I 61 40)).toNatClampNeg x3)) 83 ((((xup I 82 ((I 61 40)).toNatClampNeg x3)) 61 40)).toNatClampNeg x4)) J).bind fun o => f_X12_listsPartitions_13 x1 x2 x3 x4 x5 ((((xup ((xup I 82 ((I 61 40)).toNatClampNeg x3)) 83 ((((xup I 82 ((I 61 40)).toNatClampNeg x3)) 61 40)).toNatClampNeg x4)) 61 40)) o.1 o.2.1 o.2.2
def f_X12_listsPartitions_11 (x1 : Int32) (x2 : Int32) (x3 : Int32) (x4 : Int32) (x5 : Int32) (I : xI) (J : xJ) : Option ((Int32 × Int32 × Int32 × Int32 × Int32 × xI × xJ) ⊕ ((Int32 × (Option Value) × (Option Value) × (Option Value) × (Option Value) × xI × xJ) ⊕ (Unit × xI × xJ))) := some (.inl (x1, x2, x3, x4, ((x5 + 1)), I, J))
def f_X12_listsPartitions_10 (x1 : Int32) (x2 : Int32) (x3 : Int32) (x4 : Int32) (x5 : Int32) (I : xI) (J : xJ) : Option ((Int32 × Int32 × Int32 × Int32 × Int32 × xI × xJ) ⊕ ((Int32 × (Option Value) × (Option Value) × (Option Value) × (Option Value) × xI × xJ) ⊕ (Unit × xI × xJ))) := if (x2 + x5) < 0 ∨ 1218 ≤ ((x2 + x5)).toNatClampNeg then none else f_X12_listsPartitions_11 x1 x2 x3 (((I 85 ((x2 + x5)).toNatClampNeg) + 1)) x5 I J
def f_X12_listsPartitions_9 (x1 : Int32) (x2 : Int32) (x3 : Int32) (x4 : Int32) (x5 : Int32) (I : xI) (J : xJ) : Option ((Int32 × Int32 × Int32 × Int32 × Int32 × xI × xJ) ⊕ ((Int32 × (Option Value) × (Option Value) × (Option Value) × (Option Value) × xI × xJ) ⊕ (Unit × xI × xJ))) := if (x2 + x5) < 0 ∨ 1218 ≤ ((x2 + x5)).toNatClampNeg then none else if (x2 + x5) < 0 ∨ 1218 ≤ ((x2 + x5)).toNatClampNeg then none else if (I 85 ((x2 + x5)).toNatClampNeg) < x4 then f_X12_listsPartitions_11 x1 x2 (((10 * x3) + (I 85 ((x2 + x5)).toNatClampNeg))) x4 x5 I J else f_X12_listsPartitions_10 x1 x2 (((10 * x3) + (I 85 ((x2 + x5)).toNatClampNeg))) x4 x5 I J
def b_X12_listsPartitions_8 (x1 : Int32) (x2 : Int32) (x3 : Int32) (x4 : Int32) (x5 : Int32) (I : xI) (J : xJ) : Option ((Int32 × Int32 × Int32 × Int32 × Int32 × xI × xJ) ⊕ ((Int32 × (Option Value) × (Option Value) × (Option Value) × (Option Value) × xI × xJ) ⊕ (Unit × xI × xJ))) := if (I 61 17) ≤ x5 then ((f_X12_listsPartitions_12 x1 x2 x3 x4 x5 I J)).map .inr else f_X12_listsPartitions_9 x1 x2 x3 x4 x5 I J
def f_X12_listsPartitions_8 (x1 : Int32) (x2 : Int32) (x3 : Int32) (x4 : Int32) (x5 : Int32) (I : xI) (J : xJ) : Option ((Int32 × (Option Value) × (Option Value) × (Option Value) × (Option Value) × xI × xJ) ⊕ (Unit × xI × xJ)) := xloop (fun s : Int32 × Int32 × Int32 × Int32 × Int32 × xI × xJ => b_X12_listsPartitions_8 s.1 s.2.1 s.2.2.1 s.2.2.2.1 s.2.2.2.2.1 s.2.2.2.2.2.1 s.2.2.2.2.2.2) 5000 (x1, x2, x3, x4, x5, I, J)
def f_X12_listsPartitions_7 (x1 : Int32) (z2 : Option Value) (z3 : Option Value) (z4 : Option Value) (z5 : Option Value) (I : xI) (J : xJ) : Option ((Int32 × (Option Value) × (Option Value) × (Option Value) × (Option Value) × xI × xJ) ⊕ (Unit × xI × xJ)) := f_X12_listsPartitions_8 x1 ((6 * (I 61 40))) 0 0 0 I J
def b_X12_listsPartitions_6 (x1 : Int32) (z2 : Option Value) (z3 : Option Value) (z4 : Option Value) (z5 : Option Value) (I : xI) (J : xJ) : Option ((Int32 × (Option Value) × (Option Value) × (Option Value) × (Option Value) × xI × xJ) ⊕ (Unit × xI × xJ)) := if x1 = 0 then ((f_X12_listsPartitions_15 x1 z2 z3 z4 z5 I J)).map .inr else f_X12_listsPartitions_7 x1 z2 z3 z4 z5 I J
def f_X12_listsPartitions_6 (x1 : Int32) (z2 : Option Value) (z3 : Option Value) (z4 : Option Value) (z5 : Option Value) (I : xI) (J : xJ) : Option (Unit × xI × xJ) := xloop (fun s : Int32 × (Option Value) × (Option Value) × (Option Value) × (Option Value) × xI × xJ => b_X12_listsPartitions_6 s.1 s.2.1 s.2.2.1 s.2.2.2.1 s.2.2.2.2.1 s.2.2.2.2.2.1 s.2.2.2.2.2.2) 5000 (x1, z2, z3, z4, z5, I, J)
def f_X12_listsPartitions_5 (x1 : Int32) (I : xI) (J : xJ) : Option (Unit × xI × xJ) := f_X12_listsPartitions_6 1 none none none none I J
def f_X12_listsPartitions_4 (x1 : Int32) (I : xI) (J : xJ) : Option ((Int32 × xI × xJ) ⊕ (Unit × xI × xJ)) := if x1 < 0 ∨ 1218 ≤ x1.toNatClampNeg then none else some (.inl (((x1 + 1)), ((xup I 85 x1.toNatClampNeg 0)), J))
def b_X12_listsPartitions_3 (x1 : Int32) (I : xI) (J : xJ) : Option ((Int32 × xI × xJ) ⊕ (Unit × xI × xJ)) := if 6 ≤ x1 then ((f_X12_listsPartitions_5 x1 I J)).map .inr else f_X12_listsPartitions_4 x1 I J
def f_X12_listsPartitions_3 (x1 : Int32) (I : xI) (J : xJ) : Option (Unit × xI × xJ) := xloop (fun s : Int32 × xI × xJ => b_X12_listsPartitions_3 s.1 s.2.1 s.2.2) 5000 (x1, I, J)
def f_X12_listsPartitions_2 (I : xI) (J : xJ) : Option (Unit × xI × xJ) := f_X12_listsPartitions_3 0 I J
def f_X12_listsPartitions_1 (I : xI) (J : xJ) : Option (Unit × xI × xJ) := some ((), I, J)
def f_X12_listsPartitions_0 (I : xI) (J : xJ) : Option (Unit × xI × xJ) := if (((xup I 61 40 0)) 61 17) = 0 then f_X12_listsPartitions_1 ((xup I 61 40 0)) J else f_X12_listsPartitions_2 ((xup I 61 40 0)) J
def f_X12_listsPartitions (I : xI) (J : xJ) : Option (Unit × xI × xJ) := f_X12_listsPartitions_0 I J
theorem p_X12_listsPartitions_15 {L : Nat} {xs : Nat → Int32} {d : Nat} {Q : xO → Prop} (x1 : Int32) (z2 : Option Value) (z3 : Option Value) (z4 : Option Value) (z5 : Option Value) (I : xI) (J : xJ) {t : Unit × xI × xJ} (h : f_X12_listsPartitions_15 x1 z2 z3 z4 z5 I J = some t) (hC : (c_X12_listsPartitions Q) t) : Rn L xs (d + 3) 256 174 [some (.ref 61), some (.int x1), z2, z3, z4, z5] [] 94 (I, J, xrf) Q := by
  unfold f_X12_listsPartitions_15 at h
  cases h
  exact Rn.ret 1 (o := (none, 94, (I, J, xrf))) (fun f => rfl) hC
theorem p_X12_listsPartitions_14 {L : Nat} {xs : Nat → Int32} {d : Nat} {Q : xO → Prop} (x1 : Int32) (x2 : Int32) (x3 : Int32) (x4 : Int32) (x5 : Int32) (s0 : Int32) (I : xI) (J : xJ) {t : (Int32 × (Option Value) × (Option Value) × (Option Value) × (Option Value) × xI × xJ) ⊕ (Unit × xI × xJ)} (h : f_X12_listsPartitions_14 x1 x2 x3 x4 x5 s0 I J = some t) (hC : (c_X12_listsPartitions_6 L xs d Q) t) : Rn L xs (d + 3) 256 170 [some (.ref 61), some (.int x1), some (.int x2), some (.int x3), some (.int x4), some (.int x5)] [.int s0] 94 (I, J, xrf) Q := by
  unfold f_X12_listsPartitions_14 at h
  refine Rn.go 2 (j' := 256) (pc' := 36) (ls' := [some (.ref 61), some (.int s0), some (.int x2), some (.int x3), some (.int x4), some (.int x5)]) (st' := []) (n' := 94) (M' := (I, J, xrf)) (fun f => rfl) ?_
  cases h; exact hC
theorem p_X12_listsPartitions_13 {L : Nat} {xs : Nat → Int32} {d : Nat} {Q : xO → Prop} (x1 : Int32) (x2 : Int32) (x3 : Int32) (x4 : Int32) (x5 : Int32) (s1 : Int32) (s2 : Int32) (I : xI) (J : xJ) {t : (Int32 × (Option Value) × (Option Value) × (Option Value) × (Option Value) × xI × xJ) ⊕ (Unit × xI × xJ)} (h : f_X12_listsPartitions_13 x1 x2 x3 x4 x5 s1 s2 I J = some t) (hC : (c_X12_listsPartitions_6 L xs d Q) t) : Rn L xs (d + 3) 256 154 [some (.ref 61), some (.int x1), some (.int x2), some (.int x3), some (.int x4), some (.int x5)] [.int s2, .int s1, .ref 84] 94 (I, J, xrf) Q := by
  unfold f_X12_listsPartitions_13 at h
  obtain ⟨hc, h⟩ := xif h
  refine Rn.ok 1 (c := s1 < 0 ∨ 203 ≤ s1.toNatClampNeg) (p1 := 155) (l1 := [some (.ref 61), some (.int x1), some (.int x2), some (.int x3), some (.int x4), some (.int x5)]) (s1 := []) (n1 := 94) (M1 := ((xup I 84 s1.toNatClampNeg ((vp_nar .boolean s2))), J, xrf)) (fun f => rfl) hc ?_
  refine Rn.go 8 (j' := 256) (pc' := 167) (ls' := [some (.ref 61), some (.int x1), some (.int x2), some (.int x3), some (.int x4), some (.int x5)]) (st' := [.int x2, .ref 61]) (n' := 94) (M' := ((xup ((xup I 84 s1.toNatClampNeg ((vp_nar .boolean s2)))) 61 40 (((((xup I 84 s1.toNatClampNeg ((vp_nar .boolean s2)))) 61 40) + 1))), J, xrf)) (fun f => rfl) ?_
  obtain ⟨o, ho, h⟩ := Option.bind_eq_some_iff.mp h
  refine Rn.call (d1 := d + 2) (j1 := 257) (ls1 := [some (.ref 61), some (.int x2), none, none, none]) (rest := []) (fun f => rfl) ?_
  refine p_X12_hasNext (d := d + 1) x2 ((xup ((xup I 84 s1.toNatClampNeg ((vp_nar .boolean s2)))) 61 40 (((((xup I 84 s1.toNatClampNeg ((vp_nar .boolean s2)))) 61 40) + 1)))) J (t := o) ho ?_
  exact p_X12_listsPartitions_14 x1 x2 x3 x4 x5 o.1 o.2.1 o.2.2 h hC
theorem p_X12_listsPartitions_12 {L : Nat} {xs : Nat → Int32} {d : Nat} {Q : xO → Prop} (x1 : Int32) (x2 : Int32) (x3 : Int32) (x4 : Int32) (x5 : Int32) (I : xI) (J : xJ) {t : (Int32 × (Option Value) × (Option Value) × (Option Value) × (Option Value) × xI × xJ) ⊕ (Unit × xI × xJ)} (h : f_X12_listsPartitions_12 x1 x2 x3 x4 x5 I J = some t) (hC : (c_X12_listsPartitions_6 L xs d Q) t) : Rn L xs (d + 3) 256 113 [some (.ref 61), some (.int x1), some (.int x2), some (.int x3), some (.int x4), some (.int x5)] [] 94 (I, J, xrf) Q := by
  unfold f_X12_listsPartitions_12 at h
  obtain ⟨hc, h⟩ := xif h
  refine Rn.ok 6 (c := (I 61 40) < 0 ∨ 203 ≤ ((I 61 40)).toNatClampNeg) (p1 := 123) (l1 := [some (.ref 61), some (.int x1), some (.int x2), some (.int x3), some (.int x4), some (.int x5)]) (s1 := []) (n1 := 94) (M1 := ((xup I 82 ((I 61 40)).toNatClampNeg x3), J, xrf)) (fun f => rfl) hc ?_
  obtain ⟨hc, h⟩ := xif h
  refine Rn.ok 6 (c := (((xup I 82 ((I 61 40)).toNatClampNeg x3)) 61 40) < 0 ∨ 203 ≤ ((((xup I 82 ((I 61 40)).toNatClampNeg x3)) 61 40)).toNatClampNeg) (p1 := 134) (l1 := [some (.ref 61), some (.int x1), some (.int x2), some (.int x3), some (.int x4), some (.int x5)]) (s1 := []) (n1 := 94) (M1 := ((xup ((xup I 82 ((I 61 40)).toNatClampNeg x3)) 83 ((((xup I 82 ((I 61 40)).toNatClampNeg x3)) 61 40)).toNatClampNeg x4), J, xrf)) (fun f => rfl) hc ?_
  refine Rn.go 9 (j' := 256) (pc' := 151) (ls' := [some (.ref 61), some (.int x1), some (.int x2), some (.int x3), some (.int x4), some (.int x5)]) (st' := [.int ((((xup ((xup I 82 ((I 61 40)).toNatClampNeg x3)) 83 ((((xup I 82 ((I 61 40)).toNatClampNeg x3)) 61 40)).toNatClampNeg x4)) 61 40)), .int ((((xup ((xup I 82 ((I 61 40)).toNatClampNeg x3)) 83 ((((xup I 82 ((I 61 40)).toNatClampNeg x3)) 61 40)).toNatClampNeg x4)) 61 40)), .ref 61, .int ((((xup ((xup I 82 ((I 61 40)).toNatClampNeg x3)) 83 ((((xup I 82 ((I 61 40)).toNatClampNeg x3)) 61 40)).toNatClampNeg x4)) 61 40)), .ref 84]) (n' := 94) (M' := ((xup ((xup I 82 ((I 61 40)).toNatClampNeg x3)) 83 ((((xup I 82 ((I 61 40)).toNatClampNeg x3)) 61 40)).toNatClampNeg x4), J, xrf)) (fun f => rfl) ?_
  obtain ⟨o, ho, h⟩ := Option.bind_eq_some_iff.mp h
  refine Rn.call (d1 := d + 2) (j1 := 258) (ls1 := [some (.ref 61), some (.int ((((xup ((xup I 82 ((I 61 40)).toNatClampNeg x3)) 83 ((((xup I 82 ((I 61 40)).toNatClampNeg x3)) 61 40)).toNatClampNeg x4)) 61 40))), some (.int ((((xup ((xup I 82 ((I 61 40)).toNatClampNeg x3)) 83 ((((xup I 82 ((I 61 40)).toNatClampNeg x3)) 61 40)).toNatClampNeg x4)) 61 40))), none, none, none]) (rest := [.int ((((xup ((xup I 82 ((I 61 40)).toNatClampNeg x3)) 83 ((((xup I 82 ((I 61 40)).toNatClampNeg x3)) 61 40)).toNatClampNeg x4)) 61 40)), .ref 84]) (fun f => rfl) ?_
  refine p_X12_doesGo (d := d + 0) ((((xup ((xup I 82 ((I 61 40)).toNatClampNeg x3)) 83 ((((xup I 82 ((I 61 40)).toNatClampNeg x3)) 61 40)).toNatClampNeg x4)) 61 40)) ((((xup ((xup I 82 ((I 61 40)).toNatClampNeg x3)) 83 ((((xup I 82 ((I 61 40)).toNatClampNeg x3)) 61 40)).toNatClampNeg x4)) 61 40)) ((xup ((xup I 82 ((I 61 40)).toNatClampNeg x3)) 83 ((((xup I 82 ((I 61 40)).toNatClampNeg x3)) 61 40)).toNatClampNeg x4)) J (t := o) ho ?_
  exact p_X12_listsPartitions_13 x1 x2 x3 x4 x5 ((((xup ((xup I 82 ((I 61 40)).toNatClampNeg x3)) 83 ((((xup I 82 ((I 61 40)).toNatClampNeg x3)) 61 40)).toNatClampNeg x4)) 61 40)) o.1 o.2.1 o.2.2 h hC
theorem p_X12_listsPartitions_11 {L : Nat} {xs : Nat → Int32} {d : Nat} {Q : xO → Prop} (x1 : Int32) (x2 : Int32) (x3 : Int32) (x4 : Int32) (x5 : Int32) (I : xI) (J : xJ) {t : (Int32 × Int32 × Int32 × Int32 × Int32 × xI × xJ) ⊕ ((Int32 × (Option Value) × (Option Value) × (Option Value) × (Option Value) × xI × xJ) ⊕ (Unit × xI × xJ))} (h : f_X12_listsPartitions_11 x1 x2 x3 x4 x5 I J = some t) (hC : (c_X12_listsPartitions_8 L xs d Q) t) : Rn L xs (d + 3) 256 107 [some (.ref 61), some (.int x1), some (.int x2), some (.int x3), some (.int x4), some (.int x5)] [] 94 (I, J, xrf) Q := by
  unfold f_X12_listsPartitions_11 at h
  refine Rn.go 2 (j' := 256) (pc' := 56) (ls' := [some (.ref 61), some (.int x1), some (.int x2), some (.int x3), some (.int x4), some (.int ((x5 + 1)))]) (st' := []) (n' := 94) (M' := (I, J, xrf)) (fun f => rfl) ?_
  cases h; exact hC
theorem p_X12_listsPartitions_10 {L : Nat} {xs : Nat → Int32} {d : Nat} {Q : xO → Prop} (x1 : Int32) (x2 : Int32) (x3 : Int32) (x4 : Int32) (x5 : Int32) (I : xI) (J : xJ) {t : (Int32 × Int32 × Int32 × Int32 × Int32 × xI × xJ) ⊕ ((Int32 × (Option Value) × (Option Value) × (Option Value) × (Option Value) × xI × xJ) ⊕ (Unit × xI × xJ))} (h : f_X12_listsPartitions_10 x1 x2 x3 x4 x5 I J = some t) (hC : (c_X12_listsPartitions_8 L xs d Q) t) : Rn L xs (d + 3) 256 94 [some (.ref 61), some (.int x1), some (.int x2), some (.int x3), some (.int x4), some (.int x5)] [] 94 (I, J, xrf) Q := by
  unfold f_X12_listsPartitions_10 at h
  obtain ⟨hc, h⟩ := xif h
  refine Rn.ok 6 (c := (x2 + x5) < 0 ∨ 1218 ≤ ((x2 + x5)).toNatClampNeg) (p1 := 103) (l1 := [some (.ref 61), some (.int x1), some (.int x2), some (.int x3), some (.int x4), some (.int x5)]) (s1 := [.int ((I 85 ((x2 + x5)).toNatClampNeg))]) (n1 := 94) (M1 := (I, J, xrf)) (fun f => rfl) hc ?_
  refine Rn.go 3 (j' := 256) (pc' := 107) (ls' := [some (.ref 61), some (.int x1), some (.int x2), some (.int x3), some (.int (((I 85 ((x2 + x5)).toNatClampNeg) + 1))), some (.int x5)]) (st' := []) (n' := 94) (M' := (I, J, xrf)) (fun f => rfl) ?_
  exact p_X12_listsPartitions_11 x1 x2 x3 (((I 85 ((x2 + x5)).toNatClampNeg) + 1)) x5 I J h hC
theorem p_X12_listsPartitions_9 {L : Nat} {xs : Nat → Int32} {d : Nat} {Q : xO → Prop} (x1 : Int32) (x2 : Int32) (x3 : Int32) (x4 : Int32) (x5 : Int32) (I : xI) (J : xJ) {t : (Int32 × Int32 × Int32 × Int32 × Int32 × xI × xJ) ⊕ ((Int32 × (Option Value) × (Option Value) × (Option Value) × (Option Value) × xI × xJ) ⊕ (Unit × xI × xJ))} (h : f_X12_listsPartitions_9 x1 x2 x3 x4 x5 I J = some t) (hC : (c_X12_listsPartitions_8 L xs d Q) t) : Rn L xs (d + 3) 256 65 [some (.ref 61), some (.int x1), some (.int x2), some (.int x3), some (.int x4), some (.int x5)] [] 94 (I, J, xrf) Q := by
  unfold f_X12_listsPartitions_9 at h
  obtain ⟨hc, h⟩ := xif h
  refine Rn.ok 9 (c := (x2 + x5) < 0 ∨ 1218 ≤ ((x2 + x5)).toNatClampNeg) (p1 := 78) (l1 := [some (.ref 61), some (.int x1), some (.int x2), some (.int x3), some (.int x4), some (.int x5)]) (s1 := [.int ((I 85 ((x2 + x5)).toNatClampNeg)), .int ((10 * x3))]) (n1 := 94) (M1 := (I, J, xrf)) (fun f => rfl) hc ?_
  obtain ⟨hc, h⟩ := xif h
  refine Rn.ok 8 (c := (x2 + x5) < 0 ∨ 1218 ≤ ((x2 + x5)).toNatClampNeg) (p1 := 89) (l1 := [some (.ref 61), some (.int x1), some (.int x2), some (.int (((10 * x3) + (I 85 ((x2 + x5)).toNatClampNeg)))), some (.int x4), some (.int x5)]) (s1 := [.int ((I 85 ((x2 + x5)).toNatClampNeg))]) (n1 := 94) (M1 := (I, J, xrf)) (fun f => rfl) hc ?_
  refine Rn.fi 2 (c := (I 85 ((x2 + x5)).toNatClampNeg) < x4) (p1 := 107) (l1 := [some (.ref 61), some (.int x1), some (.int x2), some (.int (((10 * x3) + (I 85 ((x2 + x5)).toNatClampNeg)))), some (.int x4), some (.int x5)]) (s1 := []) (n1 := 94) (M1 := (I, J, xrf)) (p2 := 94) (l2 := [some (.ref 61), some (.int x1), some (.int x2), some (.int (((10 * x3) + (I 85 ((x2 + x5)).toNatClampNeg)))), some (.int x4), some (.int x5)]) (s2 := []) (n2 := 94) (M2 := (I, J, xrf)) (fun f => rfl) (fun hc => ?_) (fun hc => ?_)
  · rw [if_pos hc] at h
    exact p_X12_listsPartitions_11 x1 x2 (((10 * x3) + (I 85 ((x2 + x5)).toNatClampNeg))) x4 x5 I J h hC
  · rw [if_neg hc] at h
    exact p_X12_listsPartitions_10 x1 x2 (((10 * x3) + (I 85 ((x2 + x5)).toNatClampNeg))) x4 x5 I J h hC
theorem q_X12_listsPartitions_8 {L : Nat} {xs : Nat → Int32} {d : Nat} {Q : xO → Prop} (x1 : Int32) (x2 : Int32) (x3 : Int32) (x4 : Int32) (x5 : Int32) (I : xI) (J : xJ) {t : (Int32 × Int32 × Int32 × Int32 × Int32 × xI × xJ) ⊕ ((Int32 × (Option Value) × (Option Value) × (Option Value) × (Option Value) × xI × xJ) ⊕ (Unit × xI × xJ))} (h : b_X12_listsPartitions_8 x1 x2 x3 x4 x5 I J = some t) (hC : (c_X12_listsPartitions_8 L xs d Q) t) : Rn L xs (d + 3) 256 56 [some (.ref 61), some (.int x1), some (.int x2), some (.int x3), some (.int x4), some (.int x5)] [] 94 (I, J, xrf) Q := by
  unfold b_X12_listsPartitions_8 at h
  refine Rn.fi 4 (c := (I 61 17) ≤ x5) (p1 := 113) (l1 := [some (.ref 61), some (.int x1), some (.int x2), some (.int x3), some (.int x4), some (.int x5)]) (s1 := []) (n1 := 94) (M1 := (I, J, xrf)) (p2 := 65) (l2 := [some (.ref 61), some (.int x1), some (.int x2), some (.int x3), some (.int x4), some (.int x5)]) (s2 := []) (n2 := 94) (M2 := (I, J, xrf)) (fun f => rfl) (fun hc => ?_) (fun hc => ?_)
  · rw [if_pos hc] at h
    obtain ⟨t0, h0, rfl⟩ := Option.map_eq_some_iff.mp h
    exact p_X12_listsPartitions_12 x1 x2 x3 x4 x5 I J h0 hC
  · rw [if_neg hc] at h
    exact p_X12_listsPartitions_9 x1 x2 x3 x4 x5 I J h hC
theorem p_X12_listsPartitions_8 {L : Nat} {xs : Nat → Int32} {d : Nat} {Q : xO → Prop} (x1 : Int32) (x2 : Int32) (x3 : Int32) (x4 : Int32) (x5 : Int32) (I : xI) (J : xJ) {t : (Int32 × (Option Value) × (Option Value) × (Option Value) × (Option Value) × xI × xJ) ⊕ (Unit × xI × xJ)} (h : f_X12_listsPartitions_8 x1 x2 x3 x4 x5 I J = some t) (hC : (c_X12_listsPartitions_6 L xs d Q) t) : Rn L xs (d + 3) 256 56 [some (.ref 61), some (.int x1), some (.int x2), some (.int x3), some (.int x4), some (.int x5)] [] 94 (I, J, xrf) Q := by
  unfold f_X12_listsPartitions_8 at h
  exact xloop_some (P := fun s : Int32 × Int32 × Int32 × Int32 × Int32 × xI × xJ => Rn L xs (d + 3) 256 56 [some (.ref 61), some (.int s.1), some (.int s.2.1), some (.int s.2.2.1), some (.int s.2.2.2.1), some (.int s.2.2.2.2.1)] [] 94 (s.2.2.2.2.2.1, s.2.2.2.2.2.2, xrf) Q) t (fun s ⟨s', hb, hp⟩ => q_X12_listsPartitions_8 s.1 s.2.1 s.2.2.1 s.2.2.2.1 s.2.2.2.2.1 s.2.2.2.2.2.1 s.2.2.2.2.2.2 hb hp) (fun s hb => q_X12_listsPartitions_8 s.1 s.2.1 s.2.2.1 s.2.2.2.1 s.2.2.2.2.1 s.2.2.2.2.2.1 s.2.2.2.2.2.2 hb hC) _ _ h
theorem p_X12_listsPartitions_7 {L : Nat} {xs : Nat → Int32} {d : Nat} {Q : xO → Prop} (x1 : Int32) (z2 : Option Value) (z3 : Option Value) (z4 : Option Value) (z5 : Option Value) (I : xI) (J : xJ) {t : (Int32 × (Option Value) × (Option Value) × (Option Value) × (Option Value) × xI × xJ) ⊕ (Unit × xI × xJ)} (h : f_X12_listsPartitions_7 x1 z2 z3 z4 z5 I J = some t) (hC : (c_X12_listsPartitions_6 L xs d Q) t) : Rn L xs (d + 3) 256 40 [some (.ref 61), some (.int x1), z2, z3, z4, z5] [] 94 (I, J, xrf) Q := by
  unfold f_X12_listsPartitions_7 at h
  refine Rn.go 11 (j' := 256) (pc' := 56) (ls' := [some (.ref 61), some (.int x1), some (.int ((6 * (I 61 40)))), some (.int 0), some (.int 0), some (.int 0)]) (st' := []) (n' := 94) (M' := (I, J, xrf)) (fun f => rfl) ?_
  exact p_X12_listsPartitions_8 x1 ((6 * (I 61 40))) 0 0 0 I J h hC
theorem q_X12_listsPartitions_6 {L : Nat} {xs : Nat → Int32} {d : Nat} {Q : xO → Prop} (x1 : Int32) (z2 : Option Value) (z3 : Option Value) (z4 : Option Value) (z5 : Option Value) (I : xI) (J : xJ) {t : (Int32 × (Option Value) × (Option Value) × (Option Value) × (Option Value) × xI × xJ) ⊕ (Unit × xI × xJ)} (h : b_X12_listsPartitions_6 x1 z2 z3 z4 z5 I J = some t) (hC : (c_X12_listsPartitions_6 L xs d Q) t) : Rn L xs (d + 3) 256 36 [some (.ref 61), some (.int x1), z2, z3, z4, z5] [] 94 (I, J, xrf) Q := by
  unfold b_X12_listsPartitions_6 at h
  refine Rn.fi 2 (c := x1 = 0) (p1 := 174) (l1 := [some (.ref 61), some (.int x1), z2, z3, z4, z5]) (s1 := []) (n1 := 94) (M1 := (I, J, xrf)) (p2 := 40) (l2 := [some (.ref 61), some (.int x1), z2, z3, z4, z5]) (s2 := []) (n2 := 94) (M2 := (I, J, xrf)) (fun f => rfl) (fun hc => ?_) (fun hc => ?_)
  · rw [if_pos hc] at h
    obtain ⟨t0, h0, rfl⟩ := Option.map_eq_some_iff.mp h
    exact p_X12_listsPartitions_15 x1 z2 z3 z4 z5 I J h0 hC
  · rw [if_neg hc] at h
    exact p_X12_listsPartitions_7 x1 z2 z3 z4 z5 I J h hC
theorem p_X12_listsPartitions_6 {L : Nat} {xs : Nat → Int32} {d : Nat} {Q : xO → Prop} (x1 : Int32) (z2 : Option Value) (z3 : Option Value) (z4 : Option Value) (z5 : Option Value) (I : xI) (J : xJ) {t : Unit × xI × xJ} (h : f_X12_listsPartitions_6 x1 z2 z3 z4 z5 I J = some t) (hC : (c_X12_listsPartitions Q) t) : Rn L xs (d + 3) 256 36 [some (.ref 61), some (.int x1), z2, z3, z4, z5] [] 94 (I, J, xrf) Q := by
  unfold f_X12_listsPartitions_6 at h
  exact xloop_some (P := fun s : Int32 × (Option Value) × (Option Value) × (Option Value) × (Option Value) × xI × xJ => Rn L xs (d + 3) 256 36 [some (.ref 61), some (.int s.1), s.2.1, s.2.2.1, s.2.2.2.1, s.2.2.2.2.1] [] 94 (s.2.2.2.2.2.1, s.2.2.2.2.2.2, xrf) Q) t (fun s ⟨s', hb, hp⟩ => q_X12_listsPartitions_6 s.1 s.2.1 s.2.2.1 s.2.2.2.1 s.2.2.2.2.1 s.2.2.2.2.2.1 s.2.2.2.2.2.2 hb hp) (fun s hb => q_X12_listsPartitions_6 s.1 s.2.1 s.2.2.1 s.2.2.2.1 s.2.2.2.2.1 s.2.2.2.2.2.1 s.2.2.2.2.2.2 hb hC) _ _ h
theorem p_X12_listsPartitions_5 {L : Nat} {xs : Nat → Int32} {d : Nat} {Q : xO → Prop} (x1 : Int32) (I : xI) (J : xJ) {t : Unit × xI × xJ} (h : f_X12_listsPartitions_5 x1 I J = some t) (hC : (c_X12_listsPartitions Q) t) : Rn L xs (d + 3) 256 34 [some (.ref 61), some (.int x1), none, none, none, none] [] 94 (I, J, xrf) Q := by
  unfold f_X12_listsPartitions_5 at h
  refine Rn.go 2 (j' := 256) (pc' := 36) (ls' := [some (.ref 61), some (.int 1), none, none, none, none]) (st' := []) (n' := 94) (M' := (I, J, xrf)) (fun f => rfl) ?_
  exact p_X12_listsPartitions_6 1 none none none none I J h hC
theorem p_X12_listsPartitions_4 {L : Nat} {xs : Nat → Int32} {d : Nat} {Q : xO → Prop} (x1 : Int32) (I : xI) (J : xJ) {t : (Int32 × xI × xJ) ⊕ (Unit × xI × xJ)} (h : f_X12_listsPartitions_4 x1 I J = some t) (hC : (c_X12_listsPartitions_3 L xs d Q) t) : Rn L xs (d + 3) 256 21 [some (.ref 61), some (.int x1), none, none, none, none] [] 94 (I, J, xrf) Q := by
  unfold f_X12_listsPartitions_4 at h
  obtain ⟨hc, h⟩ := xif h
  refine Rn.ok 5 (c := x1 < 0 ∨ 1218 ≤ x1.toNatClampNeg) (p1 := 28) (l1 := [some (.ref 61), some (.int x1), none, none, none, none]) (s1 := []) (n1 := 94) (M1 := ((xup I 85 x1.toNatClampNeg 0), J, xrf)) (fun f => rfl) hc ?_
  refine Rn.go 2 (j' := 256) (pc' := 15) (ls' := [some (.ref 61), some (.int ((x1 + 1))), none, none, none, none]) (st' := []) (n' := 94) (M' := ((xup I 85 x1.toNatClampNeg 0), J, xrf)) (fun f => rfl) ?_
  cases h; exact hC
theorem q_X12_listsPartitions_3 {L : Nat} {xs : Nat → Int32} {d : Nat} {Q : xO → Prop} (x1 : Int32) (I : xI) (J : xJ) {t : (Int32 × xI × xJ) ⊕ (Unit × xI × xJ)} (h : b_X12_listsPartitions_3 x1 I J = some t) (hC : (c_X12_listsPartitions_3 L xs d Q) t) : Rn L xs (d + 3) 256 15 [some (.ref 61), some (.int x1), none, none, none, none] [] 94 (I, J, xrf) Q := by
  unfold b_X12_listsPartitions_3 at h
  refine Rn.fi 3 (c := 6 ≤ x1) (p1 := 34) (l1 := [some (.ref 61), some (.int x1), none, none, none, none]) (s1 := []) (n1 := 94) (M1 := (I, J, xrf)) (p2 := 21) (l2 := [some (.ref 61), some (.int x1), none, none, none, none]) (s2 := []) (n2 := 94) (M2 := (I, J, xrf)) (fun f => rfl) (fun hc => ?_) (fun hc => ?_)
  · rw [if_pos hc] at h
    obtain ⟨t0, h0, rfl⟩ := Option.map_eq_some_iff.mp h
    exact p_X12_listsPartitions_5 x1 I J h0 hC
  · rw [if_neg hc] at h
    exact p_X12_listsPartitions_4 x1 I J h hC
theorem p_X12_listsPartitions_3 {L : Nat} {xs : Nat → Int32} {d : Nat} {Q : xO → Prop} (x1 : Int32) (I : xI) (J : xJ) {t : Unit × xI × xJ} (h : f_X12_listsPartitions_3 x1 I J = some t) (hC : (c_X12_listsPartitions Q) t) : Rn L xs (d + 3) 256 15 [some (.ref 61), some (.int x1), none, none, none, none] [] 94 (I, J, xrf) Q := by
  unfold f_X12_listsPartitions_3 at h
  exact xloop_some (P := fun s : Int32 × xI × xJ => Rn L xs (d + 3) 256 15 [some (.ref 61), some (.int s.1), none, none, none, none] [] 94 (s.2.1, s.2.2, xrf) Q) t (fun s ⟨s', hb, hp⟩ => q_X12_listsPartitions_3 s.1 s.2.1 s.2.2 hb hp) (fun s hb => q_X12_listsPartitions_3 s.1 s.2.1 s.2.2 hb hC) _ _ h
theorem p_X12_listsPartitions_2 {L : Nat} {xs : Nat → Int32} {d : Nat} {Q : xO → Prop} (I : xI) (J : xJ) {t : Unit × xI × xJ} (h : f_X12_listsPartitions_2 I J = some t) (hC : (c_X12_listsPartitions Q) t) : Rn L xs (d + 3) 256 13 [some (.ref 61), none, none, none, none, none] [] 94 (I, J, xrf) Q := by
  unfold f_X12_listsPartitions_2 at h
  refine Rn.go 2 (j' := 256) (pc' := 15) (ls' := [some (.ref 61), some (.int 0), none, none, none, none]) (st' := []) (n' := 94) (M' := (I, J, xrf)) (fun f => rfl) ?_
  exact p_X12_listsPartitions_3 0 I J h hC
theorem p_X12_listsPartitions_1 {L : Nat} {xs : Nat → Int32} {d : Nat} {Q : xO → Prop} (I : xI) (J : xJ) {t : Unit × xI × xJ} (h : f_X12_listsPartitions_1 I J = some t) (hC : (c_X12_listsPartitions Q) t) : Rn L xs (d + 3) 256 12 [some (.ref 61), none, none, none, none, none] [] 94 (I, J, xrf) Q := by
  unfold f_X12_listsPartitions_1 at h
  cases h
  exact Rn.ret 1 (o := (none, 94, (I, J, xrf))) (fun f => rfl) hC
theorem p_X12_listsPartitions_0 {L : Nat} {xs : Nat → Int32} {d : Nat} {Q : xO → Prop} (I : xI) (J : xJ) {t : Unit × xI × xJ} (h : f_X12_listsPartitions_0 I J = some t) (hC : (c_X12_listsPartitions Q) t) : Rn L xs (d + 3) 256 0 [some (.ref 61), none, none, none, none, none] [] 94 (I, J, xrf) Q := by
  unfold f_X12_listsPartitions_0 at h
  refine Rn.fi 6 (c := (((xup I 61 40 0)) 61 17) = 0) (p1 := 12) (l1 := [some (.ref 61), none, none, none, none, none]) (s1 := []) (n1 := 94) (M1 := ((xup I 61 40 0), J, xrf)) (p2 := 13) (l2 := [some (.ref 61), none, none, none, none, none]) (s2 := []) (n2 := 94) (M2 := ((xup I 61 40 0), J, xrf)) (fun f => rfl) (fun hc => ?_) (fun hc => ?_)
  · rw [if_pos hc] at h
    exact p_X12_listsPartitions_1 ((xup I 61 40 0)) J h hC
  · rw [if_neg hc] at h
    exact p_X12_listsPartitions_2 ((xup I 61 40 0)) J h hC
theorem p_X12_listsPartitions {L : Nat} {xs : Nat → Int32} {d : Nat} {Q : xO → Prop} (I : xI) (J : xJ) {t : Unit × xI × xJ} (h : f_X12_listsPartitions I J = some t) (hC : Q (none, 94, (t.2.1, t.2.2, xrf))) : Rn L xs (d + 3) 256 0 [some (.ref 61), none, none, none, none, none] [] 94 (I, J, xrf) Q := p_X12_listsPartitions_0 I J h hC
/-! X12_knows -/
def c_X12_knows (Q : xO → Prop) (t : Unit × xI × xJ) : Prop := Q (none, 94, (t.2.1, t.2.2, xrf))
def f_X12_knows_7 (I : xI) (J : xJ) : Option (Unit × xI × xJ) := some ((), I, J)
def f_X12_knows_6 (I : xI) (J : xJ) : Option (Unit × xI × xJ) := (f_X12_listsPartitions I J).bind fun o => f_X12_knows_7 o.2.1 o.2.2
def f_X12_knows_5 (I : xI) (J : xJ) : Option (Unit × xI × xJ) := (f_X12_laysMet I J).bind fun o => f_X12_knows_6 o.2.1 o.2.2
def f_X12_knows_4 (I : xI) (J : xJ) : Option (Unit × xI × xJ) := (f_X12_laysFewest I J).bind fun o => f_X12_knows_5 o.2.1 o.2.2
def f_X12_knows_3 (I : xI) (J : xJ) : Option (Unit × xI × xJ) := (f_X12_listsClasses I J).bind fun o => f_X12_knows_4 o.2.1 o.2.2
def f_X12_knows_2 (I : xI) (J : xJ) : Option (Unit × xI × xJ) := (f_X12_finds ((xup I 61 29 1)) J).bind fun o => f_X12_knows_3 o.2.1 o.2.2
def f_X12_knows_1 (I : xI) (J : xJ) : Option (Unit × xI × xJ) := some ((), I, J)
def f_X12_knows_0 (I : xI) (J : xJ) : Option (Unit × xI × xJ) := if (I 61 29) = 0 then f_X12_knows_2 I J else f_X12_knows_1 I J
def f_X12_knows (I : xI) (J : xJ) : Option (Unit × xI × xJ) := f_X12_knows_0 I J
theorem p_X12_knows_7 {L : Nat} {xs : Nat → Int32} {d : Nat} {Q : xO → Prop} (I : xI) (J : xJ) {t : Unit × xI × xJ} (h : f_X12_knows_7 I J = some t) (hC : (c_X12_knows Q) t) : Rn L xs (d + 6) 223 33 [some (.ref 61)] [] 94 (I, J, xrf) Q := by
  unfold f_X12_knows_7 at h
  cases h
  exact Rn.ret 1 (o := (none, 94, (I, J, xrf))) (fun f => rfl) hC
theorem p_X12_knows_6 {L : Nat} {xs : Nat → Int32} {d : Nat} {Q : xO → Prop} (I : xI) (J : xJ) {t : Unit × xI × xJ} (h : f_X12_knows_6 I J = some t) (hC : (c_X12_knows Q) t) : Rn L xs (d + 6) 223 29 [some (.ref 61)] [] 94 (I, J, xrf) Q := by
  unfold f_X12_knows_6 at h
  refine Rn.go 1 (j' := 223) (pc' := 30) (ls' := [some (.ref 61)]) (st' := [.ref 61]) (n' := 94) (M' := (I, J, xrf)) (fun f => rfl) ?_
  obtain ⟨o, ho, h⟩ := Option.bind_eq_some_iff.mp h
  refine Rn.call (d1 := d + 5) (j1 := 256) (ls1 := [some (.ref 61), none, none, none, none, none]) (rest := []) (fun f => rfl) ?_
  refine p_X12_listsPartitions (d := d + 2) I J (t := o) ho ?_
  exact p_X12_knows_7 o.2.1 o.2.2 h hC
theorem p_X12_knows_5 {L : Nat} {xs : Nat → Int32} {d : Nat} {Q : xO → Prop} (I : xI) (J : xJ) {t : Unit × xI × xJ} (h : f_X12_knows_5 I J = some t) (hC : (c_X12_knows Q) t) : Rn L xs (d + 6) 223 25 [some (.ref 61)] [] 94 (I, J, xrf) Q := by
  unfold f_X12_knows_5 at h
  refine Rn.go 1 (j' := 223) (pc' := 26) (ls' := [some (.ref 61)]) (st' := [.ref 61]) (n' := 94) (M' := (I, J, xrf)) (fun f => rfl) ?_
  obtain ⟨o, ho, h⟩ := Option.bind_eq_some_iff.mp h
  refine Rn.call (d1 := d + 5) (j1 := 253) (ls1 := [some (.ref 61), none, none, none, none]) (rest := []) (fun f => rfl) ?_
  refine p_X12_laysMet (d := d + 1) I J (t := o) ho ?_
  exact p_X12_knows_6 o.2.1 o.2.2 h hC
theorem p_X12_knows_4 {L : Nat} {xs : Nat → Int32} {d : Nat} {Q : xO → Prop} (I : xI) (J : xJ) {t : Unit × xI × xJ} (h : f_X12_knows_4 I J = some t) (hC : (c_X12_knows Q) t) : Rn L xs (d + 6) 223 21 [some (.ref 61)] [] 94 (I, J, xrf) Q := by
  unfold f_X12_knows_4 at h
  refine Rn.go 1 (j' := 223) (pc' := 22) (ls' := [some (.ref 61)]) (st' := [.ref 61]) (n' := 94) (M' := (I, J, xrf)) (fun f => rfl) ?_
  obtain ⟨o, ho, h⟩ := Option.bind_eq_some_iff.mp h
  refine Rn.call (d1 := d + 5) (j1 := 246) (ls1 := [some (.ref 61)]) (rest := []) (fun f => rfl) ?_
  refine p_X12_laysFewest (d := d + 0) I J (t := o) ho ?_
  exact p_X12_knows_5 o.2.1 o.2.2 h hC
theorem p_X12_knows_3 {L : Nat} {xs : Nat → Int32} {d : Nat} {Q : xO → Prop} (I : xI) (J : xJ) {t : Unit × xI × xJ} (h : f_X12_knows_3 I J = some t) (hC : (c_X12_knows Q) t) : Rn L xs (d + 6) 223 17 [some (.ref 61)] [] 94 (I, J, xrf) Q := by
  unfold f_X12_knows_3 at h
  refine Rn.go 1 (j' := 223) (pc' := 18) (ls' := [some (.ref 61)]) (st' := [.ref 61]) (n' := 94) (M' := (I, J, xrf)) (fun f => rfl) ?_
  obtain ⟨o, ho, h⟩ := Option.bind_eq_some_iff.mp h
  refine Rn.call (d1 := d + 5) (j1 := 234) (ls1 := [some (.ref 61), none, none, none]) (rest := []) (fun f => rfl) ?_
  refine p_X12_listsClasses (d := d + 2) I J (t := o) ho ?_
  exact p_X12_knows_4 o.2.1 o.2.2 h hC
theorem p_X12_knows_2 {L : Nat} {xs : Nat → Int32} {d : Nat} {Q : xO → Prop} (I : xI) (J : xJ) {t : Unit × xI × xJ} (h : f_X12_knows_2 I J = some t) (hC : (c_X12_knows Q) t) : Rn L xs (d + 6) 223 8 [some (.ref 61)] [] 94 (I, J, xrf) Q := by
  unfold f_X12_knows_2 at h
  refine Rn.go 4 (j' := 223) (pc' := 14) (ls' := [some (.ref 61)]) (st' := [.ref 61]) (n' := 94) (M' := ((xup I 61 29 1), J, xrf)) (fun f => rfl) ?_
  obtain ⟨o, ho, h⟩ := Option.bind_eq_some_iff.mp h
  refine Rn.call (d1 := d + 5) (j1 := 225) (ls1 := [some (.ref 61), none, none, none, none, none]) (rest := []) (fun f => rfl) ?_
  refine p_X12_finds (d := d + 2) ((xup I 61 29 1)) J (t := o) ho ?_
  exact p_X12_knows_3 o.2.1 o.2.2 h hC
theorem p_X12_knows_1 {L : Nat} {xs : Nat → Int32} {d : Nat} {Q : xO → Prop} (I : xI) (J : xJ) {t : Unit × xI × xJ} (h : f_X12_knows_1 I J = some t) (hC : (c_X12_knows Q) t) : Rn L xs (d + 6) 223 7 [some (.ref 61)] [] 94 (I, J, xrf) Q := by
  unfold f_X12_knows_1 at h
  cases h
  exact Rn.ret 1 (o := (none, 94, (I, J, xrf))) (fun f => rfl) hC
theorem p_X12_knows_0 {L : Nat} {xs : Nat → Int32} {d : Nat} {Q : xO → Prop} (I : xI) (J : xJ) {t : Unit × xI × xJ} (h : f_X12_knows_0 I J = some t) (hC : (c_X12_knows Q) t) : Rn L xs (d + 6) 223 0 [some (.ref 61)] [] 94 (I, J, xrf) Q := by
  unfold f_X12_knows_0 at h
  refine Rn.fi 3 (c := (I 61 29) = 0) (p1 := 8) (l1 := [some (.ref 61)]) (s1 := []) (n1 := 94) (M1 := (I, J, xrf)) (p2 := 7) (l2 := [some (.ref 61)]) (s2 := []) (n2 := 94) (M2 := (I, J, xrf)) (fun f => rfl) (fun hc => ?_) (fun hc => ?_)
  · rw [if_pos hc] at h
    exact p_X12_knows_2 I J h hC
  · rw [if_neg hc] at h
    exact p_X12_knows_1 I J h hC
theorem p_X12_knows {L : Nat} {xs : Nat → Int32} {d : Nat} {Q : xO → Prop} (I : xI) (J : xJ) {t : Unit × xI × xJ} (h : f_X12_knows I J = some t) (hC : Q (none, 94, (t.2.1, t.2.2, xrf))) : Rn L xs (d + 6) 223 0 [some (.ref 61)] [] 94 (I, J, xrf) Q := p_X12_knows_0 I J h hC
/-! X12_apart -/
def c_X12_apart (Q : xO → Prop) (t : Int32 × xI × xJ) : Prop := Q ((some (.int t.1)), 94, (t.2.1, t.2.2, xrf))
def f_X12_apart_6 (x1 : Int32) (x2 : Int32) (x3 : Int32) (I : xI) (J : xJ) : Option (Int32 × xI × xJ) := some ((-1), I, J)
def f_X12_apart_13 (x1 : Int32) (x2 : Int32) (x3 : Int32) (x4 : Int32) (s0 : Int32) (I : xI) (J : xJ) : Option (Int32 × xI × xJ) := some (s0, I, J)
def f_X12_apart_12 (x1 : Int32) (x2 : Int32) (x3 : Int32) (x4 : Int32) (I : xI) (J : xJ) : Option (Int32 × xI × xJ) := f_X12_apart_13 x1 x2 x3 x4 1 I J
def f_X12_apart_11 (x1 : Int32) (x2 : Int32) (x3 : Int32) (x4 : Int32) (I : xI) (J : xJ) : Option (Int32 × xI × xJ) := f_X12_apart_13 x1 x2 x3 x4 0 I J
def f_X12_apart_10 (x1 : Int32) (x2 : Int32) (x3 : Int32) (x4 : Int32) (I : xI) (J : xJ) : Option (Int32 × xI × xJ) := if 0 ≤ x4 then f_X12_apart_12 x1 x2 x3 x4 I J else f_X12_apart_11 x1 x2 x3 x4 I J
def f_X12_apart_9 (x1 : Int32) (x2 : Int32) (x3 : Int32) (x4 : Int32) (I : xI) (J : xJ) : Option (Int32 × xI × xJ) := f_X12_apart_13 x1 x2 x3 x4 x4 I J
def f_X12_apart_8 (x1 : Int32) (x2 : Int32) (x3 : Int32) (I : xI) (J : xJ) : Option (Int32 × xI × xJ) := if ((6 * x1) + x2) < 0 ∨ 36 ≤ (((6 * x1) + x2)).toNatClampNeg then none else if x3 = 1 then f_X12_apart_9 x1 x2 x3 ((I 76 (((6 * x1) + x2)).toNatClampNeg)) I J else f_X12_apart_10 x1 x2 x3 ((I 76 (((6 * x1) + x2)).toNatClampNeg)) I J
def f_X12_apart_7 (x1 : Int32) (x2 : Int32) (x3 : Int32) (I : xI) (J : xJ) : Option (Int32 × xI × xJ) := (f_X12_knows I J).bind fun o => f_X12_apart_8 x1 x2 x3 o.2.1 o.2.2
def f_X12_apart_5 (x1 : Int32) (x2 : Int32) (x3 : Int32) (s0 : Int32) (I : xI) (J : xJ) : Option (Int32 × xI × xJ) := if s0 = 0 then f_X12_apart_6 x1 x2 x3 I J else f_X12_apart_7 x1 x2 x3 I J
def f_X12_apart_4 (x1 : Int32) (x2 : Int32) (x3 : Int32) (I : xI) (J : xJ) : Option (Int32 × xI × xJ) := (f_X12_in x3 0 1 I J).bind fun o => f_X12_apart_5 x1 x2 x3 o.1 o.2.1 o.2.2
def f_X12_apart_3 (x1 : Int32) (x2 : Int32) (x3 : Int32) (s0 : Int32) (I : xI) (J : xJ) : Option (Int32 × xI × xJ) := if s0 = 0 then f_X12_apart_6 x1 x2 x3 I J else f_X12_apart_4 x1 x2 x3 I J
def f_X12_apart_2 (x1 : Int32) (x2 : Int32) (x3 : Int32) (I : xI) (J : xJ) : Option (Int32 × xI × xJ) := (f_X12_isState x2 I J).bind fun o => f_X12_apart_3 x1 x2 x3 o.1 o.2.1 o.2.2
def f_X12_apart_1 (x1 : Int32) (x2 : Int32) (x3 : Int32) (s0 : Int32) (I : xI) (J : xJ) : Option (Int32 × xI × xJ) := if s0 = 0 then f_X12_apart_6 x1 x2 x3 I J else f_X12_apart_2 x1 x2 x3 I J
def f_X12_apart_0 (x1 : Int32) (x2 : Int32) (x3 : Int32) (I : xI) (J : xJ) : Option (Int32 × xI × xJ) := (f_X12_isState x1 I J).bind fun o => f_X12_apart_1 x1 x2 x3 o.1 o.2.1 o.2.2
def f_X12_apart (x1 : Int32) (x2 : Int32) (x3 : Int32) (I : xI) (J : xJ) : Option (Int32 × xI × xJ) := f_X12_apart_0 x1 x2 x3 I J
theorem p_X12_apart_6 {L : Nat} {xs : Nat → Int32} {d : Nat} {Q : xO → Prop} (x1 : Int32) (x2 : Int32) (x3 : Int32) (I : xI) (J : xJ) {t : Int32 × xI × xJ} (h : f_X12_apart_6 x1 x2 x3 I J = some t) (hC : (c_X12_apart Q) t) : Rn L xs (d + 7) 226 25 [some (.ref 61), some (.int x1), some (.int x2), some (.int x3), none] [] 94 (I, J, xrf) Q := by
  unfold f_X12_apart_6 at h
  cases h
  exact Rn.ret 2 (o := ((some (.int ((-1)))), 94, (I, J, xrf))) (fun f => rfl) hC
theorem p_X12_apart_13 {L : Nat} {xs : Nat → Int32} {d : Nat} {Q : xO → Prop} (x1 : Int32) (x2 : Int32) (x3 : Int32) (x4 : Int32) (s0 : Int32) (I : xI) (J : xJ) {t : Int32 × xI × xJ} (h : f_X12_apart_13 x1 x2 x3 x4 s0 I J = some t) (hC : (c_X12_apart Q) t) : Rn L xs (d + 7) 226 64 [some (.ref 61), some (.int x1), some (.int x2), some (.int x3), some (.int x4)] [.int s0] 94 (I, J, xrf) Q := by
  unfold f_X12_apart_13 at h
  cases h
  exact Rn.ret 1 (o := ((some (.int s0)), 94, (I, J, xrf))) (fun f => rfl) hC
theorem p_X12_apart_12 {L : Nat} {xs : Nat → Int32} {d : Nat} {Q : xO → Prop} (x1 : Int32) (x2 : Int32) (x3 : Int32) (x4 : Int32) (I : xI) (J : xJ) {t : Int32 × xI × xJ} (h : f_X12_apart_12 x1 x2 x3 x4 I J = some t) (hC : (c_X12_apart Q) t) : Rn L xs (d + 7) 226 63 [some (.ref 61), some (.int x1), some (.int x2), some (.int x3), some (.int x4)] [] 94 (I, J, xrf) Q := by
  unfold f_X12_apart_12 at h
  refine Rn.go 1 (j' := 226) (pc' := 64) (ls' := [some (.ref 61), some (.int x1), some (.int x2), some (.int x3), some (.int x4)]) (st' := [.int 1]) (n' := 94) (M' := (I, J, xrf)) (fun f => rfl) ?_
  exact p_X12_apart_13 x1 x2 x3 x4 1 I J h hC
theorem p_X12_apart_11 {L : Nat} {xs : Nat → Int32} {d : Nat} {Q : xO → Prop} (x1 : Int32) (x2 : Int32) (x3 : Int32) (x4 : Int32) (I : xI) (J : xJ) {t : Int32 × xI × xJ} (h : f_X12_apart_11 x1 x2 x3 x4 I J = some t) (hC : (c_X12_apart Q) t) : Rn L xs (d + 7) 226 59 [some (.ref 61), some (.int x1), some (.int x2), some (.int x3), some (.int x4)] [] 94 (I, J, xrf) Q := by
  unfold f_X12_apart_11 at h
  refine Rn.go 2 (j' := 226) (pc' := 64) (ls' := [some (.ref 61), some (.int x1), some (.int x2), some (.int x3), some (.int x4)]) (st' := [.int 0]) (n' := 94) (M' := (I, J, xrf)) (fun f => rfl) ?_
  exact p_X12_apart_13 x1 x2 x3 x4 0 I J h hC
theorem p_X12_apart_10 {L : Nat} {xs : Nat → Int32} {d : Nat} {Q : xO → Prop} (x1 : Int32) (x2 : Int32) (x3 : Int32) (x4 : Int32) (I : xI) (J : xJ) {t : Int32 × xI × xJ} (h : f_X12_apart_10 x1 x2 x3 x4 I J = some t) (hC : (c_X12_apart Q) t) : Rn L xs (d + 7) 226 54 [some (.ref 61), some (.int x1), some (.int x2), some (.int x3), some (.int x4)] [] 94 (I, J, xrf) Q := by
  unfold f_X12_apart_10 at h
  refine Rn.fi 2 (c := 0 ≤ x4) (p1 := 63) (l1 := [some (.ref 61), some (.int x1), some (.int x2), some (.int x3), some (.int x4)]) (s1 := []) (n1 := 94) (M1 := (I, J, xrf)) (p2 := 59) (l2 := [some (.ref 61), some (.int x1), some (.int x2), some (.int x3), some (.int x4)]) (s2 := []) (n2 := 94) (M2 := (I, J, xrf)) (fun f => rfl) (fun hc => ?_) (fun hc => ?_)
  · rw [if_pos hc] at h
    exact p_X12_apart_12 x1 x2 x3 x4 I J h hC
  · rw [if_neg hc] at h
    exact p_X12_apart_11 x1 x2 x3 x4 I J h hC
theorem p_X12_apart_9 {L : Nat} {xs : Nat → Int32} {d : Nat} {Q : xO → Prop} (x1 : Int32) (x2 : Int32) (x3 : Int32) (x4 : Int32) (I : xI) (J : xJ) {t : Int32 × xI × xJ} (h : f_X12_apart_9 x1 x2 x3 x4 I J = some t) (hC : (c_X12_apart Q) t) : Rn L xs (d + 7) 226 49 [some (.ref 61), some (.int x1), some (.int x2), some (.int x3), some (.int x4)] [] 94 (I, J, xrf) Q := by
  unfold f_X12_apart_9 at h
  refine Rn.go 2 (j' := 226) (pc' := 64) (ls' := [some (.ref 61), some (.int x1), some (.int x2), some (.int x3), some (.int x4)]) (st' := [.int x4]) (n' := 94) (M' := (I, J, xrf)) (fun f => rfl) ?_
  exact p_X12_apart_13 x1 x2 x3 x4 x4 I J h hC
theorem p_X12_apart_8 {L : Nat} {xs : Nat → Int32} {d : Nat} {Q : xO → Prop} (x1 : Int32) (x2 : Int32) (x3 : Int32) (I : xI) (J : xJ) {t : Int32 × xI × xJ} (h : f_X12_apart_8 x1 x2 x3 I J = some t) (hC : (c_X12_apart Q) t) : Rn L xs (d + 7) 226 31 [some (.ref 61), some (.int x1), some (.int x2), some (.int x3), none] [] 94 (I, J, xrf) Q := by
  unfold f_X12_apart_8 at h
  obtain ⟨hc, h⟩ := xif h
  refine Rn.ok 8 (c := ((6 * x1) + x2) < 0 ∨ 36 ≤ (((6 * x1) + x2)).toNatClampNeg) (p1 := 42) (l1 := [some (.ref 61), some (.int x1), some (.int x2), some (.int x3), none]) (s1 := [.int ((I 76 (((6 * x1) + x2)).toNatClampNeg))]) (n1 := 94) (M1 := (I, J, xrf)) (fun f => rfl) hc ?_
  refine Rn.fi 4 (c := x3 = 1) (p1 := 49) (l1 := [some (.ref 61), some (.int x1), some (.int x2), some (.int x3), some (.int ((I 76 (((6 * x1) + x2)).toNatClampNeg)))]) (s1 := []) (n1 := 94) (M1 := (I, J, xrf)) (p2 := 54) (l2 := [some (.ref 61), some (.int x1), some (.int x2), some (.int x3), some (.int ((I 76 (((6 * x1) + x2)).toNatClampNeg)))]) (s2 := []) (n2 := 94) (M2 := (I, J, xrf)) (fun f => rfl) (fun hc => ?_) (fun hc => ?_)
  · rw [if_pos hc] at h
    exact p_X12_apart_9 x1 x2 x3 ((I 76 (((6 * x1) + x2)).toNatClampNeg)) I J h hC
  · rw [if_neg hc] at h
    exact p_X12_apart_10 x1 x2 x3 ((I 76 (((6 * x1) + x2)).toNatClampNeg)) I J h hC
theorem p_X12_apart_7 {L : Nat} {xs : Nat → Int32} {d : Nat} {Q : xO → Prop} (x1 : Int32) (x2 : Int32) (x3 : Int32) (I : xI) (J : xJ) {t : Int32 × xI × xJ} (h : f_X12_apart_7 x1 x2 x3 I J = some t) (hC : (c_X12_apart Q) t) : Rn L xs (d + 7) 226 27 [some (.ref 61), some (.int x1), some (.int x2), some (.int x3), none] [] 94 (I, J, xrf) Q := by
  unfold f_X12_apart_7 at h
  refine Rn.go 1 (j' := 226) (pc' := 28) (ls' := [some (.ref 61), some (.int x1), some (.int x2), some (.int x3), none]) (st' := [.ref 61]) (n' := 94) (M' := (I, J, xrf)) (fun f => rfl) ?_
  obtain ⟨o, ho, h⟩ := Option.bind_eq_some_iff.mp h
  refine Rn.call (d1 := d + 6) (j1 := 223) (ls1 := [some (.ref 61)]) (rest := []) (fun f => rfl) ?_
  refine p_X12_knows (d := d + 0) I J (t := o) ho ?_
  exact p_X12_apart_8 x1 x2 x3 o.2.1 o.2.2 h hC
theorem p_X12_apart_5 {L : Nat} {xs : Nat → Int32} {d : Nat} {Q : xO → Prop} (x1 : Int32) (x2 : Int32) (x3 : Int32) (s0 : Int32) (I : xI) (J : xJ) {t : Int32 × xI × xJ} (h : f_X12_apart_5 x1 x2 x3 s0 I J = some t) (hC : (c_X12_apart Q) t) : Rn L xs (d + 7) 226 22 [some (.ref 61), some (.int x1), some (.int x2), some (.int x3), none] [.int s0] 94 (I, J, xrf) Q := by
  unfold f_X12_apart_5 at h
  refine Rn.fi 1 (c := s0 = 0) (p1 := 25) (l1 := [some (.ref 61), some (.int x1), some (.int x2), some (.int x3), none]) (s1 := []) (n1 := 94) (M1 := (I, J, xrf)) (p2 := 27) (l2 := [some (.ref 61), some (.int x1), some (.int x2), some (.int x3), none]) (s2 := []) (n2 := 94) (M2 := (I, J, xrf)) (fun f => rfl) (fun hc => ?_) (fun hc => ?_)
  · rw [if_pos hc] at h
    exact p_X12_apart_6 x1 x2 x3 I J h hC
  · rw [if_neg hc] at h
    exact p_X12_apart_7 x1 x2 x3 I J h hC
theorem p_X12_apart_4 {L : Nat} {xs : Nat → Int32} {d : Nat} {Q : xO → Prop} (x1 : Int32) (x2 : Int32) (x3 : Int32) (I : xI) (J : xJ) {t : Int32 × xI × xJ} (h : f_X12_apart_4 x1 x2 x3 I J = some t) (hC : (c_X12_apart Q) t) : Rn L xs (d + 7) 226 16 [some (.ref 61), some (.int x1), some (.int x2), some (.int x3), none] [] 94 (I, J, xrf) Q := by
  unfold f_X12_apart_4 at h
  refine Rn.go 3 (j' := 226) (pc' := 19) (ls' := [some (.ref 61), some (.int x1), some (.int x2), some (.int x3), none]) (st' := [.int 1, .int 0, .int x3]) (n' := 94) (M' := (I, J, xrf)) (fun f => rfl) ?_
  obtain ⟨o, ho, h⟩ := Option.bind_eq_some_iff.mp h
  refine Rn.call (d1 := d + 6) (j1 := 206) (ls1 := [some (.int x3), some (.int 0), some (.int 1)]) (rest := []) (fun f => rfl) ?_
  refine p_X12_in (d := d + 5) x3 0 1 I J (t := o) ho ?_
  exact p_X12_apart_5 x1 x2 x3 o.1 o.2.1 o.2.2 h hC
theorem p_X12_apart_3 {L : Nat} {xs : Nat → Int32} {d : Nat} {Q : xO → Prop} (x1 : Int32) (x2 : Int32) (x3 : Int32) (s0 : Int32) (I : xI) (J : xJ) {t : Int32 × xI × xJ} (h : f_X12_apart_3 x1 x2 x3 s0 I J = some t) (hC : (c_X12_apart Q) t) : Rn L xs (d + 7) 226 13 [some (.ref 61), some (.int x1), some (.int x2), some (.int x3), none] [.int s0] 94 (I, J, xrf) Q := by
  unfold f_X12_apart_3 at h
  refine Rn.fi 1 (c := s0 = 0) (p1 := 25) (l1 := [some (.ref 61), some (.int x1), some (.int x2), some (.int x3), none]) (s1 := []) (n1 := 94) (M1 := (I, J, xrf)) (p2 := 16) (l2 := [some (.ref 61), some (.int x1), some (.int x2), some (.int x3), none]) (s2 := []) (n2 := 94) (M2 := (I, J, xrf)) (fun f => rfl) (fun hc => ?_) (fun hc => ?_)
  · rw [if_pos hc] at h
    exact p_X12_apart_6 x1 x2 x3 I J h hC
  · rw [if_neg hc] at h
    exact p_X12_apart_4 x1 x2 x3 I J h hC
theorem p_X12_apart_2 {L : Nat} {xs : Nat → Int32} {d : Nat} {Q : xO → Prop} (x1 : Int32) (x2 : Int32) (x3 : Int32) (I : xI) (J : xJ) {t : Int32 × xI × xJ} (h : f_X12_apart_2 x1 x2 x3 I J = some t) (hC : (c_X12_apart Q) t) : Rn L xs (d + 7) 226 8 [some (.ref 61), some (.int x1), some (.int x2), some (.int x3), none] [] 94 (I, J, xrf) Q := by
  unfold f_X12_apart_2 at h
  refine Rn.go 2 (j' := 226) (pc' := 10) (ls' := [some (.ref 61), some (.int x1), some (.int x2), some (.int x3), none]) (st' := [.int x2, .ref 61]) (n' := 94) (M' := (I, J, xrf)) (fun f => rfl) ?_
  obtain ⟨o, ho, h⟩ := Option.bind_eq_some_iff.mp h
  refine Rn.call (d1 := d + 6) (j1 := 207) (ls1 := [some (.ref 61), some (.int x2)]) (rest := []) (fun f => rfl) ?_
  refine p_X12_isState (d := d + 4) x2 I J (t := o) ho ?_
  exact p_X12_apart_3 x1 x2 x3 o.1 o.2.1 o.2.2 h hC
theorem p_X12_apart_1 {L : Nat} {xs : Nat → Int32} {d : Nat} {Q : xO → Prop} (x1 : Int32) (x2 : Int32) (x3 : Int32) (s0 : Int32) (I : xI) (J : xJ) {t : Int32 × xI × xJ} (h : f_X12_apart_1 x1 x2 x3 s0 I J = some t) (hC : (c_X12_apart Q) t) : Rn L xs (d + 7) 226 5 [some (.ref 61), some (.int x1), some (.int x2), some (.int x3), none] [.int s0] 94 (I, J, xrf) Q := by
  unfold f_X12_apart_1 at h
  refine Rn.fi 1 (c := s0 = 0) (p1 := 25) (l1 := [some (.ref 61), some (.int x1), some (.int x2), some (.int x3), none]) (s1 := []) (n1 := 94) (M1 := (I, J, xrf)) (p2 := 8) (l2 := [some (.ref 61), some (.int x1), some (.int x2), some (.int x3), none]) (s2 := []) (n2 := 94) (M2 := (I, J, xrf)) (fun f => rfl) (fun hc => ?_) (fun hc => ?_)
  · rw [if_pos hc] at h
    exact p_X12_apart_6 x1 x2 x3 I J h hC
  · rw [if_neg hc] at h
    exact p_X12_apart_2 x1 x2 x3 I J h hC
theorem p_X12_apart_0 {L : Nat} {xs : Nat → Int32} {d : Nat} {Q : xO → Prop} (x1 : Int32) (x2 : Int32) (x3 : Int32) (I : xI) (J : xJ) {t : Int32 × xI × xJ} (h : f_X12_apart_0 x1 x2 x3 I J = some t) (hC : (c_X12_apart Q) t) : Rn L xs (d + 7) 226 0 [some (.ref 61), some (.int x1), some (.int x2), some (.int x3), none] [] 94 (I, J, xrf) Q := by
  unfold f_X12_apart_0 at h
  refine Rn.go 2 (j' := 226) (pc' := 2) (ls' := [some (.ref 61), some (.int x1), some (.int x2), some (.int x3), none]) (st' := [.int x1, .ref 61]) (n' := 94) (M' := (I, J, xrf)) (fun f => rfl) ?_
  obtain ⟨o, ho, h⟩ := Option.bind_eq_some_iff.mp h
  refine Rn.call (d1 := d + 6) (j1 := 207) (ls1 := [some (.ref 61), some (.int x1)]) (rest := []) (fun f => rfl) ?_
  refine p_X12_isState (d := d + 4) x1 I J (t := o) ho ?_
  exact p_X12_apart_1 x1 x2 x3 o.1 o.2.1 o.2.2 h hC
theorem p_X12_apart {L : Nat} {xs : Nat → Int32} {d : Nat} {Q : xO → Prop} (x1 : Int32) (x2 : Int32) (x3 : Int32) (I : xI) (J : xJ) {t : Int32 × xI × xJ} (h : f_X12_apart x1 x2 x3 I J = some t) (hC : Q ((some (.int t.1)), 94, (t.2.1, t.2.2, xrf))) : Rn L xs (d + 7) 226 0 [some (.ref 61), some (.int x1), some (.int x2), some (.int x3), none] [] 94 (I, J, xrf) Q := p_X12_apart_0 x1 x2 x3 I J h hC
/-! X12_nextInput -/
def c_X12_nextInput (Q : xO → Prop) (t : Int32 × xI × xJ) : Prop := Q ((some (.int t.1)), 94, (t.2.1, t.2.2, xrf))
def c_X12_nextInput_1 (L : Nat) (xs : Nat → Int32) (d : Nat) (Q : xO → Prop) (t : (Int32 × Int32 × Int32 × Int32 × xI × xJ) ⊕ (Int32 × xI × xJ)) : Prop := match t with
  | .inl s => Rn L xs (d + 3) 228 15 [some (.ref 61), some (.int s.1), some (.int s.2.1), some (.int s.2.2.1), some (.int s.2.2.2.1)] [] 94 (s.2.2.2.2.1, s.2.2.2.2.2, xrf) Q
  | .inr t => (c_X12_nextInput Q) t
def f_X12_nextInput_12 (x1 : Int32) (x2 : Int32) (x3 : Int32) (x4 : Int32) (I : xI) (J : xJ) : Option ((Int32 × Int32 × Int32 × Int32 × xI × xJ) ⊕ (Int32 × xI × xJ)) := some (.inl (x1, x2, x3, ((x4 + 1)), I, J))
def f_X12_nextInput_13 (x1 : Int32) (x2 : Int32) (x3 : Int32) (x4 : Int32) (I : xI) (J : xJ) : Option (Int32 × xI × xJ) := some (x4, I, J)
def f_X12_nextInput_11 (x1 : Int32) (x2 : Int32) (x3 : Int32) (x4 : Int32) (s1 : Int32) (s2 : Int32) (I : xI) (J : xJ) : Option ((Int32 × Int32 × Int32 × Int32 × xI × xJ) ⊕ (Int32 × xI × xJ)) := if (s1 + s2) < 0 ∨ 36 ≤ ((s1 + s2)).toNatClampNeg then none else if (I 76 ((s1 + s2)).toNatClampNeg) = (x3 - 1) then ((f_X12_nextInput_13 x1 x2 x3 x4 I J)).map .inr else f_X12_nextInput_12 x1 x2 x3 x4 I J
def f_X12_nextInput_10 (x1 : Int32) (x2 : Int32) (x3 : Int32) (x4 : Int32) (s1 : Int32) (s2 : Int32) (I : xI) (J : xJ) : Option ((Int32 × Int32 × Int32 × Int32 × xI × xJ) ⊕ (Int32 × xI × xJ)) := (f_X12_to x2 x4 I J).bind fun o => f_X12_nextInput_11 x1 x2 x3 x4 ((s1 * s2)) o.1 o.2.1 o.2.2
def f_X12_nextInput_9 (x1 : Int32) (x2 : Int32) (x3 : Int32) (x4 : Int32) (I : xI) (J : xJ) : Option ((Int32 × Int32 × Int32 × Int32 × xI × xJ) ⊕ (Int32 × xI × xJ)) := (f_X12_to x1 x4 I J).bind fun o => f_X12_nextInput_10 x1 x2 x3 x4 6 o.1 o.2.1 o.2.2
def f_X12_nextInput_8 (x1 : Int32) (x2 : Int32) (x3 : Int32) (x4 : Int32) (s0 : Int32) (I : xI) (J : xJ) : Option ((Int32 × Int32 × Int32 × Int32 × xI × xJ) ⊕ (Int32 × xI × xJ)) := if s0 < 0 then f_X12_nextInput_12 x1 x2 x3 x4 I J else f_X12_nextInput_9 x1 x2 x3 x4 I J
def f_X12_nextInput_7 (x1 : Int32) (x2 : Int32) (x3 : Int32) (x4 : Int32) (I : xI) (J : xJ) : Option ((Int32 × Int32 × Int32 × Int32 × xI × xJ) ⊕ (Int32 × xI × xJ)) := (f_X12_to x2 x4 I J).bind fun o => f_X12_nextInput_8 x1 x2 x3 x4 o.1 o.2.1 o.2.2
def f_X12_nextInput_6 (x1 : Int32) (x2 : Int32) (x3 : Int32) (x4 : Int32) (s0 : Int32) (I : xI) (J : xJ) : Option ((Int32 × Int32 × Int32 × Int32 × xI × xJ) ⊕ (Int32 × xI × xJ)) := if s0 < 0 then f_X12_nextInput_12 x1 x2 x3 x4 I J else f_X12_nextInput_7 x1 x2 x3 x4 I J
def f_X12_nextInput_5 (x1 : Int32) (x2 : Int32) (x3 : Int32) (x4 : Int32) (I : xI) (J : xJ) : Option ((Int32 × Int32 × Int32 × Int32 × xI × xJ) ⊕ (Int32 × xI × xJ)) := (f_X12_to x1 x4 I J).bind fun o => f_X12_nextInput_6 x1 x2 x3 x4 o.1 o.2.1 o.2.2
def f_X12_nextInput_4 (x1 : Int32) (x2 : Int32) (x3 : Int32) (x4 : Int32) (I : xI) (J : xJ) : Option ((Int32 × Int32 × Int32 × Int32 × xI × xJ) ⊕ (Int32 × xI × xJ)) := f_X12_nextInput_12 x1 x2 x3 x4 I J
def f_X12_nextInput_3 (x1 : Int32) (x2 : Int32) (x3 : Int32) (x4 : Int32) (s0 : Int32) (I : xI) (J : xJ) : Option ((Int32 × Int32 × Int32 × Int32 × xI × xJ) ⊕ (Int32 × xI × xJ)) := if s0 = 0 then f_X12_nextInput_4 x1 x2 x3 x4 I J else ((f_X12_nextInput_13 x1 x2 x3 x4 I J)).map .inr
def f_X12_nextInput_2 (x1 : Int32) (x2 : Int32) (x3 : Int32) (x4 : Int32) (I : xI) (J : xJ) : Option ((Int32 × Int32 × Int32 × Int32 × xI × xJ) ⊕ (Int32 × xI × xJ)) := (f_X12_areUnlike x1 x2 x4 I J).bind fun o => f_X12_nextInput_3 x1 x2 x3 x4 o.1 o.2.1 o.2.2
def b_X12_nextInput_1 (x1 : Int32) (x2 : Int32) (x3 : Int32) (x4 : Int32) (I : xI) (J : xJ) : Option ((Int32 × Int32 × Int32 × Int32 × xI × xJ) ⊕ (Int32 × xI × xJ)) := if x3 = 0 then f_X12_nextInput_2 x1 x2 x3 x4 I J else f_X12_nextInput_5 x1 x2 x3 x4 I J
def f_X12_nextInput_1 (x1 : Int32) (x2 : Int32) (x3 : Int32) (x4 : Int32) (I : xI) (J : xJ) : Option (Int32 × xI × xJ) := xloop (fun s : Int32 × Int32 × Int32 × Int32 × xI × xJ => b_X12_nextInput_1 s.1 s.2.1 s.2.2.1 s.2.2.2.1 s.2.2.2.2.1 s.2.2.2.2.2) 5000 (x1, x2, x3, x4, I, J)
def f_X12_nextInput_0 (x1 : Int32) (x2 : Int32) (I : xI) (J : xJ) : Option (Int32 × xI × xJ) := if ((6 * x1) + x2) < 0 ∨ 36 ≤ (((6 * x1) + x2)).toNatClampNeg then none else f_X12_nextInput_1 x1 x2 ((I 76 (((6 * x1) + x2)).toNatClampNeg)) 0 I J
def f_X12_nextInput (x1 : Int32) (x2 : Int32) (I : xI) (J : xJ) : Option (Int32 × xI × xJ) := f_X12_nextInput_0 x1 x2 I J
theorem p_X12_nextInput_12 {L : Nat} {xs : Nat → Int32} {d : Nat} {Q : xO → Prop} (x1 : Int32) (x2 : Int32) (x3 : Int32) (x4 : Int32) (I : xI) (J : xJ) {t : (Int32 × Int32 × Int32 × Int32 × xI × xJ) ⊕ (Int32 × xI × xJ)} (h : f_X12_nextInput_12 x1 x2 x3 x4 I J = some t) (hC : (c_X12_nextInput_1 L xs d Q) t) : Rn L xs (d + 3) 228 82 [some (.ref 61), some (.int x1), some (.int x2), some (.int x3), some (.int x4)] [] 94 (I, J, xrf) Q := by
  unfold f_X12_nextInput_12 at h
  refine Rn.go 2 (j' := 228) (pc' := 15) (ls' := [some (.ref 61), some (.int x1), some (.int x2), some (.int x3), some (.int ((x4 + 1)))]) (st' := []) (n' := 94) (M' := (I, J, xrf)) (fun f => rfl) ?_
  cases h; exact hC
theorem p_X12_nextInput_13 {L : Nat} {xs : Nat → Int32} {d : Nat} {Q : xO → Prop} (x1 : Int32) (x2 : Int32) (x3 : Int32) (x4 : Int32) (I : xI) (J : xJ) {t : Int32 × xI × xJ} (h : f_X12_nextInput_13 x1 x2 x3 x4 I J = some t) (hC : (c_X12_nextInput Q) t) : Rn L xs (d + 3) 228 88 [some (.ref 61), some (.int x1), some (.int x2), some (.int x3), some (.int x4)] [] 94 (I, J, xrf) Q := by
  unfold f_X12_nextInput_13 at h
  cases h
  exact Rn.ret 2 (o := ((some (.int x4)), 94, (I, J, xrf))) (fun f => rfl) hC
theorem p_X12_nextInput_11 {L : Nat} {xs : Nat → Int32} {d : Nat} {Q : xO → Prop} (x1 : Int32) (x2 : Int32) (x3 : Int32) (x4 : Int32) (s1 : Int32) (s2 : Int32) (I : xI) (J : xJ) {t : (Int32 × Int32 × Int32 × Int32 × xI × xJ) ⊕ (Int32 × xI × xJ)} (h : f_X12_nextInput_11 x1 x2 x3 x4 s1 s2 I J = some t) (hC : (c_X12_nextInput_1 L xs d Q) t) : Rn L xs (d + 3) 228 74 [some (.ref 61), some (.int x1), some (.int x2), some (.int x3), some (.int x4)] [.int s2, .int s1, .ref 76] 94 (I, J, xrf) Q := by
  unfold f_X12_nextInput_11 at h
  obtain ⟨hc, h⟩ := xif h
  refine Rn.ok 2 (c := (s1 + s2) < 0 ∨ 36 ≤ ((s1 + s2)).toNatClampNeg) (p1 := 76) (l1 := [some (.ref 61), some (.int x1), some (.int x2), some (.int x3), some (.int x4)]) (s1 := [.int ((I 76 ((s1 + s2)).toNatClampNeg))]) (n1 := 94) (M1 := (I, J, xrf)) (fun f => rfl) hc ?_
  refine Rn.fi 4 (c := (I 76 ((s1 + s2)).toNatClampNeg) = (x3 - 1)) (p1 := 88) (l1 := [some (.ref 61), some (.int x1), some (.int x2), some (.int x3), some (.int x4)]) (s1 := []) (n1 := 94) (M1 := (I, J, xrf)) (p2 := 82) (l2 := [some (.ref 61), some (.int x1), some (.int x2), some (.int x3), some (.int x4)]) (s2 := []) (n2 := 94) (M2 := (I, J, xrf)) (fun f => rfl) (fun hc => ?_) (fun hc => ?_)
  · rw [if_pos hc] at h
    obtain ⟨t0, h0, rfl⟩ := Option.map_eq_some_iff.mp h
    exact p_X12_nextInput_13 x1 x2 x3 x4 I J h0 hC
  · rw [if_neg hc] at h
    exact p_X12_nextInput_12 x1 x2 x3 x4 I J h hC
theorem p_X12_nextInput_10 {L : Nat} {xs : Nat → Int32} {d : Nat} {Q : xO → Prop} (x1 : Int32) (x2 : Int32) (x3 : Int32) (x4 : Int32) (s1 : Int32) (s2 : Int32) (I : xI) (J : xJ) {t : (Int32 × Int32 × Int32 × Int32 × xI × xJ) ⊕ (Int32 × xI × xJ)} (h : f_X12_nextInput_10 x1 x2 x3 x4 s1 s2 I J = some t) (hC : (c_X12_nextInput_1 L xs d Q) t) : Rn L xs (d + 3) 228 66 [some (.ref 61), some (.int x1), some (.int x2), some (.int x3), some (.int x4)] [.int s2, .int s1, .ref 76] 94 (I, J, xrf) Q := by
  unfold f_X12_nextInput_10 at h
  refine Rn.go 4 (j' := 228) (pc' := 71) (ls' := [some (.ref 61), some (.int x1), some (.int x2), some (.int x3), some (.int x4)]) (st' := [.int x4, .int x2, .ref 61, .int ((s1 * s2)), .ref 76]) (n' := 94) (M' := (I, J, xrf)) (fun f => rfl) ?_
  obtain ⟨o, ho, h⟩ := Option.bind_eq_some_iff.mp h
  refine Rn.call (d1 := d + 2) (j1 := 210) (ls1 := [some (.ref 61), some (.int x2), some (.int x4)]) (rest := [.int ((s1 * s2)), .ref 76]) (fun f => rfl) ?_
  refine p_X12_to (d := d + 1) x2 x4 I J (t := o) ho ?_
  exact p_X12_nextInput_11 x1 x2 x3 x4 ((s1 * s2)) o.1 o.2.1 o.2.2 h hC
theorem p_X12_nextInput_9 {L : Nat} {xs : Nat → Int32} {d : Nat} {Q : xO → Prop} (x1 : Int32) (x2 : Int32) (x3 : Int32) (x4 : Int32) (I : xI) (J : xJ) {t : (Int32 × Int32 × Int32 × Int32 × xI × xJ) ⊕ (Int32 × xI × xJ)} (h : f_X12_nextInput_9 x1 x2 x3 x4 I J = some t) (hC : (c_X12_nextInput_1 L xs d Q) t) : Rn L xs (d + 3) 228 53 [some (.ref 61), some (.int x1), some (.int x2), some (.int x3), some (.int x4)] [] 94 (I, J, xrf) Q := by
  unfold f_X12_nextInput_9 at h
  refine Rn.go 6 (j' := 228) (pc' := 63) (ls' := [some (.ref 61), some (.int x1), some (.int x2), some (.int x3), some (.int x4)]) (st' := [.int x4, .int x1, .ref 61, .int 6, .ref 76]) (n' := 94) (M' := (I, J, xrf)) (fun f => rfl) ?_
  obtain ⟨o, ho, h⟩ := Option.bind_eq_some_iff.mp h
  refine Rn.call (d1 := d + 2) (j1 := 210) (ls1 := [some (.ref 61), some (.int x1), some (.int x4)]) (rest := [.int 6, .ref 76]) (fun f => rfl) ?_
  refine p_X12_to (d := d + 1) x1 x4 I J (t := o) ho ?_
  exact p_X12_nextInput_10 x1 x2 x3 x4 6 o.1 o.2.1 o.2.2 h hC
theorem p_X12_nextInput_8 {L : Nat} {xs : Nat → Int32} {d : Nat} {Q : xO → Prop} (x1 : Int32) (x2 : Int32) (x3 : Int32) (x4 : Int32) (s0 : Int32) (I : xI) (J : xJ) {t : (Int32 × Int32 × Int32 × Int32 × xI × xJ) ⊕ (Int32 × xI × xJ)} (h : f_X12_nextInput_8 x1 x2 x3 x4 s0 I J = some t) (hC : (c_X12_nextInput_1 L xs d Q) t) : Rn L xs (d + 3) 228 50 [some (.ref 61), some (.int x1), some (.int x2), some (.int x3), some (.int x4)] [.int s0] 94 (I, J, xrf) Q := by
  unfold f_X12_nextInput_8 at h
  refine Rn.fi 1 (c := s0 < 0) (p1 := 82) (l1 := [some (.ref 61), some (.int x1), some (.int x2), some (.int x3), some (.int x4)]) (s1 := []) (n1 := 94) (M1 := (I, J, xrf)) (p2 := 53) (l2 := [some (.ref 61), some (.int x1), some (.int x2), some (.int x3), some (.int x4)]) (s2 := []) (n2 := 94) (M2 := (I, J, xrf)) (fun f => rfl) (fun hc => ?_) (fun hc => ?_)
  · rw [if_pos hc] at h
    exact p_X12_nextInput_12 x1 x2 x3 x4 I J h hC
  · rw [if_neg hc] at h
    exact p_X12_nextInput_9 x1 x2 x3 x4 I J h hC
theorem p_X12_nextInput_7 {L : Nat} {xs : Nat → Int32} {d : Nat} {Q : xO → Prop} (x1 : Int32) (x2 : Int32) (x3 : Int32) (x4 : Int32) (I : xI) (J : xJ) {t : (Int32 × Int32 × Int32 × Int32 × xI × xJ) ⊕ (Int32 × xI × xJ)} (h : f_X12_nextInput_7 x1 x2 x3 x4 I J = some t) (hC : (c_X12_nextInput_1 L xs d Q) t) : Rn L xs (d + 3) 228 43 [some (.ref 61), some (.int x1), some (.int x2), some (.int x3), some (.int x4)] [] 94 (I, J, xrf) Q := by
  unfold f_X12_nextInput_7 at h
  refine Rn.go 3 (j' := 228) (pc' := 47) (ls' := [some (.ref 61), some (.int x1), some (.int x2), some (.int x3), some (.int x4)]) (st' := [.int x4, .int x2, .ref 61]) (n' := 94) (M' := (I, J, xrf)) (fun f => rfl) ?_
  obtain ⟨o, ho, h⟩ := Option.bind_eq_some_iff.mp h
  refine Rn.call (d1 := d + 2) (j1 := 210) (ls1 := [some (.ref 61), some (.int x2), some (.int x4)]) (rest := []) (fun f => rfl) ?_
  refine p_X12_to (d := d + 1) x2 x4 I J (t := o) ho ?_
  exact p_X12_nextInput_8 x1 x2 x3 x4 o.1 o.2.1 o.2.2 h hC
theorem p_X12_nextInput_6 {L : Nat} {xs : Nat → Int32} {d : Nat} {Q : xO → Prop} (x1 : Int32) (x2 : Int32) (x3 : Int32) (x4 : Int32) (s0 : Int32) (I : xI) (J : xJ) {t : (Int32 × Int32 × Int32 × Int32 × xI × xJ) ⊕ (Int32 × xI × xJ)} (h : f_X12_nextInput_6 x1 x2 x3 x4 s0 I J = some t) (hC : (c_X12_nextInput_1 L xs d Q) t) : Rn L xs (d + 3) 228 40 [some (.ref 61), some (.int x1), some (.int x2), some (.int x3), some (.int x4)] [.int s0] 94 (I, J, xrf) Q := by
  unfold f_X12_nextInput_6 at h
  refine Rn.fi 1 (c := s0 < 0) (p1 := 82) (l1 := [some (.ref 61), some (.int x1), some (.int x2), some (.int x3), some (.int x4)]) (s1 := []) (n1 := 94) (M1 := (I, J, xrf)) (p2 := 43) (l2 := [some (.ref 61), some (.int x1), some (.int x2), some (.int x3), some (.int x4)]) (s2 := []) (n2 := 94) (M2 := (I, J, xrf)) (fun f => rfl) (fun hc => ?_) (fun hc => ?_)
  · rw [if_pos hc] at h
    exact p_X12_nextInput_12 x1 x2 x3 x4 I J h hC
  · rw [if_neg hc] at h
    exact p_X12_nextInput_7 x1 x2 x3 x4 I J h hC
theorem p_X12_nextInput_5 {L : Nat} {xs : Nat → Int32} {d : Nat} {Q : xO → Prop} (x1 : Int32) (x2 : Int32) (x3 : Int32) (x4 : Int32) (I : xI) (J : xJ) {t : (Int32 × Int32 × Int32 × Int32 × xI × xJ) ⊕ (Int32 × xI × xJ)} (h : f_X12_nextInput_5 x1 x2 x3 x4 I J = some t) (hC : (c_X12_nextInput_1 L xs d Q) t) : Rn L xs (d + 3) 228 33 [some (.ref 61), some (.int x1), some (.int x2), some (.int x3), some (.int x4)] [] 94 (I, J, xrf) Q := by
  unfold f_X12_nextInput_5 at h
  refine Rn.go 3 (j' := 228) (pc' := 37) (ls' := [some (.ref 61), some (.int x1), some (.int x2), some (.int x3), some (.int x4)]) (st' := [.int x4, .int x1, .ref 61]) (n' := 94) (M' := (I, J, xrf)) (fun f => rfl) ?_
  obtain ⟨o, ho, h⟩ := Option.bind_eq_some_iff.mp h
  refine Rn.call (d1 := d + 2) (j1 := 210) (ls1 := [some (.ref 61), some (.int x1), some (.int x4)]) (rest := []) (fun f => rfl) ?_
  refine p_X12_to (d := d + 1) x1 x4 I J (t := o) ho ?_
  exact p_X12_nextInput_6 x1 x2 x3 x4 o.1 o.2.1 o.2.2 h hC
theorem p_X12_nextInput_4 {L : Nat} {xs : Nat → Int32} {d : Nat} {Q : xO → Prop} (x1 : Int32) (x2 : Int32) (x3 : Int32) (x4 : Int32) (I : xI) (J : xJ) {t : (Int32 × Int32 × Int32 × Int32 × xI × xJ) ⊕ (Int32 × xI × xJ)} (h : f_X12_nextInput_4 x1 x2 x3 x4 I J = some t) (hC : (c_X12_nextInput_1 L xs d Q) t) : Rn L xs (d + 3) 228 30 [some (.ref 61), some (.int x1), some (.int x2), some (.int x3), some (.int x4)] [] 94 (I, J, xrf) Q := by
  unfold f_X12_nextInput_4 at h
  refine Rn.go 1 (j' := 228) (pc' := 82) (ls' := [some (.ref 61), some (.int x1), some (.int x2), some (.int x3), some (.int x4)]) (st' := []) (n' := 94) (M' := (I, J, xrf)) (fun f => rfl) ?_
  exact p_X12_nextInput_12 x1 x2 x3 x4 I J h hC
theorem p_X12_nextInput_3 {L : Nat} {xs : Nat → Int32} {d : Nat} {Q : xO → Prop} (x1 : Int32) (x2 : Int32) (x3 : Int32) (x4 : Int32) (s0 : Int32) (I : xI) (J : xJ) {t : (Int32 × Int32 × Int32 × Int32 × xI × xJ) ⊕ (Int32 × xI × xJ)} (h : f_X12_nextInput_3 x1 x2 x3 x4 s0 I J = some t) (hC : (c_X12_nextInput_1 L xs d Q) t) : Rn L xs (d + 3) 228 27 [some (.ref 61), some (.int x1), some (.int x2), some (.int x3), some (.int x4)] [.int s0] 94 (I, J, xrf) Q := by
  unfold f_X12_nextInput_3 at h
  refine Rn.fi 1 (c := s0 = 0) (p1 := 30) (l1 := [some (.ref 61), some (.int x1), some (.int x2), some (.int x3), some (.int x4)]) (s1 := []) (n1 := 94) (M1 := (I, J, xrf)) (p2 := 88) (l2 := [some (.ref 61), some (.int x1), some (.int x2), some (.int x3), some (.int x4)]) (s2 := []) (n2 := 94) (M2 := (I, J, xrf)) (fun f => rfl) (fun hc => ?_) (fun hc => ?_)
  · rw [if_pos hc] at h
    exact p_X12_nextInput_4 x1 x2 x3 x4 I J h hC
  · rw [if_neg hc] at h
    obtain ⟨t0, h0, rfl⟩ := Option.map_eq_some_iff.mp h
    exact p_X12_nextInput_13 x1 x2 x3 x4 I J h0 hC
theorem p_X12_nextInput_2 {L : Nat} {xs : Nat → Int32} {d : Nat} {Q : xO → Prop} (x1 : Int32) (x2 : Int32) (x3 : Int32) (x4 : Int32) (I : xI) (J : xJ) {t : (Int32 × Int32 × Int32 × Int32 × xI × xJ) ⊕ (Int32 × xI × xJ)} (h : f_X12_nextInput_2 x1 x2 x3 x4 I J = some t) (hC : (c_X12_nextInput_1 L xs d Q) t) : Rn L xs (d + 3) 228 19 [some (.ref 61), some (.int x1), some (.int x2), some (.int x3), some (.int x4)] [] 94 (I, J, xrf) Q := by
  unfold f_X12_nextInput_2 at h
  refine Rn.go 4 (j' := 228) (pc' := 24) (ls' := [some (.ref 61), some (.int x1), some (.int x2), some (.int x3), some (.int x4)]) (st' := [.int x4, .int x2, .int x1, .ref 61]) (n' := 94) (M' := (I, J, xrf)) (fun f => rfl) ?_
  obtain ⟨o, ho, h⟩ := Option.bind_eq_some_iff.mp h
  refine Rn.call (d1 := d + 2) (j1 := 224) (ls1 := [some (.ref 61), some (.int x1), some (.int x2), some (.int x4)]) (rest := []) (fun f => rfl) ?_
  refine p_X12_areUnlike (d := d + 0) x1 x2 x4 I J (t := o) ho ?_
  exact p_X12_nextInput_3 x1 x2 x3 x4 o.1 o.2.1 o.2.2 h hC
theorem q_X12_nextInput_1 {L : Nat} {xs : Nat → Int32} {d : Nat} {Q : xO → Prop} (x1 : Int32) (x2 : Int32) (x3 : Int32) (x4 : Int32) (I : xI) (J : xJ) {t : (Int32 × Int32 × Int32 × Int32 × xI × xJ) ⊕ (Int32 × xI × xJ)} (h : b_X12_nextInput_1 x1 x2 x3 x4 I J = some t) (hC : (c_X12_nextInput_1 L xs d Q) t) : Rn L xs (d + 3) 228 15 [some (.ref 61), some (.int x1), some (.int x2), some (.int x3), some (.int x4)] [] 94 (I, J, xrf) Q := by
  unfold b_X12_nextInput_1 at h
  refine Rn.fi 2 (c := x3 = 0) (p1 := 19) (l1 := [some (.ref 61), some (.int x1), some (.int x2), some (.int x3), some (.int x4)]) (s1 := []) (n1 := 94) (M1 := (I, J, xrf)) (p2 := 33) (l2 := [some (.ref 61), some (.int x1), some (.int x2), some (.int x3), some (.int x4)]) (s2 := []) (n2 := 94) (M2 := (I, J, xrf)) (fun f => rfl) (fun hc => ?_) (fun hc => ?_)
  · rw [if_pos hc] at h
    exact p_X12_nextInput_2 x1 x2 x3 x4 I J h hC
  · rw [if_neg hc] at h
    exact p_X12_nextInput_5 x1 x2 x3 x4 I J h hC
theorem p_X12_nextInput_1 {L : Nat} {xs : Nat → Int32} {d : Nat} {Q : xO → Prop} (x1 : Int32) (x2 : Int32) (x3 : Int32) (x4 : Int32) (I : xI) (J : xJ) {t : Int32 × xI × xJ} (h : f_X12_nextInput_1 x1 x2 x3 x4 I J = some t) (hC : (c_X12_nextInput Q) t) : Rn L xs (d + 3) 228 15 [some (.ref 61), some (.int x1), some (.int x2), some (.int x3), some (.int x4)] [] 94 (I, J, xrf) Q := by
  unfold f_X12_nextInput_1 at h
  exact xloop_some (P := fun s : Int32 × Int32 × Int32 × Int32 × xI × xJ => Rn L xs (d + 3) 228 15 [some (.ref 61), some (.int s.1), some (.int s.2.1), some (.int s.2.2.1), some (.int s.2.2.2.1)] [] 94 (s.2.2.2.2.1, s.2.2.2.2.2, xrf) Q) t (fun s ⟨s', hb, hp⟩ => q_X12_nextInput_1 s.1 s.2.1 s.2.2.1 s.2.2.2.1 s.2.2.2.2.1 s.2.2.2.2.2 hb hp) (fun s hb => q_X12_nextInput_1 s.1 s.2.1 s.2.2.1 s.2.2.2.1 s.2.2.2.2.1 s.2.2.2.2.2 hb hC) _ _ h
theorem p_X12_nextInput_0 {L : Nat} {xs : Nat → Int32} {d : Nat} {Q : xO → Prop} (x1 : Int32) (x2 : Int32) (I : xI) (J : xJ) {t : Int32 × xI × xJ} (h : f_X12_nextInput_0 x1 x2 I J = some t) (hC : (c_X12_nextInput Q) t) : Rn L xs (d + 3) 228 0 [some (.ref 61), some (.int x1), some (.int x2), none, none] [] 94 (I, J, xrf) Q := by
  unfold f_X12_nextInput_0 at h
  obtain ⟨hc, h⟩ := xif h
  refine Rn.ok 8 (c := ((6 * x1) + x2) < 0 ∨ 36 ≤ (((6 * x1) + x2)).toNatClampNeg) (p1 := 11) (l1 := [some (.ref 61), some (.int x1), some (.int x2), none, none]) (s1 := [.int ((I 76 (((6 * x1) + x2)).toNatClampNeg))]) (n1 := 94) (M1 := (I, J, xrf)) (fun f => rfl) hc ?_
  refine Rn.go 3 (j' := 228) (pc' := 15) (ls' := [some (.ref 61), some (.int x1), some (.int x2), some (.int ((I 76 (((6 * x1) + x2)).toNatClampNeg))), some (.int 0)]) (st' := []) (n' := 94) (M' := (I, J, xrf)) (fun f => rfl) ?_
  exact p_X12_nextInput_1 x1 x2 ((I 76 (((6 * x1) + x2)).toNatClampNeg)) 0 I J h hC
theorem p_X12_nextInput {L : Nat} {xs : Nat → Int32} {d : Nat} {Q : xO → Prop} (x1 : Int32) (x2 : Int32) (I : xI) (J : xJ) {t : Int32 × xI × xJ} (h : f_X12_nextInput x1 x2 I J = some t) (hC : Q ((some (.int t.1)), 94, (t.2.1, t.2.2, xrf))) : Rn L xs (d + 3) 228 0 [some (.ref 61), some (.int x1), some (.int x2), none, none] [] 94 (I, J, xrf) Q := p_X12_nextInput_0 x1 x2 I J h hC
/-! X12_word -/
def c_X12_word (Q : xO → Prop) (t : Int32 × xI × xJ) : Prop := Q ((some (.int t.1)), 94, (t.2.1, t.2.2, xrf))
def c_X12_word_14 (L : Nat) (xs : Nat → Int32) (d : Nat) (Q : xO → Prop) (t : (Int32 × Int32 × Int32 × Int32 × Int32 × Int32 × Int32 × (Option Value) × (Option Value) × xI × xJ) ⊕ (Int32 × xI × xJ)) : Prop := match t with
  | .inl s => Rn L xs (d + 7) 227 76 [some (.ref 61), some (.int s.1), some (.int s.2.1), some (.int s.2.2.1), some (.int s.2.2.2.1), some (.int s.2.2.2.2.1), some (.int s.2.2.2.2.2.1), some (.int s.2.2.2.2.2.2.1), s.2.2.2.2.2.2.2.1, s.2.2.2.2.2.2.2.2.1] [] 94 (s.2.2.2.2.2.2.2.2.2.1, s.2.2.2.2.2.2.2.2.2.2, xrf) Q
  | .inr t => (c_X12_word Q) t
def f_X12_word_4 (x1 : Int32) (x2 : Int32) (x3 : Int32) (I : xI) (J : xJ) : Option (Int32 × xI × xJ) := some ((-1), I, J)
def f_X12_word_20 (x1 : Int32) (x2 : Int32) (x3 : Int32) (x4 : Int32) (x5 : Int32) (x6 : Int32) (x7 : Int32) (z8 : Option Value) (z9 : Option Value) (s0 : Int32) (I : xI) (J : xJ) : Option (Int32 × xI × xJ) := some (s0, I, J)
def f_X12_word_19 (x1 : Int32) (x2 : Int32) (x3 : Int32) (x4 : Int32) (x5 : Int32) (x6 : Int32) (x7 : Int32) (z8 : Option Value) (z9 : Option Value) (I : xI) (J : xJ) : Option (Int32 × xI × xJ) := (f_X12_nextInput x4 x5 I J).bind fun o => f_X12_word_20 x1 x2 x3 x4 x5 x6 x7 z8 z9 o.1 o.2.1 o.2.2
def f_X12_word_18 (x1 : Int32) (x2 : Int32) (x3 : Int32) (x4 : Int32) (x5 : Int32) (x6 : Int32) (x7 : Int32) (x8 : Int32) (x9 : Int32) (s0 : Int32) (I : xI) (J : xJ) : Option ((Int32 × Int32 × Int32 × Int32 × Int32 × Int32 × Int32 × (Option Value) × (Option Value) × xI × xJ) ⊕ (Int32 × xI × xJ)) := some (.inl (x1, x2, x3, x9, s0, x6, ((x7 + 1)), (some (.int x8)), (some (.int x9)), I, J))
def f_X12_word_17 (x1 : Int32) (x2 : Int32) (x3 : Int32) (x4 : Int32) (x5 : Int32) (x6 : Int32) (x7 : Int32) (x8 : Int32) (z9 : Option Value) (s0 : Int32) (I : xI) (J : xJ) : Option ((Int32 × Int32 × Int32 × Int32 × Int32 × Int32 × Int32 × (Option Value) × (Option Value) × xI × xJ) ⊕ (Int32 × xI × xJ)) := (f_X12_to x5 x8 I J).bind fun o => f_X12_word_18 x1 x2 x3 x4 x5 x6 x7 x8 s0 o.1 o.2.1 o.2.2
def f_X12_word_16 (x1 : Int32) (x2 : Int32) (x3 : Int32) (x4 : Int32) (x5 : Int32) (x6 : Int32) (x7 : Int32) (z8 : Option Value) (z9 : Option Value) (s0 : Int32) (I : xI) (J : xJ) : Option ((Int32 × Int32 × Int32 × Int32 × Int32 × Int32 × Int32 × (Option Value) × (Option Value) × xI × xJ) ⊕ (Int32 × xI × xJ)) := (f_X12_to x4 s0 I J).bind fun o => f_X12_word_17 x1 x2 x3 x4 x5 x6 x7 s0 z9 o.1 o.2.1 o.2.2
def f_X12_word_15 (x1 : Int32) (x2 : Int32) (x3 : Int32) (x4 : Int32) (x5 : Int32) (x6 : Int32) (x7 : Int32) (z8 : Option Value) (z9 : Option Value) (I : xI) (J : xJ) : Option ((Int32 × Int32 × Int32 × Int32 × Int32 × Int32 × Int32 × (Option Value) × (Option Value) × xI × xJ) ⊕ (Int32 × xI × xJ)) := (f_X12_nextInput x4 x5 I J).bind fun o => f_X12_word_16 x1 x2 x3 x4 x5 x6 x7 z8 z9 o.1 o.2.1 o.2.2
def b_X12_word_14 (x1 : Int32) (x2 : Int32) (x3 : Int32) (x4 : Int32) (x5 : Int32) (x6 : Int32) (x7 : Int32) (z8 : Option Value) (z9 : Option Value) (I : xI) (J : xJ) : Option ((Int32 × Int32 × Int32 × Int32 × Int32 × Int32 × Int32 × (Option Value) × (Option Value) × xI × xJ) ⊕ (Int32 × xI × xJ)) := if x3 ≤ x7 then ((f_X12_word_19 x1 x2 x3 x4 x5 x6 x7 z8 z9 I J)).map .inr else f_X12_word_15 x1 x2 x3 x4 x5 x6 x7 z8 z9 I J
def f_X12_word_14 (x1 : Int32) (x2 : Int32) (x3 : Int32) (x4 : Int32) (x5 : Int32) (x6 : Int32) (x7 : Int32) (z8 : Option Value) (z9 : Option Value) (I : xI) (J : xJ) : Option (Int32 × xI × xJ) := xloop (fun s : Int32 × Int32 × Int32 × Int32 × Int32 × Int32 × Int32 × (Option Value) × (Option Value) × xI × xJ => b_X12_word_14 s.1 s.2.1 s.2.2.1 s.2.2.2.1 s.2.2.2.2.1 s.2.2.2.2.2.1 s.2.2.2.2.2.2.1 s.2.2.2.2.2.2.2.1 s.2.2.2.2.2.2.2.2.1 s.2.2.2.2.2.2.2.2.2.1 s.2.2.2.2.2.2.2.2.2.2) 5000 (x1, x2, x3, x4, x5, x6, x7, z8, z9, I, J)
def f_X12_word_13 (x1 : Int32) (x2 : Int32) (x3 : Int32) (x4 : Int32) (x5 : Int32) (x6 : Int32) (I : xI) (J : xJ) : Option (Int32 × xI × xJ) := f_X12_word_14 x1 x2 x3 x4 x5 x6 0 none none I J
def f_X12_word_12 (x1 : Int32) (x2 : Int32) (x3 : Int32) (x4 : Int32) (x5 : Int32) (x6 : Int32) (I : xI) (J : xJ) : Option (Int32 × xI × xJ) := some ((-1), I, J)
def f_X12_word_11 (x1 : Int32) (x2 : Int32) (x3 : Int32) (x4 : Int32) (x5 : Int32) (x6 : Int32) (s0 : Int32) (I : xI) (J : xJ) : Option (Int32 × xI × xJ) := if s0 = 0 then f_X12_word_12 x1 x2 x3 x4 x5 x6 I J else f_X12_word_13 x1 x2 x3 x4 x5 x6 I J
def f_X12_word_10 (x1 : Int32) (x2 : Int32) (x3 : Int32) (x4 : Int32) (x5 : Int32) (x6 : Int32) (I : xI) (J : xJ) : Option (Int32 × xI × xJ) := (f_X12_in x3 0 x6 I J).bind fun o => f_X12_word_11 x1 x2 x3 x4 x5 x6 o.1 o.2.1 o.2.2
def f_X12_word_9 (x1 : Int32) (x2 : Int32) (x3 : Int32) (x4 : Int32) (x5 : Int32) (x6 : Int32) (I : xI) (J : xJ) : Option (Int32 × xI × xJ) := some ((x6 + 1), I, J)
def f_X12_word_8 (x1 : Int32) (x2 : Int32) (x3 : Int32) (x4 : Int32) (x5 : Int32) (x6 : Int32) (I : xI) (J : xJ) : Option (Int32 × xI × xJ) := if x3 = (-1) then f_X12_word_9 x1 x2 x3 x4 x5 x6 I J else f_X12_word_10 x1 x2 x3 x4 x5 x6 I J
def f_X12_word_7 (x1 : Int32) (x2 : Int32) (x3 : Int32) (x4 : Int32) (x5 : Int32) (x6 : Int32) (I : xI) (J : xJ) : Option (Int32 × xI × xJ) := some ((-2), I, J)
def f_X12_word_6 (x1 : Int32) (x2 : Int32) (x3 : Int32) (I : xI) (J : xJ) : Option (Int32 × xI × xJ) := if ((6 * x1) + x2) < 0 ∨ 36 ≤ (((6 * x1) + x2)).toNatClampNeg then none else if 0 ≤ (I 76 (((6 * x1) + x2)).toNatClampNeg) then f_X12_word_8 x1 x2 x3 x1 x2 ((I 76 (((6 * x1) + x2)).toNatClampNeg)) I J else f_X12_word_7 x1 x2 x3 x1 x2 ((I 76 (((6 * x1) + x2)).toNatClampNeg)) I J
def f_X12_word_5 (x1 : Int32) (x2 : Int32) (x3 : Int32) (I : xI) (J : xJ) : Option (Int32 × xI × xJ) := (f_X12_knows I J).bind fun o => f_X12_word_6 x1 x2 x3 o.2.1 o.2.2
def f_X12_word_3 (x1 : Int32) (x2 : Int32) (x3 : Int32) (s0 : Int32) (I : xI) (J : xJ) : Option (Int32 × xI × xJ) := if s0 = 0 then f_X12_word_4 x1 x2 x3 I J else f_X12_word_5 x1 x2 x3 I J
def f_X12_word_2 (x1 : Int32) (x2 : Int32) (x3 : Int32) (I : xI) (J : xJ) : Option (Int32 × xI × xJ) := (f_X12_isState x2 I J).bind fun o => f_X12_word_3 x1 x2 x3 o.1 o.2.1 o.2.2
def f_X12_word_1 (x1 : Int32) (x2 : Int32) (x3 : Int32) (s0 : Int32) (I : xI) (J : xJ) : Option (Int32 × xI × xJ) := if s0 = 0 then f_X12_word_4 x1 x2 x3 I J else f_X12_word_2 x1 x2 x3 I J
def f_X12_word_0 (x1 : Int32) (x2 : Int32) (x3 : Int32) (I : xI) (J : xJ) : Option (Int32 × xI × xJ) := (f_X12_isState x1 I J).bind fun o => f_X12_word_1 x1 x2 x3 o.1 o.2.1 o.2.2
def f_X12_word (x1 : Int32) (x2 : Int32) (x3 : Int32) (I : xI) (J : xJ) : Option (Int32 × xI × xJ) := f_X12_word_0 x1 x2 x3 I J
theorem p_X12_word_4 {L : Nat} {xs : Nat → Int32} {d : Nat} {Q : xO → Prop} (x1 : Int32) (x2 : Int32) (x3 : Int32) (I : xI) (J : xJ) {t : Int32 × xI × xJ} (h : f_X12_word_4 x1 x2 x3 I J = some t) (hC : (c_X12_word Q) t) : Rn L xs (d + 7) 227 16 [some (.ref 61), some (.int x1), some (.int x2), some (.int x3), none, none, none, none, none, none] [] 94 (I, J, xrf) Q := by
  unfold f_X12_word_4 at h
  cases h
  exact Rn.ret 2 (o := ((some (.int ((-1)))), 94, (I, J, xrf))) (fun f => rfl) hC
theorem p_X12_word_20 {L : Nat} {xs : Nat → Int32} {d : Nat} {Q : xO → Prop} (x1 : Int32) (x2 : Int32) (x3 : Int32) (x4 : Int32) (x5 : Int32) (x6 : Int32) (x7 : Int32) (z8 : Option Value) (z9 : Option Value) (s0 : Int32) (I : xI) (J : xJ) {t : Int32 × xI × xJ} (h : f_X12_word_20 x1 x2 x3 x4 x5 x6 x7 z8 z9 s0 I J = some t) (hC : (c_X12_word Q) t) : Rn L xs (d + 7) 227 130 [some (.ref 61), some (.int x1), some (.int x2), some (.int x3), some (.int x4), some (.int x5), some (.int x6), some (.int x7), z8, z9] [.int s0] 94 (I, J, xrf) Q := by
  unfold f_X12_word_20 at h
  cases h
  exact Rn.ret 1 (o := ((some (.int s0)), 94, (I, J, xrf))) (fun f => rfl) hC
theorem p_X12_word_19 {L : Nat} {xs : Nat → Int32} {d : Nat} {Q : xO → Prop} (x1 : Int32) (x2 : Int32) (x3 : Int32) (x4 : Int32) (x5 : Int32) (x6 : Int32) (x7 : Int32) (z8 : Option Value) (z9 : Option Value) (I : xI) (J : xJ) {t : Int32 × xI × xJ} (h : f_X12_word_19 x1 x2 x3 x4 x5 x6 x7 z8 z9 I J = some t) (hC : (c_X12_word Q) t) : Rn L xs (d + 7) 227 122 [some (.ref 61), some (.int x1), some (.int x2), some (.int x3), some (.int x4), some (.int x5), some (.int x6), some (.int x7), z8, z9] [] 94 (I, J, xrf) Q := by
  unfold f_X12_word_19 at h
  refine Rn.go 3 (j' := 227) (pc' := 127) (ls' := [some (.ref 61), some (.int x1), some (.int x2), some (.int x3), some (.int x4), some (.int x5), some (.int x6), some (.int x7), z8, z9]) (st' := [.int x5, .int x4, .ref 61]) (n' := 94) (M' := (I, J, xrf)) (fun f => rfl) ?_
  obtain ⟨o, ho, h⟩ := Option.bind_eq_some_iff.mp h
  refine Rn.call (d1 := d + 6) (j1 := 228) (ls1 := [some (.ref 61), some (.int x4), some (.int x5), none, none]) (rest := []) (fun f => rfl) ?_
  refine p_X12_nextInput (d := d + 3) x4 x5 I J (t := o) ho ?_
  exact p_X12_word_20 x1 x2 x3 x4 x5 x6 x7 z8 z9 o.1 o.2.1 o.2.2 h hC
theorem p_X12_word_18 {L : Nat} {xs : Nat → Int32} {d : Nat} {Q : xO → Prop} (x1 : Int32) (x2 : Int32) (x3 : Int32) (x4 : Int32) (x5 : Int32) (x6 : Int32) (x7 : Int32) (x8 : Int32) (x9 : Int32) (s0 : Int32) (I : xI) (J : xJ) {t : (Int32 × Int32 × Int32 × Int32 × Int32 × Int32 × Int32 × (Option Value) × (Option Value) × xI × xJ) ⊕ (Int32 × xI × xJ)} (h : f_X12_word_18 x1 x2 x3 x4 x5 x6 x7 x8 x9 s0 I J = some t) (hC : (c_X12_word_14 L xs d Q) t) : Rn L xs (d + 7) 227 110 [some (.ref 61), some (.int x1), some (.int x2), some (.int x3), some (.int x4), some (.int x5), some (.int x6), some (.int x7), some (.int x8), some (.int x9)] [.int s0] 94 (I, J, xrf) Q := by
  unfold f_X12_word_18 at h
  refine Rn.go 5 (j' := 227) (pc' := 76) (ls' := [some (.ref 61), some (.int x1), some (.int x2), some (.int x3), some (.int x9), some (.int s0), some (.int x6), some (.int ((x7 + 1))), some (.int x8), some (.int x9)]) (st' := []) (n' := 94) (M' := (I, J, xrf)) (fun f => rfl) ?_
  cases h; exact hC
theorem p_X12_word_17 {L : Nat} {xs : Nat → Int32} {d : Nat} {Q : xO → Prop} (x1 : Int32) (x2 : Int32) (x3 : Int32) (x4 : Int32) (x5 : Int32) (x6 : Int32) (x7 : Int32) (x8 : Int32) (z9 : Option Value) (s0 : Int32) (I : xI) (J : xJ) {t : (Int32 × Int32 × Int32 × Int32 × Int32 × Int32 × Int32 × (Option Value) × (Option Value) × xI × xJ) ⊕ (Int32 × xI × xJ)} (h : f_X12_word_17 x1 x2 x3 x4 x5 x6 x7 x8 z9 s0 I J = some t) (hC : (c_X12_word_14 L xs d Q) t) : Rn L xs (d + 7) 227 100 [some (.ref 61), some (.int x1), some (.int x2), some (.int x3), some (.int x4), some (.int x5), some (.int x6), some (.int x7), some (.int x8), z9] [.int s0] 94 (I, J, xrf) Q := by
  unfold f_X12_word_17 at h
  refine Rn.go 4 (j' := 227) (pc' := 107) (ls' := [some (.ref 61), some (.int x1), some (.int x2), some (.int x3), some (.int x4), some (.int x5), some (.int x6), some (.int x7), some (.int x8), some (.int s0)]) (st' := [.int x8, .int x5, .ref 61]) (n' := 94) (M' := (I, J, xrf)) (fun f => rfl) ?_
  obtain ⟨o, ho, h⟩ := Option.bind_eq_some_iff.mp h
  refine Rn.call (d1 := d + 6) (j1 := 210) (ls1 := [some (.ref 61), some (.int x5), some (.int x8)]) (rest := []) (fun f => rfl) ?_
  refine p_X12_to (d := d + 5) x5 x8 I J (t := o) ho ?_
  exact p_X12_word_18 x1 x2 x3 x4 x5 x6 x7 x8 s0 o.1 o.2.1 o.2.2 h hC
theorem p_X12_word_16 {L : Nat} {xs : Nat → Int32} {d : Nat} {Q : xO → Prop} (x1 : Int32) (x2 : Int32) (x3 : Int32) (x4 : Int32) (x5 : Int32) (x6 : Int32) (x7 : Int32) (z8 : Option Value) (z9 : Option Value) (s0 : Int32) (I : xI) (J : xJ) {t : (Int32 × Int32 × Int32 × Int32 × Int32 × Int32 × Int32 × (Option Value) × (Option Value) × xI × xJ) ⊕ (Int32 × xI × xJ)} (h : f_X12_word_16 x1 x2 x3 x4 x5 x6 x7 z8 z9 s0 I J = some t) (hC : (c_X12_word_14 L xs d Q) t) : Rn L xs (d + 7) 227 90 [some (.ref 61), some (.int x1), some (.int x2), some (.int x3), some (.int x4), some (.int x5), some (.int x6), some (.int x7), z8, z9] [.int s0] 94 (I, J, xrf) Q := by
  unfold f_X12_word_16 at h
  refine Rn.go 4 (j' := 227) (pc' := 97) (ls' := [some (.ref 61), some (.int x1), some (.int x2), some (.int x3), some (.int x4), some (.int x5), some (.int x6), some (.int x7), some (.int s0), z9]) (st' := [.int s0, .int x4, .ref 61]) (n' := 94) (M' := (I, J, xrf)) (fun f => rfl) ?_
  obtain ⟨o, ho, h⟩ := Option.bind_eq_some_iff.mp h
  refine Rn.call (d1 := d + 6) (j1 := 210) (ls1 := [some (.ref 61), some (.int x4), some (.int s0)]) (rest := []) (fun f => rfl) ?_
  refine p_X12_to (d := d + 5) x4 s0 I J (t := o) ho ?_
  exact p_X12_word_17 x1 x2 x3 x4 x5 x6 x7 s0 z9 o.1 o.2.1 o.2.2 h hC
theorem p_X12_word_15 {L : Nat} {xs : Nat → Int32} {d : Nat} {Q : xO → Prop} (x1 : Int32) (x2 : Int32) (x3 : Int32) (x4 : Int32) (x5 : Int32) (x6 : Int32) (x7 : Int32) (z8 : Option Value) (z9 : Option Value) (I : xI) (J : xJ) {t : (Int32 × Int32 × Int32 × Int32 × Int32 × Int32 × Int32 × (Option Value) × (Option Value) × xI × xJ) ⊕ (Int32 × xI × xJ)} (h : f_X12_word_15 x1 x2 x3 x4 x5 x6 x7 z8 z9 I J = some t) (hC : (c_X12_word_14 L xs d Q) t) : Rn L xs (d + 7) 227 82 [some (.ref 61), some (.int x1), some (.int x2), some (.int x3), some (.int x4), some (.int x5), some (.int x6), some (.int x7), z8, z9] [] 94 (I, J, xrf) Q := by
  unfold f_X12_word_15 at h
  refine Rn.go 3 (j' := 227) (pc' := 87) (ls' := [some (.ref 61), some (.int x1), some (.int x2), some (.int x3), some (.int x4), some (.int x5), some (.int x6), some (.int x7), z8, z9]) (st' := [.int x5, .int x4, .ref 61]) (n' := 94) (M' := (I, J, xrf)) (fun f => rfl) ?_
  obtain ⟨o, ho, h⟩ := Option.bind_eq_some_iff.mp h
  refine Rn.call (d1 := d + 6) (j1 := 228) (ls1 := [some (.ref 61), some (.int x4), some (.int x5), none, none]) (rest := []) (fun f => rfl) ?_
  refine p_X12_nextInput (d := d + 3) x4 x5 I J (t := o) ho ?_
  exact p_X12_word_16 x1 x2 x3 x4 x5 x6 x7 z8 z9 o.1 o.2.1 o.2.2 h hC
theorem q_X12_word_14 {L : Nat} {xs : Nat → Int32} {d : Nat} {Q : xO → Prop} (x1 : Int32) (x2 : Int32) (x3 : Int32) (x4 : Int32) (x5 : Int32) (x6 : Int32) (x7 : Int32) (z8 : Option Value) (z9 : Option Value) (I : xI) (J : xJ) {t : (Int32 × Int32 × Int32 × Int32 × Int32 × Int32 × Int32 × (Option Value) × (Option Value) × xI × xJ) ⊕ (Int32 × xI × xJ)} (h : b_X12_word_14 x1 x2 x3 x4 x5 x6 x7 z8 z9 I J = some t) (hC : (c_X12_word_14 L xs d Q) t) : Rn L xs (d + 7) 227 76 [some (.ref 61), some (.int x1), some (.int x2), some (.int x3), some (.int x4), some (.int x5), some (.int x6), some (.int x7), z8, z9] [] 94 (I, J, xrf) Q := by
  unfold b_X12_word_14 at h
  refine Rn.fi 3 (c := x3 ≤ x7) (p1 := 122) (l1 := [some (.ref 61), some (.int x1), some (.int x2), some (.int x3), some (.int x4), some (.int x5), some (.int x6), some (.int x7), z8, z9]) (s1 := []) (n1 := 94) (M1 := (I, J, xrf)) (p2 := 82) (l2 := [some (.ref 61), some (.int x1), some (.int x2), some (.int x3), some (.int x4), some (.int x5), some (.int x6), some (.int x7), z8, z9]) (s2 := []) (n2 := 94) (M2 := (I, J, xrf)) (fun f => rfl) (fun hc => ?_) (fun hc => ?_)
  · rw [if_pos hc] at h
    obtain ⟨t0, h0, rfl⟩ := Option.map_eq_some_iff.mp h
    exact p_X12_word_19 x1 x2 x3 x4 x5 x6 x7 z8 z9 I J h0 hC
  · rw [if_neg hc] at h
    exact p_X12_word_15 x1 x2 x3 x4 x5 x6 x7 z8 z9 I J h hC
theorem p_X12_word_14 {L : Nat} {xs : Nat → Int32} {d : Nat} {Q : xO → Prop} (x1 : Int32) (x2 : Int32) (x3 : Int32) (x4 : Int32) (x5 : Int32) (x6 : Int32) (x7 : Int32) (z8 : Option Value) (z9 : Option Value) (I : xI) (J : xJ) {t : Int32 × xI × xJ} (h : f_X12_word_14 x1 x2 x3 x4 x5 x6 x7 z8 z9 I J = some t) (hC : (c_X12_word Q) t) : Rn L xs (d + 7) 227 76 [some (.ref 61), some (.int x1), some (.int x2), some (.int x3), some (.int x4), some (.int x5), some (.int x6), some (.int x7), z8, z9] [] 94 (I, J, xrf) Q := by
  unfold f_X12_word_14 at h
  exact xloop_some (P := fun s : Int32 × Int32 × Int32 × Int32 × Int32 × Int32 × Int32 × (Option Value) × (Option Value) × xI × xJ => Rn L xs (d + 7) 227 76 [some (.ref 61), some (.int s.1), some (.int s.2.1), some (.int s.2.2.1), some (.int s.2.2.2.1), some (.int s.2.2.2.2.1), some (.int s.2.2.2.2.2.1), some (.int s.2.2.2.2.2.2.1), s.2.2.2.2.2.2.2.1, s.2.2.2.2.2.2.2.2.1] [] 94 (s.2.2.2.2.2.2.2.2.2.1, s.2.2.2.2.2.2.2.2.2.2, xrf) Q) t (fun s ⟨s', hb, hp⟩ => q_X12_word_14 s.1 s.2.1 s.2.2.1 s.2.2.2.1 s.2.2.2.2.1 s.2.2.2.2.2.1 s.2.2.2.2.2.2.1 s.2.2.2.2.2.2.2.1 s.2.2.2.2.2.2.2.2.1 s.2.2.2.2.2.2.2.2.2.1 s.2.2.2.2.2.2.2.2.2.2 hb hp) (fun s hb => q_X12_word_14 s.1 s.2.1 s.2.2.1 s.2.2.2.1 s.2.2.2.2.1 s.2.2.2.2.2.1 s.2.2.2.2.2.2.1 s.2.2.2.2.2.2.2.1 s.2.2.2.2.2.2.2.2.1 s.2.2.2.2.2.2.2.2.2.1 s.2.2.2.2.2.2.2.2.2.2 hb hC) _ _ h
theorem p_X12_word_13 {L : Nat} {xs : Nat → Int32} {d : Nat} {Q : xO → Prop} (x1 : Int32) (x2 : Int32) (x3 : Int32) (x4 : Int32) (x5 : Int32) (x6 : Int32) (I : xI) (J : xJ) {t : Int32 × xI × xJ} (h : f_X12_word_13 x1 x2 x3 x4 x5 x6 I J = some t) (hC : (c_X12_word Q) t) : Rn L xs (d + 7) 227 73 [some (.ref 61), some (.int x1), some (.int x2), some (.int x3), some (.int x4), some (.int x5), some (.int x6), none, none, none] [] 94 (I, J, xrf) Q := by
  unfold f_X12_word_13 at h
  refine Rn.go 2 (j' := 227) (pc' := 76) (ls' := [some (.ref 61), some (.int x1), some (.int x2), some (.int x3), some (.int x4), some (.int x5), some (.int x6), some (.int 0), none, none]) (st' := []) (n' := 94) (M' := (I, J, xrf)) (fun f => rfl) ?_
  exact p_X12_word_14 x1 x2 x3 x4 x5 x6 0 none none I J h hC
theorem p_X12_word_12 {L : Nat} {xs : Nat → Int32} {d : Nat} {Q : xO → Prop} (x1 : Int32) (x2 : Int32) (x3 : Int32) (x4 : Int32) (x5 : Int32) (x6 : Int32) (I : xI) (J : xJ) {t : Int32 × xI × xJ} (h : f_X12_word_12 x1 x2 x3 x4 x5 x6 I J = some t) (hC : (c_X12_word Q) t) : Rn L xs (d + 7) 227 71 [some (.ref 61), some (.int x1), some (.int x2), some (.int x3), some (.int x4), some (.int x5), some (.int x6), none, none, none] [] 94 (I, J, xrf) Q := by
  unfold f_X12_word_12 at h
  cases h
  exact Rn.ret 2 (o := ((some (.int ((-1)))), 94, (I, J, xrf))) (fun f => rfl) hC
theorem p_X12_word_11 {L : Nat} {xs : Nat → Int32} {d : Nat} {Q : xO → Prop} (x1 : Int32) (x2 : Int32) (x3 : Int32) (x4 : Int32) (x5 : Int32) (x6 : Int32) (s0 : Int32) (I : xI) (J : xJ) {t : Int32 × xI × xJ} (h : f_X12_word_11 x1 x2 x3 x4 x5 x6 s0 I J = some t) (hC : (c_X12_word Q) t) : Rn L xs (d + 7) 227 68 [some (.ref 61), some (.int x1), some (.int x2), some (.int x3), some (.int x4), some (.int x5), some (.int x6), none, none, none] [.int s0] 94 (I, J, xrf) Q := by
  unfold f_X12_word_11 at h
  refine Rn.fi 1 (c := s0 = 0) (p1 := 71) (l1 := [some (.ref 61), some (.int x1), some (.int x2), some (.int x3), some (.int x4), some (.int x5), some (.int x6), none, none, none]) (s1 := []) (n1 := 94) (M1 := (I, J, xrf)) (p2 := 73) (l2 := [some (.ref 61), some (.int x1), some (.int x2), some (.int x3), some (.int x4), some (.int x5), some (.int x6), none, none, none]) (s2 := []) (n2 := 94) (M2 := (I, J, xrf)) (fun f => rfl) (fun hc => ?_) (fun hc => ?_)
  · rw [if_pos hc] at h
    exact p_X12_word_12 x1 x2 x3 x4 x5 x6 I J h hC
  · rw [if_neg hc] at h
    exact p_X12_word_13 x1 x2 x3 x4 x5 x6 I J h hC
theorem p_X12_word_10 {L : Nat} {xs : Nat → Int32} {d : Nat} {Q : xO → Prop} (x1 : Int32) (x2 : Int32) (x3 : Int32) (x4 : Int32) (x5 : Int32) (x6 : Int32) (I : xI) (J : xJ) {t : Int32 × xI × xJ} (h : f_X12_word_10 x1 x2 x3 x4 x5 x6 I J = some t) (hC : (c_X12_word Q) t) : Rn L xs (d + 7) 227 61 [some (.ref 61), some (.int x1), some (.int x2), some (.int x3), some (.int x4), some (.int x5), some (.int x6), none, none, none] [] 94 (I, J, xrf) Q := by
  unfold f_X12_word_10 at h
  refine Rn.go 3 (j' := 227) (pc' := 65) (ls' := [some (.ref 61), some (.int x1), some (.int x2), some (.int x3), some (.int x4), some (.int x5), some (.int x6), none, none, none]) (st' := [.int x6, .int 0, .int x3]) (n' := 94) (M' := (I, J, xrf)) (fun f => rfl) ?_
  obtain ⟨o, ho, h⟩ := Option.bind_eq_some_iff.mp h
  refine Rn.call (d1 := d + 6) (j1 := 206) (ls1 := [some (.int x3), some (.int 0), some (.int x6)]) (rest := []) (fun f => rfl) ?_
  refine p_X12_in (d := d + 5) x3 0 x6 I J (t := o) ho ?_
  exact p_X12_word_11 x1 x2 x3 x4 x5 x6 o.1 o.2.1 o.2.2 h hC
theorem p_X12_word_9 {L : Nat} {xs : Nat → Int32} {d : Nat} {Q : xO → Prop} (x1 : Int32) (x2 : Int32) (x3 : Int32) (x4 : Int32) (x5 : Int32) (x6 : Int32) (I : xI) (J : xJ) {t : Int32 × xI × xJ} (h : f_X12_word_9 x1 x2 x3 x4 x5 x6 I J = some t) (hC : (c_X12_word Q) t) : Rn L xs (d + 7) 227 56 [some (.ref 61), some (.int x1), some (.int x2), some (.int x3), some (.int x4), some (.int x5), some (.int x6), none, none, none] [] 94 (I, J, xrf) Q := by
  unfold f_X12_word_9 at h
  cases h
  exact Rn.ret 4 (o := ((some (.int ((x6 + 1)))), 94, (I, J, xrf))) (fun f => rfl) hC
theorem p_X12_word_8 {L : Nat} {xs : Nat → Int32} {d : Nat} {Q : xO → Prop} (x1 : Int32) (x2 : Int32) (x3 : Int32) (x4 : Int32) (x5 : Int32) (x6 : Int32) (I : xI) (J : xJ) {t : Int32 × xI × xJ} (h : f_X12_word_8 x1 x2 x3 x4 x5 x6 I J = some t) (hC : (c_X12_word Q) t) : Rn L xs (d + 7) 227 51 [some (.ref 61), some (.int x1), some (.int x2), some (.int x3), some (.int x4), some (.int x5), some (.int x6), none, none, none] [] 94 (I, J, xrf) Q := by
  unfold f_X12_word_8 at h
  refine Rn.fi 3 (c := x3 = (-1)) (p1 := 56) (l1 := [some (.ref 61), some (.int x1), some (.int x2), some (.int x3), some (.int x4), some (.int x5), some (.int x6), none, none, none]) (s1 := []) (n1 := 94) (M1 := (I, J, xrf)) (p2 := 61) (l2 := [some (.ref 61), some (.int x1), some (.int x2), some (.int x3), some (.int x4), some (.int x5), some (.int x6), none, none, none]) (s2 := []) (n2 := 94) (M2 := (I, J, xrf)) (fun f => rfl) (fun hc => ?_) (fun hc => ?_)
  · rw [if_pos hc] at h
    exact p_X12_word_9 x1 x2 x3 x4 x5 x6 I J h hC
  · rw [if_neg hc] at h
    exact p_X12_word_10 x1 x2 x3 x4 x5 x6 I J h hC
theorem p_X12_word_7 {L : Nat} {xs : Nat → Int32} {d : Nat} {Q : xO → Prop} (x1 : Int32) (x2 : Int32) (x3 : Int32) (x4 : Int32) (x5 : Int32) (x6 : Int32) (I : xI) (J : xJ) {t : Int32 × xI × xJ} (h : f_X12_word_7 x1 x2 x3 x4 x5 x6 I J = some t) (hC : (c_X12_word Q) t) : Rn L xs (d + 7) 227 48 [some (.ref 61), some (.int x1), some (.int x2), some (.int x3), some (.int x4), some (.int x5), some (.int x6), none, none, none] [] 94 (I, J, xrf) Q := by
  unfold f_X12_word_7 at h
  cases h
  exact Rn.ret 2 (o := ((some (.int ((-2)))), 94, (I, J, xrf))) (fun f => rfl) hC
theorem p_X12_word_6 {L : Nat} {xs : Nat → Int32} {d : Nat} {Q : xO → Prop} (x1 : Int32) (x2 : Int32) (x3 : Int32) (I : xI) (J : xJ) {t : Int32 × xI × xJ} (h : f_X12_word_6 x1 x2 x3 I J = some t) (hC : (c_X12_word Q) t) : Rn L xs (d + 7) 227 22 [some (.ref 61), some (.int x1), some (.int x2), some (.int x3), none, none, none, none, none, none] [] 94 (I, J, xrf) Q := by
  unfold f_X12_word_6 at h
  obtain ⟨hc, h⟩ := xif h
  refine Rn.ok 12 (c := ((6 * x1) + x2) < 0 ∨ 36 ≤ (((6 * x1) + x2)).toNatClampNeg) (p1 := 41) (l1 := [some (.ref 61), some (.int x1), some (.int x2), some (.int x3), some (.int x1), some (.int x2), none, none, none, none]) (s1 := [.int ((I 76 (((6 * x1) + x2)).toNatClampNeg))]) (n1 := 94) (M1 := (I, J, xrf)) (fun f => rfl) hc ?_
  refine Rn.fi 3 (c := 0 ≤ (I 76 (((6 * x1) + x2)).toNatClampNeg)) (p1 := 51) (l1 := [some (.ref 61), some (.int x1), some (.int x2), some (.int x3), some (.int x1), some (.int x2), some (.int ((I 76 (((6 * x1) + x2)).toNatClampNeg))), none, none, none]) (s1 := []) (n1 := 94) (M1 := (I, J, xrf)) (p2 := 48) (l2 := [some (.ref 61), some (.int x1), some (.int x2), some (.int x3), some (.int x1), some (.int x2), some (.int ((I 76 (((6 * x1) + x2)).toNatClampNeg))), none, none, none]) (s2 := []) (n2 := 94) (M2 := (I, J, xrf)) (fun f => rfl) (fun hc => ?_) (fun hc => ?_)
  · rw [if_pos hc] at h
    exact p_X12_word_8 x1 x2 x3 x1 x2 ((I 76 (((6 * x1) + x2)).toNatClampNeg)) I J h hC
  · rw [if_neg hc] at h
    exact p_X12_word_7 x1 x2 x3 x1 x2 ((I 76 (((6 * x1) + x2)).toNatClampNeg)) I J h hC
theorem p_X12_word_5 {L : Nat} {xs : Nat → Int32} {d : Nat} {Q : xO → Prop} (x1 : Int32) (x2 : Int32) (x3 : Int32) (I : xI) (J : xJ) {t : Int32 × xI × xJ} (h : f_X12_word_5 x1 x2 x3 I J = some t) (hC : (c_X12_word Q) t) : Rn L xs (d + 7) 227 18 [some (.ref 61), some (.int x1), some (.int x2), some (.int x3), none, none, none, none, none, none] [] 94 (I, J, xrf) Q := by
  unfold f_X12_word_5 at h
  refine Rn.go 1 (j' := 227) (pc' := 19) (ls' := [some (.ref 61), some (.int x1), some (.int x2), some (.int x3), none, none, none, none, none, none]) (st' := [.ref 61]) (n' := 94) (M' := (I, J, xrf)) (fun f => rfl) ?_
  obtain ⟨o, ho, h⟩ := Option.bind_eq_some_iff.mp h
  refine Rn.call (d1 := d + 6) (j1 := 223) (ls1 := [some (.ref 61)]) (rest := []) (fun f => rfl) ?_
  refine p_X12_knows (d := d + 0) I J (t := o) ho ?_
  exact p_X12_word_6 x1 x2 x3 o.2.1 o.2.2 h hC
theorem p_X12_word_3 {L : Nat} {xs : Nat → Int32} {d : Nat} {Q : xO → Prop} (x1 : Int32) (x2 : Int32) (x3 : Int32) (s0 : Int32) (I : xI) (J : xJ) {t : Int32 × xI × xJ} (h : f_X12_word_3 x1 x2 x3 s0 I J = some t) (hC : (c_X12_word Q) t) : Rn L xs (d + 7) 227 13 [some (.ref 61), some (.int x1), some (.int x2), some (.int x3), none, none, none, none, none, none] [.int s0] 94 (I, J, xrf) Q := by
  unfold f_X12_word_3 at h
  refine Rn.fi 1 (c := s0 = 0) (p1 := 16) (l1 := [some (.ref 61), some (.int x1), some (.int x2), some (.int x3), none, none, none, none, none, none]) (s1 := []) (n1 := 94) (M1 := (I, J, xrf)) (p2 := 18) (l2 := [some (.ref 61), some (.int x1), some (.int x2), some (.int x3), none, none, none, none, none, none]) (s2 := []) (n2 := 94) (M2 := (I, J, xrf)) (fun f => rfl) (fun hc => ?_) (fun hc => ?_)
  · rw [if_pos hc] at h
    exact p_X12_word_4 x1 x2 x3 I J h hC
  · rw [if_neg hc] at h
    exact p_X12_word_5 x1 x2 x3 I J h hC
theorem p_X12_word_2 {L : Nat} {xs : Nat → Int32} {d : Nat} {Q : xO → Prop} (x1 : Int32) (x2 : Int32) (x3 : Int32) (I : xI) (J : xJ) {t : Int32 × xI × xJ} (h : f_X12_word_2 x1 x2 x3 I J = some t) (hC : (c_X12_word Q) t) : Rn L xs (d + 7) 227 8 [some (.ref 61), some (.int x1), some (.int x2), some (.int x3), none, none, none, none, none, none] [] 94 (I, J, xrf) Q := by
  unfold f_X12_word_2 at h
  refine Rn.go 2 (j' := 227) (pc' := 10) (ls' := [some (.ref 61), some (.int x1), some (.int x2), some (.int x3), none, none, none, none, none, none]) (st' := [.int x2, .ref 61]) (n' := 94) (M' := (I, J, xrf)) (fun f => rfl) ?_
  obtain ⟨o, ho, h⟩ := Option.bind_eq_some_iff.mp h
  refine Rn.call (d1 := d + 6) (j1 := 207) (ls1 := [some (.ref 61), some (.int x2)]) (rest := []) (fun f => rfl) ?_
  refine p_X12_isState (d := d + 4) x2 I J (t := o) ho ?_
  exact p_X12_word_3 x1 x2 x3 o.1 o.2.1 o.2.2 h hC
theorem p_X12_word_1 {L : Nat} {xs : Nat → Int32} {d : Nat} {Q : xO → Prop} (x1 : Int32) (x2 : Int32) (x3 : Int32) (s0 : Int32) (I : xI) (J : xJ) {t : Int32 × xI × xJ} (h : f_X12_word_1 x1 x2 x3 s0 I J = some t) (hC : (c_X12_word Q) t) : Rn L xs (d + 7) 227 5 [some (.ref 61), some (.int x1), some (.int x2), some (.int x3), none, none, none, none, none, none] [.int s0] 94 (I, J, xrf) Q := by
  unfold f_X12_word_1 at h
  refine Rn.fi 1 (c := s0 = 0) (p1 := 16) (l1 := [some (.ref 61), some (.int x1), some (.int x2), some (.int x3), none, none, none, none, none, none]) (s1 := []) (n1 := 94) (M1 := (I, J, xrf)) (p2 := 8) (l2 := [some (.ref 61), some (.int x1), some (.int x2), some (.int x3), none, none, none, none, none, none]) (s2 := []) (n2 := 94) (M2 := (I, J, xrf)) (fun f => rfl) (fun hc => ?_) (fun hc => ?_)
  · rw [if_pos hc] at h
    exact p_X12_word_4 x1 x2 x3 I J h hC
  · rw [if_neg hc] at h
    exact p_X12_word_2 x1 x2 x3 I J h hC
theorem p_X12_word_0 {L : Nat} {xs : Nat → Int32} {d : Nat} {Q : xO → Prop} (x1 : Int32) (x2 : Int32) (x3 : Int32) (I : xI) (J : xJ) {t : Int32 × xI × xJ} (h : f_X12_word_0 x1 x2 x3 I J = some t) (hC : (c_X12_word Q) t) : Rn L xs (d + 7) 227 0 [some (.ref 61), some (.int x1), some (.int x2), some (.int x3), none, none, none, none, none, none] [] 94 (I, J, xrf) Q := by
  unfold f_X12_word_0 at h
  refine Rn.go 2 (j' := 227) (pc' := 2) (ls' := [some (.ref 61), some (.int x1), some (.int x2), some (.int x3), none, none, none, none, none, none]) (st' := [.int x1, .ref 61]) (n' := 94) (M' := (I, J, xrf)) (fun f => rfl) ?_
  obtain ⟨o, ho, h⟩ := Option.bind_eq_some_iff.mp h
  refine Rn.call (d1 := d + 6) (j1 := 207) (ls1 := [some (.ref 61), some (.int x1)]) (rest := []) (fun f => rfl) ?_
  refine p_X12_isState (d := d + 4) x1 I J (t := o) ho ?_
  exact p_X12_word_1 x1 x2 x3 o.1 o.2.1 o.2.2 h hC
theorem p_X12_word {L : Nat} {xs : Nat → Int32} {d : Nat} {Q : xO → Prop} (x1 : Int32) (x2 : Int32) (x3 : Int32) (I : xI) (J : xJ) {t : Int32 × xI × xJ} (h : f_X12_word x1 x2 x3 I J = some t) (hC : Q ((some (.int t.1)), 94, (t.2.1, t.2.2, xrf))) : Rn L xs (d + 7) 227 0 [some (.ref 61), some (.int x1), some (.int x2), some (.int x3), none, none, none, none, none, none] [] 94 (I, J, xrf) Q := p_X12_word_0 x1 x2 x3 I J h hC
/-! X12_isWord -/
def c_X12_isWord (Q : xO → Prop) (t : Int32 × xI × xJ) : Prop := Q ((some (.int t.1)), 94, (t.2.1, t.2.2, xrf))
def c_X12_isWord_6 (L : Nat) (xs : Nat → Int32) (d : Nat) (Q : xO → Prop) (t : (Int32 × Int32 × Int32 × xI × xJ) ⊕ (Int32 × xI × xJ)) : Prop := match t with
  | .inl s => Rn L xs (d + 2) 230 26 [some (.ref 61), some (.int s.1), some (.int s.2.1), some (.int s.2.2.1)] [] 94 (s.2.2.2.1, s.2.2.2.2, xrf) Q
  | .inr t => (c_X12_isWord Q) t
def f_X12_isWord_4 (x1 : Int32) (x2 : Int32) (I : xI) (J : xJ) : Option (Int32 × xI × xJ) := some (0, I, J)
def f_X12_isWord_10 (x1 : Int32) (x2 : Int32) (x3 : Int32) (I : xI) (J : xJ) : Option (Int32 × xI × xJ) := some (1, I, J)
def f_X12_isWord_9 (x1 : Int32) (x2 : Int32) (x3 : Int32) (I : xI) (J : xJ) : Option ((Int32 × Int32 × Int32 × xI × xJ) ⊕ (Int32 × xI × xJ)) := some (.inl (x1, x2, ((x3 + 1)), I, J))
def f_X12_isWord_8 (x1 : Int32) (x2 : Int32) (x3 : Int32) (I : xI) (J : xJ) : Option (Int32 × xI × xJ) := some (0, I, J)
def f_X12_isWord_7 (x1 : Int32) (x2 : Int32) (x3 : Int32) (I : xI) (J : xJ) : Option ((Int32 × Int32 × Int32 × xI × xJ) ⊕ (Int32 × xI × xJ)) := if ((x1 >>> ((2 * x3) &&& 31)) &&& 3) < (I 61 18) then f_X12_isWord_9 x1 x2 x3 I J else ((f_X12_isWord_8 x1 x2 x3 I J)).map .inr
def b_X12_isWord_6 (x1 : Int32) (x2 : Int32) (x3 : Int32) (I : xI) (J : xJ) : Option ((Int32 × Int32 × Int32 × xI × xJ) ⊕ (Int32 × xI × xJ)) := if x2 ≤ x3 then ((f_X12_isWord_10 x1 x2 x3 I J)).map .inr else f_X12_isWord_7 x1 x2 x3 I J
def f_X12_isWord_6 (x1 : Int32) (x2 : Int32) (x3 : Int32) (I : xI) (J : xJ) : Option (Int32 × xI × xJ) := xloop (fun s : Int32 × Int32 × Int32 × xI × xJ => b_X12_isWord_6 s.1 s.2.1 s.2.2.1 s.2.2.2.1 s.2.2.2.2) 5000 (x1, x2, x3, I, J)
def f_X12_isWord_5 (x1 : Int32) (x2 : Int32) (I : xI) (J : xJ) : Option (Int32 × xI × xJ) := f_X12_isWord_6 x1 x2 0 I J
def f_X12_isWord_3 (x1 : Int32) (x2 : Int32) (I : xI) (J : xJ) : Option (Int32 × xI × xJ) := if (x1 >>> ((2 * x2) &&& 31)) = 0 then f_X12_isWord_5 x1 x2 I J else f_X12_isWord_4 x1 x2 I J
def f_X12_isWord_2 (x1 : Int32) (x2 : Int32) (I : xI) (J : xJ) : Option (Int32 × xI × xJ) := if x1 < 0 then f_X12_isWord_4 x1 x2 I J else f_X12_isWord_3 x1 x2 I J
def f_X12_isWord_1 (x1 : Int32) (x2 : Int32) (s0 : Int32) (I : xI) (J : xJ) : Option (Int32 × xI × xJ) := if s0 = 0 then f_X12_isWord_4 x1 x2 I J else f_X12_isWord_2 x1 x2 I J
def f_X12_isWord_0 (x1 : Int32) (x2 : Int32) (I : xI) (J : xJ) : Option (Int32 × xI × xJ) := (f_X12_in x2 0 8 I J).bind fun o => f_X12_isWord_1 x1 x2 o.1 o.2.1 o.2.2
def f_X12_isWord (x1 : Int32) (x2 : Int32) (I : xI) (J : xJ) : Option (Int32 × xI × xJ) := f_X12_isWord_0 x1 x2 I J
theorem p_X12_isWord_4 {L : Nat} {xs : Nat → Int32} {d : Nat} {Q : xO → Prop} (x1 : Int32) (x2 : Int32) (I : xI) (J : xJ) {t : Int32 × xI × xJ} (h : f_X12_isWord_4 x1 x2 I J = some t) (hC : (c_X12_isWord Q) t) : Rn L xs (d + 2) 230 22 [some (.ref 61), some (.int x1), some (.int x2), none] [] 94 (I, J, xrf) Q := by
  unfold f_X12_isWord_4 at h
  cases h
  exact Rn.ret 2 (o := ((some (.int 0)), 94, (I, J, xrf))) (fun f => rfl) hC
theorem p_X12_isWord_10 {L : Nat} {xs : Nat → Int32} {d : Nat} {Q : xO → Prop} (x1 : Int32) (x2 : Int32) (x3 : Int32) (I : xI) (J : xJ) {t : Int32 × xI × xJ} (h : f_X12_isWord_10 x1 x2 x3 I J = some t) (hC : (c_X12_isWord Q) t) : Rn L xs (d + 2) 230 53 [some (.ref 61), some (.int x1), some (.int x2), some (.int x3)] [] 94 (I, J, xrf) Q := by
  unfold f_X12_isWord_10 at h
  cases h
  exact Rn.ret 2 (o := ((some (.int 1)), 94, (I, J, xrf))) (fun f => rfl) hC
theorem p_X12_isWord_9 {L : Nat} {xs : Nat → Int32} {d : Nat} {Q : xO → Prop} (x1 : Int32) (x2 : Int32) (x3 : Int32) (I : xI) (J : xJ) {t : (Int32 × Int32 × Int32 × xI × xJ) ⊕ (Int32 × xI × xJ)} (h : f_X12_isWord_9 x1 x2 x3 I J = some t) (hC : (c_X12_isWord_6 L xs d Q) t) : Rn L xs (d + 2) 230 47 [some (.ref 61), some (.int x1), some (.int x2), some (.int x3)] [] 94 (I, J, xrf) Q := by
  unfold f_X12_isWord_9 at h
  refine Rn.go 2 (j' := 230) (pc' := 26) (ls' := [some (.ref 61), some (.int x1), some (.int x2), some (.int ((x3 + 1)))]) (st' := []) (n' := 94) (M' := (I, J, xrf)) (fun f => rfl) ?_
  cases h; exact hC
theorem p_X12_isWord_8 {L : Nat} {xs : Nat → Int32} {d : Nat} {Q : xO → Prop} (x1 : Int32) (x2 : Int32) (x3 : Int32) (I : xI) (J : xJ) {t : Int32 × xI × xJ} (h : f_X12_isWord_8 x1 x2 x3 I J = some t) (hC : (c_X12_isWord Q) t) : Rn L xs (d + 2) 230 45 [some (.ref 61), some (.int x1), some (.int x2), some (.int x3)] [] 94 (I, J, xrf) Q := by
  unfold f_X12_isWord_8 at h
  cases h
  exact Rn.ret 2 (o := ((some (.int 0)), 94, (I, J, xrf))) (fun f => rfl) hC
theorem p_X12_isWord_7 {L : Nat} {xs : Nat → Int32} {d : Nat} {Q : xO → Prop} (x1 : Int32) (x2 : Int32) (x3 : Int32) (I : xI) (J : xJ) {t : (Int32 × Int32 × Int32 × xI × xJ) ⊕ (Int32 × xI × xJ)} (h : f_X12_isWord_7 x1 x2 x3 I J = some t) (hC : (c_X12_isWord_6 L xs d Q) t) : Rn L xs (d + 2) 230 31 [some (.ref 61), some (.int x1), some (.int x2), some (.int x3)] [] 94 (I, J, xrf) Q := by
  unfold f_X12_isWord_7 at h
  refine Rn.fi 10 (c := ((x1 >>> ((2 * x3) &&& 31)) &&& 3) < (I 61 18)) (p1 := 47) (l1 := [some (.ref 61), some (.int x1), some (.int x2), some (.int x3)]) (s1 := []) (n1 := 94) (M1 := (I, J, xrf)) (p2 := 45) (l2 := [some (.ref 61), some (.int x1), some (.int x2), some (.int x3)]) (s2 := []) (n2 := 94) (M2 := (I, J, xrf)) (fun f => rfl) (fun hc => ?_) (fun hc => ?_)
  · rw [if_pos hc] at h
    exact p_X12_isWord_9 x1 x2 x3 I J h hC
  · rw [if_neg hc] at h
    obtain ⟨t0, h0, rfl⟩ := Option.map_eq_some_iff.mp h
    exact p_X12_isWord_8 x1 x2 x3 I J h0 hC
theorem q_X12_isWord_6 {L : Nat} {xs : Nat → Int32} {d : Nat} {Q : xO → Prop} (x1 : Int32) (x2 : Int32) (x3 : Int32) (I : xI) (J : xJ) {t : (Int32 × Int32 × Int32 × xI × xJ) ⊕ (Int32 × xI × xJ)} (h : b_X12_isWord_6 x1 x2 x3 I J = some t) (hC : (c_X12_isWord_6 L xs d Q) t) : Rn L xs (d + 2) 230 26 [some (.ref 61), some (.int x1), some (.int x2), some (.int x3)] [] 94 (I, J, xrf) Q := by
  unfold b_X12_isWord_6 at h
  refine Rn.fi 3 (c := x2 ≤ x3) (p1 := 53) (l1 := [some (.ref 61), some (.int x1), some (.int x2), some (.int x3)]) (s1 := []) (n1 := 94) (M1 := (I, J, xrf)) (p2 := 31) (l2 := [some (.ref 61), some (.int x1), some (.int x2), some (.int x3)]) (s2 := []) (n2 := 94) (M2 := (I, J, xrf)) (fun f => rfl) (fun hc => ?_) (fun hc => ?_)
  · rw [if_pos hc] at h
    obtain ⟨t0, h0, rfl⟩ := Option.map_eq_some_iff.mp h
    exact p_X12_isWord_10 x1 x2 x3 I J h0 hC
  · rw [if_neg hc] at h
    exact p_X12_isWord_7 x1 x2 x3 I J h hC
theorem p_X12_isWord_6 {L : Nat} {xs : Nat → Int32} {d : Nat} {Q : xO → Prop} (x1 : Int32) (x2 : Int32) (x3 : Int32) (I : xI) (J : xJ) {t : Int32 × xI × xJ} (h : f_X12_isWord_6 x1 x2 x3 I J = some t) (hC : (c_X12_isWord Q) t) : Rn L xs (d + 2) 230 26 [some (.ref 61), some (.int x1), some (.int x2), some (.int x3)] [] 94 (I, J, xrf) Q := by
  unfold f_X12_isWord_6 at h
  exact xloop_some (P := fun s : Int32 × Int32 × Int32 × xI × xJ => Rn L xs (d + 2) 230 26 [some (.ref 61), some (.int s.1), some (.int s.2.1), some (.int s.2.2.1)] [] 94 (s.2.2.2.1, s.2.2.2.2, xrf) Q) t (fun s ⟨s', hb, hp⟩ => q_X12_isWord_6 s.1 s.2.1 s.2.2.1 s.2.2.2.1 s.2.2.2.2 hb hp) (fun s hb => q_X12_isWord_6 s.1 s.2.1 s.2.2.1 s.2.2.2.1 s.2.2.2.2 hb hC) _ _ h
theorem p_X12_isWord_5 {L : Nat} {xs : Nat → Int32} {d : Nat} {Q : xO → Prop} (x1 : Int32) (x2 : Int32) (I : xI) (J : xJ) {t : Int32 × xI × xJ} (h : f_X12_isWord_5 x1 x2 I J = some t) (hC : (c_X12_isWord Q) t) : Rn L xs (d + 2) 230 24 [some (.ref 61), some (.int x1), some (.int x2), none] [] 94 (I, J, xrf) Q := by
  unfold f_X12_isWord_5 at h
  refine Rn.go 2 (j' := 230) (pc' := 26) (ls' := [some (.ref 61), some (.int x1), some (.int x2), some (.int 0)]) (st' := []) (n' := 94) (M' := (I, J, xrf)) (fun f => rfl) ?_
  exact p_X12_isWord_6 x1 x2 0 I J h hC
theorem p_X12_isWord_3 {L : Nat} {xs : Nat → Int32} {d : Nat} {Q : xO → Prop} (x1 : Int32) (x2 : Int32) (I : xI) (J : xJ) {t : Int32 × xI × xJ} (h : f_X12_isWord_3 x1 x2 I J = some t) (hC : (c_X12_isWord Q) t) : Rn L xs (d + 2) 230 14 [some (.ref 61), some (.int x1), some (.int x2), none] [] 94 (I, J, xrf) Q := by
  unfold f_X12_isWord_3 at h
  refine Rn.fi 6 (c := (x1 >>> ((2 * x2) &&& 31)) = 0) (p1 := 24) (l1 := [some (.ref 61), some (.int x1), some (.int x2), none]) (s1 := []) (n1 := 94) (M1 := (I, J, xrf)) (p2 := 22) (l2 := [some (.ref 61), some (.int x1), some (.int x2), none]) (s2 := []) (n2 := 94) (M2 := (I, J, xrf)) (fun f => rfl) (fun hc => ?_) (fun hc => ?_)
  · rw [if_pos hc] at h
    exact p_X12_isWord_5 x1 x2 I J h hC
  · rw [if_neg hc] at h
    exact p_X12_isWord_4 x1 x2 I J h hC
theorem p_X12_isWord_2 {L : Nat} {xs : Nat → Int32} {d : Nat} {Q : xO → Prop} (x1 : Int32) (x2 : Int32) (I : xI) (J : xJ) {t : Int32 × xI × xJ} (h : f_X12_isWord_2 x1 x2 I J = some t) (hC : (c_X12_isWord Q) t) : Rn L xs (d + 2) 230 10 [some (.ref 61), some (.int x1), some (.int x2), none] [] 94 (I, J, xrf) Q := by
  unfold f_X12_isWord_2 at h
  refine Rn.fi 2 (c := x1 < 0) (p1 := 22) (l1 := [some (.ref 61), some (.int x1), some (.int x2), none]) (s1 := []) (n1 := 94) (M1 := (I, J, xrf)) (p2 := 14) (l2 := [some (.ref 61), some (.int x1), some (.int x2), none]) (s2 := []) (n2 := 94) (M2 := (I, J, xrf)) (fun f => rfl) (fun hc => ?_) (fun hc => ?_)
  · rw [if_pos hc] at h
    exact p_X12_isWord_4 x1 x2 I J h hC
  · rw [if_neg hc] at h
    exact p_X12_isWord_3 x1 x2 I J h hC
theorem p_X12_isWord_1 {L : Nat} {xs : Nat → Int32} {d : Nat} {Q : xO → Prop} (x1 : Int32) (x2 : Int32) (s0 : Int32) (I : xI) (J : xJ) {t : Int32 × xI × xJ} (h : f_X12_isWord_1 x1 x2 s0 I J = some t) (hC : (c_X12_isWord Q) t) : Rn L xs (d + 2) 230 7 [some (.ref 61), some (.int x1), some (.int x2), none] [.int s0] 94 (I, J, xrf) Q := by
  unfold f_X12_isWord_1 at h
  refine Rn.fi 1 (c := s0 = 0) (p1 := 22) (l1 := [some (.ref 61), some (.int x1), some (.int x2), none]) (s1 := []) (n1 := 94) (M1 := (I, J, xrf)) (p2 := 10) (l2 := [some (.ref 61), some (.int x1), some (.int x2), none]) (s2 := []) (n2 := 94) (M2 := (I, J, xrf)) (fun f => rfl) (fun hc => ?_) (fun hc => ?_)
  · rw [if_pos hc] at h
    exact p_X12_isWord_4 x1 x2 I J h hC
  · rw [if_neg hc] at h
    exact p_X12_isWord_2 x1 x2 I J h hC
theorem p_X12_isWord_0 {L : Nat} {xs : Nat → Int32} {d : Nat} {Q : xO → Prop} (x1 : Int32) (x2 : Int32) (I : xI) (J : xJ) {t : Int32 × xI × xJ} (h : f_X12_isWord_0 x1 x2 I J = some t) (hC : (c_X12_isWord Q) t) : Rn L xs (d + 2) 230 0 [some (.ref 61), some (.int x1), some (.int x2), none] [] 94 (I, J, xrf) Q := by
  unfold f_X12_isWord_0 at h
  refine Rn.go 3 (j' := 230) (pc' := 4) (ls' := [some (.ref 61), some (.int x1), some (.int x2), none]) (st' := [.int 8, .int 0, .int x2]) (n' := 94) (M' := (I, J, xrf)) (fun f => rfl) ?_
  obtain ⟨o, ho, h⟩ := Option.bind_eq_some_iff.mp h
  refine Rn.call (d1 := d + 1) (j1 := 206) (ls1 := [some (.int x2), some (.int 0), some (.int 8)]) (rest := []) (fun f => rfl) ?_
  refine p_X12_in (d := d + 0) x2 0 8 I J (t := o) ho ?_
  exact p_X12_isWord_1 x1 x2 o.1 o.2.1 o.2.2 h hC
theorem p_X12_isWord {L : Nat} {xs : Nat → Int32} {d : Nat} {Q : xO → Prop} (x1 : Int32) (x2 : Int32) (I : xI) (J : xJ) {t : Int32 × xI × xJ} (h : f_X12_isWord x1 x2 I J = some t) (hC : Q ((some (.int t.1)), 94, (t.2.1, t.2.2, xrf))) : Rn L xs (d + 2) 230 0 [some (.ref 61), some (.int x1), some (.int x2), none] [] 94 (I, J, xrf) Q := p_X12_isWord_0 x1 x2 I J h hC
/-! X12_doesTell -/
def c_X12_doesTell (Q : xO → Prop) (t : Int32 × xI × xJ) : Prop := Q ((some (.int t.1)), 94, (t.2.1, t.2.2, xrf))
def c_X12_doesTell_1 (L : Nat) (xs : Nat → Int32) (d : Nat) (Q : xO → Prop) (t : (Int32 × Int32 × Int32 × Int32 × Int32 × Int32 × Int32 × (Option Value) × (Option Value) × xI × xJ) ⊕ (Int32 × xI × xJ)) : Prop := match t with
  | .inl s => Rn L xs (d + 3) 229 12 [some (.ref 61), some (.int s.1), some (.int s.2.1), some (.int s.2.2.1), some (.int s.2.2.2.1), some (.int s.2.2.2.2.1), some (.int s.2.2.2.2.2.1), some (.int s.2.2.2.2.2.2.1), s.2.2.2.2.2.2.2.1, s.2.2.2.2.2.2.2.2.1] [] 94 (s.2.2.2.2.2.2.2.2.2.1, s.2.2.2.2.2.2.2.2.2.2, xrf) Q
  | .inr t => (c_X12_doesTell Q) t
def f_X12_doesTell_11 (x1 : Int32) (x2 : Int32) (x3 : Int32) (x4 : Int32) (x5 : Int32) (x6 : Int32) (x7 : Int32) (z8 : Option Value) (z9 : Option Value) (I : xI) (J : xJ) : Option (Int32 × xI × xJ) := some (0, I, J)
def f_X12_doesTell_9 (x1 : Int32) (x2 : Int32) (x3 : Int32) (x4 : Int32) (x5 : Int32) (x6 : Int32) (x7 : Int32) (x8 : Int32) (x9 : Int32) (I : xI) (J : xJ) : Option (Int32 × xI × xJ) := some (0, I, J)
def f_X12_doesTell_10 (x1 : Int32) (x2 : Int32) (x3 : Int32) (x4 : Int32) (x5 : Int32) (x6 : Int32) (x7 : Int32) (x8 : Int32) (x9 : Int32) (I : xI) (J : xJ) : Option ((Int32 × Int32 × Int32 × Int32 × Int32 × Int32 × Int32 × (Option Value) × (Option Value) × xI × xJ) ⊕ (Int32 × xI × xJ)) := some (.inl (x1, x2, x3, x4, x5, x6, ((x7 + Int32.ofInt (-1))), (some (.int x8)), (some (.int x9)), I, J))
def f_X12_doesTell_8 (x1 : Int32) (x2 : Int32) (x3 : Int32) (x4 : Int32) (x5 : Int32) (x6 : Int32) (x7 : Int32) (x8 : Int32) (x9 : Int32) (I : xI) (J : xJ) : Option ((Int32 × Int32 × Int32 × Int32 × Int32 × Int32 × Int32 × (Option Value) × (Option Value) × xI × xJ) ⊕ (Int32 × xI × xJ)) := if 0 ≤ x6 then f_X12_doesTell_10 x1 x2 x3 x4 x5 x6 x7 x8 x9 I J else ((f_X12_doesTell_9 x1 x2 x3 x4 x5 x6 x7 x8 x9 I J)).map .inr
def f_X12_doesTell_7 (x1 : Int32) (x2 : Int32) (x3 : Int32) (x4 : Int32) (x5 : Int32) (x6 : Int32) (x7 : Int32) (x8 : Int32) (x9 : Int32) (s0 : Int32) (I : xI) (J : xJ) : Option ((Int32 × Int32 × Int32 × Int32 × Int32 × Int32 × Int32 × (Option Value) × (Option Value) × xI × xJ) ⊕ (Int32 × xI × xJ)) := if x9 < 0 then ((f_X12_doesTell_9 x1 x2 x3 x4 x9 s0 x7 x8 x9 I J)).map .inr else f_X12_doesTell_8 x1 x2 x3 x4 x9 s0 x7 x8 x9 I J
def f_X12_doesTell_6 (x1 : Int32) (x2 : Int32) (x3 : Int32) (x4 : Int32) (x5 : Int32) (x6 : Int32) (x7 : Int32) (x8 : Int32) (z9 : Option Value) (s0 : Int32) (I : xI) (J : xJ) : Option ((Int32 × Int32 × Int32 × Int32 × Int32 × Int32 × Int32 × (Option Value) × (Option Value) × xI × xJ) ⊕ (Int32 × xI × xJ)) := (f_X12_to x6 x8 I J).bind fun o => f_X12_doesTell_7 x1 x2 x3 x4 x5 x6 x7 x8 s0 o.1 o.2.1 o.2.2
def f_X12_doesTell_5 (x1 : Int32) (x2 : Int32) (x3 : Int32) (x4 : Int32) (x5 : Int32) (x6 : Int32) (x7 : Int32) (x8 : Int32) (z9 : Option Value) (I : xI) (J : xJ) : Option ((Int32 × Int32 × Int32 × Int32 × Int32 × Int32 × Int32 × (Option Value) × (Option Value) × xI × xJ) ⊕ (Int32 × xI × xJ)) := (f_X12_to x5 x8 I J).bind fun o => f_X12_doesTell_6 x1 x2 x3 x4 x5 x6 x7 x8 z9 o.1 o.2.1 o.2.2
def f_X12_doesTell_4 (x1 : Int32) (x2 : Int32) (x3 : Int32) (x4 : Int32) (x5 : Int32) (x6 : Int32) (x7 : Int32) (x8 : Int32) (z9 : Option Value) (I : xI) (J : xJ) : Option (Int32 × xI × xJ) := some (1, I, J)
def f_X12_doesTell_3 (x1 : Int32) (x2 : Int32) (x3 : Int32) (x4 : Int32) (x5 : Int32) (x6 : Int32) (x7 : Int32) (x8 : Int32) (z9 : Option Value) (s0 : Int32) (I : xI) (J : xJ) : Option ((Int32 × Int32 × Int32 × Int32 × Int32 × Int32 × Int32 × (Option Value) × (Option Value) × xI × xJ) ⊕ (Int32 × xI × xJ)) := if s0 = 0 then f_X12_doesTell_5 x1 x2 x3 x4 x5 x6 x7 x8 z9 I J else ((f_X12_doesTell_4 x1 x2 x3 x4 x5 x6 x7 x8 z9 I J)).map .inr
def f_X12_doesTell_2 (x1 : Int32) (x2 : Int32) (x3 : Int32) (x4 : Int32) (x5 : Int32) (x6 : Int32) (x7 : Int32) (z8 : Option Value) (z9 : Option Value) (I : xI) (J : xJ) : Option ((Int32 × Int32 × Int32 × Int32 × Int32 × Int32 × Int32 × (Option Value) × (Option Value) × xI × xJ) ⊕ (Int32 × xI × xJ)) := (f_X12_areUnlike x5 x6 (((x1 >>> ((2 * x7) &&& 31)) &&& 3)) I J).bind fun o => f_X12_doesTell_3 x1 x2 x3 x4 x5 x6 x7 (((x1 >>> ((2 * x7) &&& 31)) &&& 3)) z9 o.1 o.2.1 o.2.2
def b_X12_doesTell_1 (x1 : Int32) (x2 : Int32) (x3 : Int32) (x4 : Int32) (x5 : Int32) (x6 : Int32) (x7 : Int32) (z8 : Option Value) (z9 : Option Value) (I : xI) (J : xJ) : Option ((Int32 × Int32 × Int32 × Int32 × Int32 × Int32 × Int32 × (Option Value) × (Option Value) × xI × xJ) ⊕ (Int32 × xI × xJ)) := if x7 < 0 then ((f_X12_doesTell_11 x1 x2 x3 x4 x5 x6 x7 z8 z9 I J)).map .inr else f_X12_doesTell_2 x1 x2 x3 x4 x5 x6 x7 z8 z9 I J
def f_X12_doesTell_1 (x1 : Int32) (x2 : Int32) (x3 : Int32) (x4 : Int32) (x5 : Int32) (x6 : Int32) (x7 : Int32) (z8 : Option Value) (z9 : Option Value) (I : xI) (J : xJ) : Option (Int32 × xI × xJ) := xloop (fun s : Int32 × Int32 × Int32 × Int32 × Int32 × Int32 × Int32 × (Option Value) × (Option Value) × xI × xJ => b_X12_doesTell_1 s.1 s.2.1 s.2.2.1 s.2.2.2.1 s.2.2.2.2.1 s.2.2.2.2.2.1 s.2.2.2.2.2.2.1 s.2.2.2.2.2.2.2.1 s.2.2.2.2.2.2.2.2.1 s.2.2.2.2.2.2.2.2.2.1 s.2.2.2.2.2.2.2.2.2.2) 5000 (x1, x2, x3, x4, x5, x6, x7, z8, z9, I, J)
def f_X12_doesTell_0 (x1 : Int32) (x2 : Int32) (x3 : Int32) (x4 : Int32) (I : xI) (J : xJ) : Option (Int32 × xI × xJ) := f_X12_doesTell_1 x1 x2 x3 x4 x3 x4 ((x2 - 1)) none none I J
def f_X12_doesTell (x1 : Int32) (x2 : Int32) (x3 : Int32) (x4 : Int32) (I : xI) (J : xJ) : Option (Int32 × xI × xJ) := f_X12_doesTell_0 x1 x2 x3 x4 I J
theorem p_X12_doesTell_11 {L : Nat} {xs : Nat → Int32} {d : Nat} {Q : xO → Prop} (x1 : Int32) (x2 : Int32) (x3 : Int32) (x4 : Int32) (x5 : Int32) (x6 : Int32) (x7 : Int32) (z8 : Option Value) (z9 : Option Value) (I : xI) (J : xJ) {t : Int32 × xI × xJ} (h : f_X12_doesTell_11 x1 x2 x3 x4 x5 x6 x7 z8 z9 I J = some t) (hC : (c_X12_doesTell Q) t) : Rn L xs (d + 3) 229 84 [some (.ref 61), some (.int x1), some (.int x2), some (.int x3), some (.int x4), some (.int x5), some (.int x6), some (.int x7), z8, z9] [] 94 (I, J, xrf) Q := by
  unfold f_X12_doesTell_11 at h
  cases h
  exact Rn.ret 2 (o := ((some (.int 0)), 94, (I, J, xrf))) (fun f => rfl) hC
theorem p_X12_doesTell_9 {L : Nat} {xs : Nat → Int32} {d : Nat} {Q : xO → Prop} (x1 : Int32) (x2 : Int32) (x3 : Int32) (x4 : Int32) (x5 : Int32) (x6 : Int32) (x7 : Int32) (x8 : Int32) (x9 : Int32) (I : xI) (J : xJ) {t : Int32 × xI × xJ} (h : f_X12_doesTell_9 x1 x2 x3 x4 x5 x6 x7 x8 x9 I J = some t) (hC : (c_X12_doesTell Q) t) : Rn L xs (d + 3) 229 76 [some (.ref 61), some (.int x1), some (.int x2), some (.int x3), some (.int x4), some (.int x5), some (.int x6), some (.int x7), some (.int x8), some (.int x9)] [] 94 (I, J, xrf) Q := by
  unfold f_X12_doesTell_9 at h
  cases h
  exact Rn.ret 2 (o := ((some (.int 0)), 94, (I, J, xrf))) (fun f => rfl) hC
theorem p_X12_doesTell_10 {L : Nat} {xs : Nat → Int32} {d : Nat} {Q : xO → Prop} (x1 : Int32) (x2 : Int32) (x3 : Int32) (x4 : Int32) (x5 : Int32) (x6 : Int32) (x7 : Int32) (x8 : Int32) (x9 : Int32) (I : xI) (J : xJ) {t : (Int32 × Int32 × Int32 × Int32 × Int32 × Int32 × Int32 × (Option Value) × (Option Value) × xI × xJ) ⊕ (Int32 × xI × xJ)} (h : f_X12_doesTell_10 x1 x2 x3 x4 x5 x6 x7 x8 x9 I J = some t) (hC : (c_X12_doesTell_1 L xs d Q) t) : Rn L xs (d + 3) 229 78 [some (.ref 61), some (.int x1), some (.int x2), some (.int x3), some (.int x4), some (.int x5), some (.int x6), some (.int x7), some (.int x8), some (.int x9)] [] 94 (I, J, xrf) Q := by
  unfold f_X12_doesTell_10 at h
  refine Rn.go 1 (d' := (d + 3)) (j' := 229) (pc' := 81) (ls' := [some (.ref 61), some (.int x1), some (.int x2), some (.int x3), some (.int x4), some (.int x5), some (.int x6), some (.int ((x7 + Int32.ofInt (-1)))), some (.int x8), some (.int x9)]) (st' := []) (n' := 94) (M' := (I, J, xrf)) (fun f => xrun_iinc 7 (-1) x7 rfl rfl rfl) ?_
  refine Rn.go 1 (j' := 229) (pc' := 12) (ls' := [some (.ref 61), some (.int x1), some (.int x2), some (.int x3), some (.int x4), some (.int x5), some (.int x6), some (.int ((x7 + Int32.ofInt (-1)))), some (.int x8), some (.int x9)]) (st' := []) (n' := 94) (M' := (I, J, xrf)) (fun f => rfl) ?_
  cases h; exact hC
theorem p_X12_doesTell_8 {L : Nat} {xs : Nat → Int32} {d : Nat} {Q : xO → Prop} (x1 : Int32) (x2 : Int32) (x3 : Int32) (x4 : Int32) (x5 : Int32) (x6 : Int32) (x7 : Int32) (x8 : Int32) (x9 : Int32) (I : xI) (J : xJ) {t : (Int32 × Int32 × Int32 × Int32 × Int32 × Int32 × Int32 × (Option Value) × (Option Value) × xI × xJ) ⊕ (Int32 × xI × xJ)} (h : f_X12_doesTell_8 x1 x2 x3 x4 x5 x6 x7 x8 x9 I J = some t) (hC : (c_X12_doesTell_1 L xs d Q) t) : Rn L xs (d + 3) 229 71 [some (.ref 61), some (.int x1), some (.int x2), some (.int x3), some (.int x4), some (.int x5), some (.int x6), some (.int x7), some (.int x8), some (.int x9)] [] 94 (I, J, xrf) Q := by
  unfold f_X12_doesTell_8 at h
  refine Rn.fi 2 (c := 0 ≤ x6) (p1 := 78) (l1 := [some (.ref 61), some (.int x1), some (.int x2), some (.int x3), some (.int x4), some (.int x5), some (.int x6), some (.int x7), some (.int x8), some (.int x9)]) (s1 := []) (n1 := 94) (M1 := (I, J, xrf)) (p2 := 76) (l2 := [some (.ref 61), some (.int x1), some (.int x2), some (.int x3), some (.int x4), some (.int x5), some (.int x6), some (.int x7), some (.int x8), some (.int x9)]) (s2 := []) (n2 := 94) (M2 := (I, J, xrf)) (fun f => rfl) (fun hc => ?_) (fun hc => ?_)
  · rw [if_pos hc] at h
    exact p_X12_doesTell_10 x1 x2 x3 x4 x5 x6 x7 x8 x9 I J h hC
  · rw [if_neg hc] at h
    obtain ⟨t0, h0, rfl⟩ := Option.map_eq_some_iff.mp h
    exact p_X12_doesTell_9 x1 x2 x3 x4 x5 x6 x7 x8 x9 I J h0 hC
theorem p_X12_doesTell_7 {L : Nat} {xs : Nat → Int32} {d : Nat} {Q : xO → Prop} (x1 : Int32) (x2 : Int32) (x3 : Int32) (x4 : Int32) (x5 : Int32) (x6 : Int32) (x7 : Int32) (x8 : Int32) (x9 : Int32) (s0 : Int32) (I : xI) (J : xJ) {t : (Int32 × Int32 × Int32 × Int32 × Int32 × Int32 × Int32 × (Option Value) × (Option Value) × xI × xJ) ⊕ (Int32 × xI × xJ)} (h : f_X12_doesTell_7 x1 x2 x3 x4 x5 x6 x7 x8 x9 s0 I J = some t) (hC : (c_X12_doesTell_1 L xs d Q) t) : Rn L xs (d + 3) 229 60 [some (.ref 61), some (.int x1), some (.int x2), some (.int x3), some (.int x4), some (.int x5), some (.int x6), some (.int x7), some (.int x8), some (.int x9)] [.int s0] 94 (I, J, xrf) Q := by
  unfold f_X12_doesTell_7 at h
  refine Rn.fi 5 (c := x9 < 0) (p1 := 76) (l1 := [some (.ref 61), some (.int x1), some (.int x2), some (.int x3), some (.int x4), some (.int x9), some (.int s0), some (.int x7), some (.int x8), some (.int x9)]) (s1 := []) (n1 := 94) (M1 := (I, J, xrf)) (p2 := 71) (l2 := [some (.ref 61), some (.int x1), some (.int x2), some (.int x3), some (.int x4), some (.int x9), some (.int s0), some (.int x7), some (.int x8), some (.int x9)]) (s2 := []) (n2 := 94) (M2 := (I, J, xrf)) (fun f => rfl) (fun hc => ?_) (fun hc => ?_)
  · rw [if_pos hc] at h
    obtain ⟨t0, h0, rfl⟩ := Option.map_eq_some_iff.mp h
    exact p_X12_doesTell_9 x1 x2 x3 x4 x9 s0 x7 x8 x9 I J h0 hC
  · rw [if_neg hc] at h
    exact p_X12_doesTell_8 x1 x2 x3 x4 x9 s0 x7 x8 x9 I J h hC
theorem p_X12_doesTell_6 {L : Nat} {xs : Nat → Int32} {d : Nat} {Q : xO → Prop} (x1 : Int32) (x2 : Int32) (x3 : Int32) (x4 : Int32) (x5 : Int32) (x6 : Int32) (x7 : Int32) (x8 : Int32) (z9 : Option Value) (s0 : Int32) (I : xI) (J : xJ) {t : (Int32 × Int32 × Int32 × Int32 × Int32 × Int32 × Int32 × (Option Value) × (Option Value) × xI × xJ) ⊕ (Int32 × xI × xJ)} (h : f_X12_doesTell_6 x1 x2 x3 x4 x5 x6 x7 x8 z9 s0 I J = some t) (hC : (c_X12_doesTell_1 L xs d Q) t) : Rn L xs (d + 3) 229 50 [some (.ref 61), some (.int x1), some (.int x2), some (.int x3), some (.int x4), some (.int x5), some (.int x6), some (.int x7), some (.int x8), z9] [.int s0] 94 (I, J, xrf) Q := by
  unfold f_X12_doesTell_6 at h
  refine Rn.go 4 (j' := 229) (pc' := 57) (ls' := [some (.ref 61), some (.int x1), some (.int x2), some (.int x3), some (.int x4), some (.int x5), some (.int x6), some (.int x7), some (.int x8), some (.int s0)]) (st' := [.int x8, .int x6, .ref 61]) (n' := 94) (M' := (I, J, xrf)) (fun f => rfl) ?_
  obtain ⟨o, ho, h⟩ := Option.bind_eq_some_iff.mp h
  refine Rn.call (d1 := d + 2) (j1 := 210) (ls1 := [some (.ref 61), some (.int x6), some (.int x8)]) (rest := []) (fun f => rfl) ?_
  refine p_X12_to (d := d + 1) x6 x8 I J (t := o) ho ?_
  exact p_X12_doesTell_7 x1 x2 x3 x4 x5 x6 x7 x8 s0 o.1 o.2.1 o.2.2 h hC
theorem p_X12_doesTell_5 {L : Nat} {xs : Nat → Int32} {d : Nat} {Q : xO → Prop} (x1 : Int32) (x2 : Int32) (x3 : Int32) (x4 : Int32) (x5 : Int32) (x6 : Int32) (x7 : Int32) (x8 : Int32) (z9 : Option Value) (I : xI) (J : xJ) {t : (Int32 × Int32 × Int32 × Int32 × Int32 × Int32 × Int32 × (Option Value) × (Option Value) × xI × xJ) ⊕ (Int32 × xI × xJ)} (h : f_X12_doesTell_5 x1 x2 x3 x4 x5 x6 x7 x8 z9 I J = some t) (hC : (c_X12_doesTell_1 L xs d Q) t) : Rn L xs (d + 3) 229 42 [some (.ref 61), some (.int x1), some (.int x2), some (.int x3), some (.int x4), some (.int x5), some (.int x6), some (.int x7), some (.int x8), z9] [] 94 (I, J, xrf) Q := by
  unfold f_X12_doesTell_5 at h
  refine Rn.go 3 (j' := 229) (pc' := 47) (ls' := [some (.ref 61), some (.int x1), some (.int x2), some (.int x3), some (.int x4), some (.int x5), some (.int x6), some (.int x7), some (.int x8), z9]) (st' := [.int x8, .int x5, .ref 61]) (n' := 94) (M' := (I, J, xrf)) (fun f => rfl) ?_
  obtain ⟨o, ho, h⟩ := Option.bind_eq_some_iff.mp h
  refine Rn.call (d1 := d + 2) (j1 := 210) (ls1 := [some (.ref 61), some (.int x5), some (.int x8)]) (rest := []) (fun f => rfl) ?_
  refine p_X12_to (d := d + 1) x5 x8 I J (t := o) ho ?_
  exact p_X12_doesTell_6 x1 x2 x3 x4 x5 x6 x7 x8 z9 o.1 o.2.1 o.2.2 h hC
theorem p_X12_doesTell_4 {L : Nat} {xs : Nat → Int32} {d : Nat} {Q : xO → Prop} (x1 : Int32) (x2 : Int32) (x3 : Int32) (x4 : Int32) (x5 : Int32) (x6 : Int32) (x7 : Int32) (x8 : Int32) (z9 : Option Value) (I : xI) (J : xJ) {t : Int32 × xI × xJ} (h : f_X12_doesTell_4 x1 x2 x3 x4 x5 x6 x7 x8 z9 I J = some t) (hC : (c_X12_doesTell Q) t) : Rn L xs (d + 3) 229 40 [some (.ref 61), some (.int x1), some (.int x2), some (.int x3), some (.int x4), some (.int x5), some (.int x6), some (.int x7), some (.int x8), z9] [] 94 (I, J, xrf) Q := by
  unfold f_X12_doesTell_4 at h
  cases h
  exact Rn.ret 2 (o := ((some (.int 1)), 94, (I, J, xrf))) (fun f => rfl) hC
theorem p_X12_doesTell_3 {L : Nat} {xs : Nat → Int32} {d : Nat} {Q : xO → Prop} (x1 : Int32) (x2 : Int32) (x3 : Int32) (x4 : Int32) (x5 : Int32) (x6 : Int32) (x7 : Int32) (x8 : Int32) (z9 : Option Value) (s0 : Int32) (I : xI) (J : xJ) {t : (Int32 × Int32 × Int32 × Int32 × Int32 × Int32 × Int32 × (Option Value) × (Option Value) × xI × xJ) ⊕ (Int32 × xI × xJ)} (h : f_X12_doesTell_3 x1 x2 x3 x4 x5 x6 x7 x8 z9 s0 I J = some t) (hC : (c_X12_doesTell_1 L xs d Q) t) : Rn L xs (d + 3) 229 37 [some (.ref 61), some (.int x1), some (.int x2), some (.int x3), some (.int x4), some (.int x5), some (.int x6), some (.int x7), some (.int x8), z9] [.int s0] 94 (I, J, xrf) Q := by
  unfold f_X12_doesTell_3 at h
  refine Rn.fi 1 (c := s0 = 0) (p1 := 42) (l1 := [some (.ref 61), some (.int x1), some (.int x2), some (.int x3), some (.int x4), some (.int x5), some (.int x6), some (.int x7), some (.int x8), z9]) (s1 := []) (n1 := 94) (M1 := (I, J, xrf)) (p2 := 40) (l2 := [some (.ref 61), some (.int x1), some (.int x2), some (.int x3), some (.int x4), some (.int x5), some (.int x6), some (.int x7), some (.int x8), z9]) (s2 := []) (n2 := 94) (M2 := (I, J, xrf)) (fun f => rfl) (fun hc => ?_) (fun hc => ?_)
  · rw [if_pos hc] at h
    exact p_X12_doesTell_5 x1 x2 x3 x4 x5 x6 x7 x8 z9 I J h hC
  · rw [if_neg hc] at h
    obtain ⟨t0, h0, rfl⟩ := Option.map_eq_some_iff.mp h
    exact p_X12_doesTell_4 x1 x2 x3 x4 x5 x6 x7 x8 z9 I J h0 hC
theorem p_X12_doesTell_2 {L : Nat} {xs : Nat → Int32} {d : Nat} {Q : xO → Prop} (x1 : Int32) (x2 : Int32) (x3 : Int32) (x4 : Int32) (x5 : Int32) (x6 : Int32) (x7 : Int32) (z8 : Option Value) (z9 : Option Value) (I : xI) (J : xJ) {t : (Int32 × Int32 × Int32 × Int32 × Int32 × Int32 × Int32 × (Option Value) × (Option Value) × xI × xJ) ⊕ (Int32 × xI × xJ)} (h : f_X12_doesTell_2 x1 x2 x3 x4 x5 x6 x7 z8 z9 I J = some t) (hC : (c_X12_doesTell_1 L xs d Q) t) : Rn L xs (d + 3) 229 17 [some (.ref 61), some (.int x1), some (.int x2), some (.int x3), some (.int x4), some (.int x5), some (.int x6), some (.int x7), z8, z9] [] 94 (I, J, xrf) Q := by
  unfold f_X12_doesTell_2 at h
  refine Rn.go 12 (j' := 229) (pc' := 34) (ls' := [some (.ref 61), some (.int x1), some (.int x2), some (.int x3), some (.int x4), some (.int x5), some (.int x6), some (.int x7), some (.int (((x1 >>> ((2 * x7) &&& 31)) &&& 3))), z9]) (st' := [.int (((x1 >>> ((2 * x7) &&& 31)) &&& 3)), .int x6, .int x5, .ref 61]) (n' := 94) (M' := (I, J, xrf)) (fun f => rfl) ?_
  obtain ⟨o, ho, h⟩ := Option.bind_eq_some_iff.mp h
  refine Rn.call (d1 := d + 2) (j1 := 224) (ls1 := [some (.ref 61), some (.int x5), some (.int x6), some (.int (((x1 >>> ((2 * x7) &&& 31)) &&& 3)))]) (rest := []) (fun f => rfl) ?_
  refine p_X12_areUnlike (d := d + 0) x5 x6 (((x1 >>> ((2 * x7) &&& 31)) &&& 3)) I J (t := o) ho ?_
  exact p_X12_doesTell_3 x1 x2 x3 x4 x5 x6 x7 (((x1 >>> ((2 * x7) &&& 31)) &&& 3)) z9 o.1 o.2.1 o.2.2 h hC
theorem q_X12_doesTell_1 {L : Nat} {xs : Nat → Int32} {d : Nat} {Q : xO → Prop} (x1 : Int32) (x2 : Int32) (x3 : Int32) (x4 : Int32) (x5 : Int32) (x6 : Int32) (x7 : Int32) (z8 : Option Value) (z9 : Option Value) (I : xI) (J : xJ) {t : (Int32 × Int32 × Int32 × Int32 × Int32 × Int32 × Int32 × (Option Value) × (Option Value) × xI × xJ) ⊕ (Int32 × xI × xJ)} (h : b_X12_doesTell_1 x1 x2 x3 x4 x5 x6 x7 z8 z9 I J = some t) (hC : (c_X12_doesTell_1 L xs d Q) t) : Rn L xs (d + 3) 229 12 [some (.ref 61), some (.int x1), some (.int x2), some (.int x3), some (.int x4), some (.int x5), some (.int x6), some (.int x7), z8, z9] [] 94 (I, J, xrf) Q := by
  unfold b_X12_doesTell_1 at h
  refine Rn.fi 2 (c := x7 < 0) (p1 := 84) (l1 := [some (.ref 61), some (.int x1), some (.int x2), some (.int x3), some (.int x4), some (.int x5), some (.int x6), some (.int x7), z8, z9]) (s1 := []) (n1 := 94) (M1 := (I, J, xrf)) (p2 := 17) (l2 := [some (.ref 61), some (.int x1), some (.int x2), some (.int x3), some (.int x4), some (.int x5), some (.int x6), some (.int x7), z8, z9]) (s2 := []) (n2 := 94) (M2 := (I, J, xrf)) (fun f => rfl) (fun hc => ?_) (fun hc => ?_)
  · rw [if_pos hc] at h
    obtain ⟨t0, h0, rfl⟩ := Option.map_eq_some_iff.mp h
    exact p_X12_doesTell_11 x1 x2 x3 x4 x5 x6 x7 z8 z9 I J h0 hC
  · rw [if_neg hc] at h
    exact p_X12_doesTell_2 x1 x2 x3 x4 x5 x6 x7 z8 z9 I J h hC
theorem p_X12_doesTell_1 {L : Nat} {xs : Nat → Int32} {d : Nat} {Q : xO → Prop} (x1 : Int32) (x2 : Int32) (x3 : Int32) (x4 : Int32) (x5 : Int32) (x6 : Int32) (x7 : Int32) (z8 : Option Value) (z9 : Option Value) (I : xI) (J : xJ) {t : Int32 × xI × xJ} (h : f_X12_doesTell_1 x1 x2 x3 x4 x5 x6 x7 z8 z9 I J = some t) (hC : (c_X12_doesTell Q) t) : Rn L xs (d + 3) 229 12 [some (.ref 61), some (.int x1), some (.int x2), some (.int x3), some (.int x4), some (.int x5), some (.int x6), some (.int x7), z8, z9] [] 94 (I, J, xrf) Q := by
  unfold f_X12_doesTell_1 at h
  exact xloop_some (P := fun s : Int32 × Int32 × Int32 × Int32 × Int32 × Int32 × Int32 × (Option Value) × (Option Value) × xI × xJ => Rn L xs (d + 3) 229 12 [some (.ref 61), some (.int s.1), some (.int s.2.1), some (.int s.2.2.1), some (.int s.2.2.2.1), some (.int s.2.2.2.2.1), some (.int s.2.2.2.2.2.1), some (.int s.2.2.2.2.2.2.1), s.2.2.2.2.2.2.2.1, s.2.2.2.2.2.2.2.2.1] [] 94 (s.2.2.2.2.2.2.2.2.2.1, s.2.2.2.2.2.2.2.2.2.2, xrf) Q) t (fun s ⟨s', hb, hp⟩ => q_X12_doesTell_1 s.1 s.2.1 s.2.2.1 s.2.2.2.1 s.2.2.2.2.1 s.2.2.2.2.2.1 s.2.2.2.2.2.2.1 s.2.2.2.2.2.2.2.1 s.2.2.2.2.2.2.2.2.1 s.2.2.2.2.2.2.2.2.2.1 s.2.2.2.2.2.2.2.2.2.2 hb hp) (fun s hb => q_X12_doesTell_1 s.1 s.2.1 s.2.2.1 s.2.2.2.1 s.2.2.2.2.1 s.2.2.2.2.2.1 s.2.2.2.2.2.2.1 s.2.2.2.2.2.2.2.1 s.2.2.2.2.2.2.2.2.1 s.2.2.2.2.2.2.2.2.2.1 s.2.2.2.2.2.2.2.2.2.2 hb hC) _ _ h
theorem p_X12_doesTell_0 {L : Nat} {xs : Nat → Int32} {d : Nat} {Q : xO → Prop} (x1 : Int32) (x2 : Int32) (x3 : Int32) (x4 : Int32) (I : xI) (J : xJ) {t : Int32 × xI × xJ} (h : f_X12_doesTell_0 x1 x2 x3 x4 I J = some t) (hC : (c_X12_doesTell Q) t) : Rn L xs (d + 3) 229 0 [some (.ref 61), some (.int x1), some (.int x2), some (.int x3), some (.int x4), none, none, none, none, none] [] 94 (I, J, xrf) Q := by
  unfold f_X12_doesTell_0 at h
  refine Rn.go 8 (j' := 229) (pc' := 12) (ls' := [some (.ref 61), some (.int x1), some (.int x2), some (.int x3), some (.int x4), some (.int x3), some (.int x4), some (.int ((x2 - 1))), none, none]) (st' := []) (n' := 94) (M' := (I, J, xrf)) (fun f => rfl) ?_
  exact p_X12_doesTell_1 x1 x2 x3 x4 x3 x4 ((x2 - 1)) none none I J h hC
theorem p_X12_doesTell {L : Nat} {xs : Nat → Int32} {d : Nat} {Q : xO → Prop} (x1 : Int32) (x2 : Int32) (x3 : Int32) (x4 : Int32) (I : xI) (J : xJ) {t : Int32 × xI × xJ} (h : f_X12_doesTell x1 x2 x3 x4 I J = some t) (hC : Q ((some (.int t.1)), 94, (t.2.1, t.2.2, xrf))) : Rn L xs (d + 3) 229 0 [some (.ref 61), some (.int x1), some (.int x2), some (.int x3), some (.int x4), none, none, none, none, none] [] 94 (I, J, xrf) Q := p_X12_doesTell_0 x1 x2 x3 x4 I J h hC
/-! X12_doesShow -/
def c_X12_doesShow (Q : xO → Prop) (t : Int32 × xI × xJ) : Prop := Q ((some (.int t.1)), 94, (t.2.1, t.2.2, xrf))
def c_X12_doesShow_1 (L : Nat) (xs : Nat → Int32) (d : Nat) (Q : xO → Prop) (t : (Int32 × Int32 × Int32 × (Option Value) × xI × xJ) ⊕ (Int32 × xI × xJ)) : Prop := match t with
  | .inl s => Rn L xs (d + 4) 231 2 [some (.ref 61), some (.int s.1), some (.int s.2.1), some (.int s.2.2.1), s.2.2.2.1] [] 94 (s.2.2.2.2.1, s.2.2.2.2.2, xrf) Q
  | .inr t => (c_X12_doesShow Q) t
def c_X12_doesShow_3 (L : Nat) (xs : Nat → Int32) (d : Nat) (Q : xO → Prop) (t : (Int32 × Int32 × Int32 × Int32 × xI × xJ) ⊕ ((Int32 × Int32 × Int32 × (Option Value) × xI × xJ) ⊕ (Int32 × xI × xJ))) : Prop := match t with
  | .inl s => Rn L xs (d + 4) 231 13 [some (.ref 61), some (.int s.1), some (.int s.2.1), some (.int s.2.2.1), some (.int s.2.2.2.1)] [] 94 (s.2.2.2.2.1, s.2.2.2.2.2, xrf) Q
  | .inr t => (c_X12_doesShow_1 L xs d Q) t
def f_X12_doesShow_10 (x1 : Int32) (x2 : Int32) (x3 : Int32) (z4 : Option Value) (I : xI) (J : xJ) : Option (Int32 × xI × xJ) := some (1, I, J)
def f_X12_doesShow_9 (x1 : Int32) (x2 : Int32) (x3 : Int32) (x4 : Int32) (I : xI) (J : xJ) : Option ((Int32 × Int32 × Int32 × (Option Value) × xI × xJ) ⊕ (Int32 × xI × xJ)) := some (.inl (x1, x2, ((x3 + 1)), (some (.int x4)), I, J))
def f_X12_doesShow_8 (x1 : Int32) (x2 : Int32) (x3 : Int32) (x4 : Int32) (I : xI) (J : xJ) : Option ((Int32 × Int32 × Int32 × Int32 × xI × xJ) ⊕ ((Int32 × Int32 × Int32 × (Option Value) × xI × xJ) ⊕ (Int32 × xI × xJ))) := some (.inl (x1, x2, x3, ((x4 + 1)), I, J))
def f_X12_doesShow_7 (x1 : Int32) (x2 : Int32) (x3 : Int32) (x4 : Int32) (I : xI) (J : xJ) : Option (Int32 × xI × xJ) := some (0, I, J)
def f_X12_doesShow_6 (x1 : Int32) (x2 : Int32) (x3 : Int32) (x4 : Int32) (s0 : Int32) (I : xI) (J : xJ) : Option ((Int32 × Int32 × Int32 × Int32 × xI × xJ) ⊕ ((Int32 × Int32 × Int32 × (Option Value) × xI × xJ) ⊕ (Int32 × xI × xJ))) := if s0 = 0 then (((f_X12_doesShow_7 x1 x2 x3 x4 I J)).map .inr).map .inr else f_X12_doesShow_8 x1 x2 x3 x4 I J
def f_X12_doesShow_5 (x1 : Int32) (x2 : Int32) (x3 : Int32) (x4 : Int32) (I : xI) (J : xJ) : Option ((Int32 × Int32 × Int32 × Int32 × xI × xJ) ⊕ ((Int32 × Int32 × Int32 × (Option Value) × xI × xJ) ⊕ (Int32 × xI × xJ))) := (f_X12_doesTell x1 x2 x3 x4 I J).bind fun o => f_X12_doesShow_6 x1 x2 x3 x4 o.1 o.2.1 o.2.2
def f_X12_doesShow_4 (x1 : Int32) (x2 : Int32) (x3 : Int32) (x4 : Int32) (I : xI) (J : xJ) : Option ((Int32 × Int32 × Int32 × Int32 × xI × xJ) ⊕ ((Int32 × Int32 × Int32 × (Option Value) × xI × xJ) ⊕ (Int32 × xI × xJ))) := if ((6 * x3) + x4) < 0 ∨ 36 ≤ (((6 * x3) + x4)).toNatClampNeg then none else if (I 76 (((6 * x3) + x4)).toNatClampNeg) < 0 then f_X12_doesShow_8 x1 x2 x3 x4 I J else f_X12_doesShow_5 x1 x2 x3 x4 I J
def b_X12_doesShow_3 (x1 : Int32) (x2 : Int32) (x3 : Int32) (x4 : Int32) (I : xI) (J : xJ) : Option ((Int32 × Int32 × Int32 × Int32 × xI × xJ) ⊕ ((Int32 × Int32 × Int32 × (Option Value) × xI × xJ) ⊕ (Int32 × xI × xJ))) := if x3 ≤ x4 then ((f_X12_doesShow_9 x1 x2 x3 x4 I J)).map .inr else f_X12_doesShow_4 x1 x2 x3 x4 I J
def f_X12_doesShow_3 (x1 : Int32) (x2 : Int32) (x3 : Int32) (x4 : Int32) (I : xI) (J : xJ) : Option ((Int32 × Int32 × Int32 × (Option Value) × xI × xJ) ⊕ (Int32 × xI × xJ)) := xloop (fun s : Int32 × Int32 × Int32 × Int32 × xI × xJ => b_X12_doesShow_3 s.1 s.2.1 s.2.2.1 s.2.2.2.1 s.2.2.2.2.1 s.2.2.2.2.2) 5000 (x1, x2, x3, x4, I, J)
def f_X12_doesShow_2 (x1 : Int32) (x2 : Int32) (x3 : Int32) (z4 : Option Value) (I : xI) (J : xJ) : Option ((Int32 × Int32 × Int32 × (Option Value) × xI × xJ) ⊕ (Int32 × xI × xJ)) := f_X12_doesShow_3 x1 x2 x3 0 I J
def b_X12_doesShow_1 (x1 : Int32) (x2 : Int32) (x3 : Int32) (z4 : Option Value) (I : xI) (J : xJ) : Option ((Int32 × Int32 × Int32 × (Option Value) × xI × xJ) ⊕ (Int32 × xI × xJ)) := if (I 61 17) ≤ x3 then ((f_X12_doesShow_10 x1 x2 x3 z4 I J)).map .inr else f_X12_doesShow_2 x1 x2 x3 z4 I J
def f_X12_doesShow_1 (x1 : Int32) (x2 : Int32) (x3 : Int32) (z4 : Option Value) (I : xI) (J : xJ) : Option (Int32 × xI × xJ) := xloop (fun s : Int32 × Int32 × Int32 × (Option Value) × xI × xJ => b_X12_doesShow_1 s.1 s.2.1 s.2.2.1 s.2.2.2.1 s.2.2.2.2.1 s.2.2.2.2.2) 5000 (x1, x2, x3, z4, I, J)
def f_X12_doesShow_0 (x1 : Int32) (x2 : Int32) (I : xI) (J : xJ) : Option (Int32 × xI × xJ) := f_X12_doesShow_1 x1 x2 0 none I J
def f_X12_doesShow (x1 : Int32) (x2 : Int32) (I : xI) (J : xJ) : Option (Int32 × xI × xJ) := f_X12_doesShow_0 x1 x2 I J
theorem p_X12_doesShow_10 {L : Nat} {xs : Nat → Int32} {d : Nat} {Q : xO → Prop} (x1 : Int32) (x2 : Int32) (x3 : Int32) (z4 : Option Value) (I : xI) (J : xJ) {t : Int32 × xI × xJ} (h : f_X12_doesShow_10 x1 x2 x3 z4 I J = some t) (hC : (c_X12_doesShow Q) t) : Rn L xs (d + 4) 231 60 [some (.ref 61), some (.int x1), some (.int x2), some (.int x3), z4] [] 94 (I, J, xrf) Q := by
  unfold f_X12_doesShow_10 at h
  cases h
  exact Rn.ret 2 (o := ((some (.int 1)), 94, (I, J, xrf))) (fun f => rfl) hC
theorem p_X12_doesShow_9 {L : Nat} {xs : Nat → Int32} {d : Nat} {Q : xO → Prop} (x1 : Int32) (x2 : Int32) (x3 : Int32) (x4 : Int32) (I : xI) (J : xJ) {t : (Int32 × Int32 × Int32 × (Option Value) × xI × xJ) ⊕ (Int32 × xI × xJ)} (h : f_X12_doesShow_9 x1 x2 x3 x4 I J = some t) (hC : (c_X12_doesShow_1 L xs d Q) t) : Rn L xs (d + 4) 231 54 [some (.ref 61), some (.int x1), some (.int x2), some (.int x3), some (.int x4)] [] 94 (I, J, xrf) Q := by
  unfold f_X12_doesShow_9 at h
  refine Rn.go 2 (j' := 231) (pc' := 2) (ls' := [some (.ref 61), some (.int x1), some (.int x2), some (.int ((x3 + 1))), some (.int x4)]) (st' := []) (n' := 94) (M' := (I, J, xrf)) (fun f => rfl) ?_
  cases h; exact hC
theorem p_X12_doesShow_8 {L : Nat} {xs : Nat → Int32} {d : Nat} {Q : xO → Prop} (x1 : Int32) (x2 : Int32) (x3 : Int32) (x4 : Int32) (I : xI) (J : xJ) {t : (Int32 × Int32 × Int32 × Int32 × xI × xJ) ⊕ ((Int32 × Int32 × Int32 × (Option Value) × xI × xJ) ⊕ (Int32 × xI × xJ))} (h : f_X12_doesShow_8 x1 x2 x3 x4 I J = some t) (hC : (c_X12_doesShow_3 L xs d Q) t) : Rn L xs (d + 4) 231 48 [some (.ref 61), some (.int x1), some (.int x2), some (.int x3), some (.int x4)] [] 94 (I, J, xrf) Q := by
  unfold f_X12_doesShow_8 at h
  refine Rn.go 2 (j' := 231) (pc' := 13) (ls' := [some (.ref 61), some (.int x1), some (.int x2), some (.int x3), some (.int ((x4 + 1)))]) (st' := []) (n' := 94) (M' := (I, J, xrf)) (fun f => rfl) ?_
  cases h; exact hC
theorem p_X12_doesShow_7 {L : Nat} {xs : Nat → Int32} {d : Nat} {Q : xO → Prop} (x1 : Int32) (x2 : Int32) (x3 : Int32) (x4 : Int32) (I : xI) (J : xJ) {t : Int32 × xI × xJ} (h : f_X12_doesShow_7 x1 x2 x3 x4 I J = some t) (hC : (c_X12_doesShow Q) t) : Rn L xs (d + 4) 231 46 [some (.ref 61), some (.int x1), some (.int x2), some (.int x3), some (.int x4)] [] 94 (I, J, xrf) Q := by
  unfold f_X12_doesShow_7 at h
  cases h
  exact Rn.ret 2 (o := ((some (.int 0)), 94, (I, J, xrf))) (fun f => rfl) hC
theorem p_X12_doesShow_6 {L : Nat} {xs : Nat → Int32} {d : Nat} {Q : xO → Prop} (x1 : Int32) (x2 : Int32) (x3 : Int32) (x4 : Int32) (s0 : Int32) (I : xI) (J : xJ) {t : (Int32 × Int32 × Int32 × Int32 × xI × xJ) ⊕ ((Int32 × Int32 × Int32 × (Option Value) × xI × xJ) ⊕ (Int32 × xI × xJ))} (h : f_X12_doesShow_6 x1 x2 x3 x4 s0 I J = some t) (hC : (c_X12_doesShow_3 L xs d Q) t) : Rn L xs (d + 4) 231 43 [some (.ref 61), some (.int x1), some (.int x2), some (.int x3), some (.int x4)] [.int s0] 94 (I, J, xrf) Q := by
  unfold f_X12_doesShow_6 at h
  refine Rn.fi 1 (c := s0 = 0) (p1 := 46) (l1 := [some (.ref 61), some (.int x1), some (.int x2), some (.int x3), some (.int x4)]) (s1 := []) (n1 := 94) (M1 := (I, J, xrf)) (p2 := 48) (l2 := [some (.ref 61), some (.int x1), some (.int x2), some (.int x3), some (.int x4)]) (s2 := []) (n2 := 94) (M2 := (I, J, xrf)) (fun f => rfl) (fun hc => ?_) (fun hc => ?_)
  · rw [if_pos hc] at h
    obtain ⟨t0, h0, rfl⟩ := Option.map_eq_some_iff.mp h
    obtain ⟨t1, h1, rfl⟩ := Option.map_eq_some_iff.mp h0
    exact p_X12_doesShow_7 x1 x2 x3 x4 I J h1 hC
  · rw [if_neg hc] at h
    exact p_X12_doesShow_8 x1 x2 x3 x4 I J h hC
theorem p_X12_doesShow_5 {L : Nat} {xs : Nat → Int32} {d : Nat} {Q : xO → Prop} (x1 : Int32) (x2 : Int32) (x3 : Int32) (x4 : Int32) (I : xI) (J : xJ) {t : (Int32 × Int32 × Int32 × Int32 × xI × xJ) ⊕ ((Int32 × Int32 × Int32 × (Option Value) × xI × xJ) ⊕ (Int32 × xI × xJ))} (h : f_X12_doesShow_5 x1 x2 x3 x4 I J = some t) (hC : (c_X12_doesShow_3 L xs d Q) t) : Rn L xs (d + 4) 231 34 [some (.ref 61), some (.int x1), some (.int x2), some (.int x3), some (.int x4)] [] 94 (I, J, xrf) Q := by
  unfold f_X12_doesShow_5 at h
  refine Rn.go 5 (j' := 231) (pc' := 40) (ls' := [some (.ref 61), some (.int x1), some (.int x2), some (.int x3), some (.int x4)]) (st' := [.int x4, .int x3, .int x2, .int x1, .ref 61]) (n' := 94) (M' := (I, J, xrf)) (fun f => rfl) ?_
  obtain ⟨o, ho, h⟩ := Option.bind_eq_some_iff.mp h
  refine Rn.call (d1 := d + 3) (j1 := 229) (ls1 := [some (.ref 61), some (.int x1), some (.int x2), some (.int x3), some (.int x4), none, none, none, none, none]) (rest := []) (fun f => rfl) ?_
  refine p_X12_doesTell (d := d + 0) x1 x2 x3 x4 I J (t := o) ho ?_
  exact p_X12_doesShow_6 x1 x2 x3 x4 o.1 o.2.1 o.2.2 h hC
theorem p_X12_doesShow_4 {L : Nat} {xs : Nat → Int32} {d : Nat} {Q : xO → Prop} (x1 : Int32) (x2 : Int32) (x3 : Int32) (x4 : Int32) (I : xI) (J : xJ) {t : (Int32 × Int32 × Int32 × Int32 × xI × xJ) ⊕ ((Int32 × Int32 × Int32 × (Option Value) × xI × xJ) ⊕ (Int32 × xI × xJ))} (h : f_X12_doesShow_4 x1 x2 x3 x4 I J = some t) (hC : (c_X12_doesShow_3 L xs d Q) t) : Rn L xs (d + 4) 231 19 [some (.ref 61), some (.int x1), some (.int x2), some (.int x3), some (.int x4)] [] 94 (I, J, xrf) Q := by
  unfold f_X12_doesShow_4 at h
  obtain ⟨hc, h⟩ := xif h
  refine Rn.ok 8 (c := ((6 * x3) + x4) < 0 ∨ 36 ≤ (((6 * x3) + x4)).toNatClampNeg) (p1 := 31) (l1 := [some (.ref 61), some (.int x1), some (.int x2), some (.int x3), some (.int x4)]) (s1 := [.int ((I 76 (((6 * x3) + x4)).toNatClampNeg))]) (n1 := 94) (M1 := (I, J, xrf)) (fun f => rfl) hc ?_
  refine Rn.fi 1 (c := (I 76 (((6 * x3) + x4)).toNatClampNeg) < 0) (p1 := 48) (l1 := [some (.ref 61), some (.int x1), some (.int x2), some (.int x3), some (.int x4)]) (s1 := []) (n1 := 94) (M1 := (I, J, xrf)) (p2 := 34) (l2 := [some (.ref 61), some (.int x1), some (.int x2), some (.int x3), some (.int x4)]) (s2 := []) (n2 := 94) (M2 := (I, J, xrf)) (fun f => rfl) (fun hc => ?_) (fun hc => ?_)
  · rw [if_pos hc] at h
    exact p_X12_doesShow_8 x1 x2 x3 x4 I J h hC
  · rw [if_neg hc] at h
    exact p_X12_doesShow_5 x1 x2 x3 x4 I J h hC
theorem q_X12_doesShow_3 {L : Nat} {xs : Nat → Int32} {d : Nat} {Q : xO → Prop} (x1 : Int32) (x2 : Int32) (x3 : Int32) (x4 : Int32) (I : xI) (J : xJ) {t : (Int32 × Int32 × Int32 × Int32 × xI × xJ) ⊕ ((Int32 × Int32 × Int32 × (Option Value) × xI × xJ) ⊕ (Int32 × xI × xJ))} (h : b_X12_doesShow_3 x1 x2 x3 x4 I J = some t) (hC : (c_X12_doesShow_3 L xs d Q) t) : Rn L xs (d + 4) 231 13 [some (.ref 61), some (.int x1), some (.int x2), some (.int x3), some (.int x4)] [] 94 (I, J, xrf) Q := by
  unfold b_X12_doesShow_3 at h
  refine Rn.fi 3 (c := x3 ≤ x4) (p1 := 54) (l1 := [some (.ref 61), some (.int x1), some (.int x2), some (.int x3), some (.int x4)]) (s1 := []) (n1 := 94) (M1 := (I, J, xrf)) (p2 := 19) (l2 := [some (.ref 61), some (.int x1), some (.int x2), some (.int x3), some (.int x4)]) (s2 := []) (n2 := 94) (M2 := (I, J, xrf)) (fun f => rfl) (fun hc => ?_) (fun hc => ?_)
  · rw [if_pos hc] at h
    obtain ⟨t0, h0, rfl⟩ := Option.map_eq_some_iff.mp h
    exact p_X12_doesShow_9 x1 x2 x3 x4 I J h0 hC
  · rw [if_neg hc] at h
    exact p_X12_doesShow_4 x1 x2 x3 x4 I J h hC
theorem p_X12_doesShow_3 {L : Nat} {xs : Nat → Int32} {d : Nat} {Q : xO → Prop} (x1 : Int32) (x2 : Int32) (x3 : Int32) (x4 : Int32) (I : xI) (J : xJ) {t : (Int32 × Int32 × Int32 × (Option Value) × xI × xJ) ⊕ (Int32 × xI × xJ)} (h : f_X12_doesShow_3 x1 x2 x3 x4 I J = some t) (hC : (c_X12_doesShow_1 L xs d Q) t) : Rn L xs (d + 4) 231 13 [some (.ref 61), some (.int x1), some (.int x2), some (.int x3), some (.int x4)] [] 94 (I, J, xrf) Q := by
  unfold f_X12_doesShow_3 at h
  exact xloop_some (P := fun s : Int32 × Int32 × Int32 × Int32 × xI × xJ => Rn L xs (d + 4) 231 13 [some (.ref 61), some (.int s.1), some (.int s.2.1), some (.int s.2.2.1), some (.int s.2.2.2.1)] [] 94 (s.2.2.2.2.1, s.2.2.2.2.2, xrf) Q) t (fun s ⟨s', hb, hp⟩ => q_X12_doesShow_3 s.1 s.2.1 s.2.2.1 s.2.2.2.1 s.2.2.2.2.1 s.2.2.2.2.2 hb hp) (fun s hb => q_X12_doesShow_3 s.1 s.2.1 s.2.2.1 s.2.2.2.1 s.2.2.2.2.1 s.2.2.2.2.2 hb hC) _ _ h
theorem p_X12_doesShow_2 {L : Nat} {xs : Nat → Int32} {d : Nat} {Q : xO → Prop} (x1 : Int32) (x2 : Int32) (x3 : Int32) (z4 : Option Value) (I : xI) (J : xJ) {t : (Int32 × Int32 × Int32 × (Option Value) × xI × xJ) ⊕ (Int32 × xI × xJ)} (h : f_X12_doesShow_2 x1 x2 x3 z4 I J = some t) (hC : (c_X12_doesShow_1 L xs d Q) t) : Rn L xs (d + 4) 231 10 [some (.ref 61), some (.int x1), some (.int x2), some (.int x3), z4] [] 94 (I, J, xrf) Q := by
  unfold f_X12_doesShow_2 at h
  refine Rn.go 2 (j' := 231) (pc' := 13) (ls' := [some (.ref 61), some (.int x1), some (.int x2), some (.int x3), some (.int 0)]) (st' := []) (n' := 94) (M' := (I, J, xrf)) (fun f => rfl) ?_
  exact p_X12_doesShow_3 x1 x2 x3 0 I J h hC
theorem q_X12_doesShow_1 {L : Nat} {xs : Nat → Int32} {d : Nat} {Q : xO → Prop} (x1 : Int32) (x2 : Int32) (x3 : Int32) (z4 : Option Value) (I : xI) (J : xJ) {t : (Int32 × Int32 × Int32 × (Option Value) × xI × xJ) ⊕ (Int32 × xI × xJ)} (h : b_X12_doesShow_1 x1 x2 x3 z4 I J = some t) (hC : (c_X12_doesShow_1 L xs d Q) t) : Rn L xs (d + 4) 231 2 [some (.ref 61), some (.int x1), some (.int x2), some (.int x3), z4] [] 94 (I, J, xrf) Q := by
  unfold b_X12_doesShow_1 at h
  refine Rn.fi 4 (c := (I 61 17) ≤ x3) (p1 := 60) (l1 := [some (.ref 61), some (.int x1), some (.int x2), some (.int x3), z4]) (s1 := []) (n1 := 94) (M1 := (I, J, xrf)) (p2 := 10) (l2 := [some (.ref 61), some (.int x1), some (.int x2), some (.int x3), z4]) (s2 := []) (n2 := 94) (M2 := (I, J, xrf)) (fun f => rfl) (fun hc => ?_) (fun hc => ?_)
  · rw [if_pos hc] at h
    obtain ⟨t0, h0, rfl⟩ := Option.map_eq_some_iff.mp h
    exact p_X12_doesShow_10 x1 x2 x3 z4 I J h0 hC
  · rw [if_neg hc] at h
    exact p_X12_doesShow_2 x1 x2 x3 z4 I J h hC
theorem p_X12_doesShow_1 {L : Nat} {xs : Nat → Int32} {d : Nat} {Q : xO → Prop} (x1 : Int32) (x2 : Int32) (x3 : Int32) (z4 : Option Value) (I : xI) (J : xJ) {t : Int32 × xI × xJ} (h : f_X12_doesShow_1 x1 x2 x3 z4 I J = some t) (hC : (c_X12_doesShow Q) t) : Rn L xs (d + 4) 231 2 [some (.ref 61), some (.int x1), some (.int x2), some (.int x3), z4] [] 94 (I, J, xrf) Q := by
  unfold f_X12_doesShow_1 at h
  exact xloop_some (P := fun s : Int32 × Int32 × Int32 × (Option Value) × xI × xJ => Rn L xs (d + 4) 231 2 [some (.ref 61), some (.int s.1), some (.int s.2.1), some (.int s.2.2.1), s.2.2.2.1] [] 94 (s.2.2.2.2.1, s.2.2.2.2.2, xrf) Q) t (fun s ⟨s', hb, hp⟩ => q_X12_doesShow_1 s.1 s.2.1 s.2.2.1 s.2.2.2.1 s.2.2.2.2.1 s.2.2.2.2.2 hb hp) (fun s hb => q_X12_doesShow_1 s.1 s.2.1 s.2.2.1 s.2.2.2.1 s.2.2.2.2.1 s.2.2.2.2.2 hb hC) _ _ h
theorem p_X12_doesShow_0 {L : Nat} {xs : Nat → Int32} {d : Nat} {Q : xO → Prop} (x1 : Int32) (x2 : Int32) (I : xI) (J : xJ) {t : Int32 × xI × xJ} (h : f_X12_doesShow_0 x1 x2 I J = some t) (hC : (c_X12_doesShow Q) t) : Rn L xs (d + 4) 231 0 [some (.ref 61), some (.int x1), some (.int x2), none, none] [] 94 (I, J, xrf) Q := by
  unfold f_X12_doesShow_0 at h
  refine Rn.go 2 (j' := 231) (pc' := 2) (ls' := [some (.ref 61), some (.int x1), some (.int x2), some (.int 0), none]) (st' := []) (n' := 94) (M' := (I, J, xrf)) (fun f => rfl) ?_
  exact p_X12_doesShow_1 x1 x2 0 none I J h hC
theorem p_X12_doesShow {L : Nat} {xs : Nat → Int32} {d : Nat} {Q : xO → Prop} (x1 : Int32) (x2 : Int32) (I : xI) (J : xJ) {t : Int32 × xI × xJ} (h : f_X12_doesShow x1 x2 I J = some t) (hC : Q ((some (.int t.1)), 94, (t.2.1, t.2.2, xrf))) : Rn L xs (d + 4) 231 0 [some (.ref 61), some (.int x1), some (.int x2), none, none] [] 94 (I, J, xrf) Q := p_X12_doesShow_0 x1 x2 I J h hC
/-! X12_shown -/
def c_X12_shown (Q : xO → Prop) (t : Int32 × xI × xJ) : Prop := Q ((some (.int t.1)), 94, (t.2.1, t.2.2, xrf))
def c_X12_shown_2 (L : Nat) (xs : Nat → Int32) (d : Nat) (Q : xO → Prop) (t : (Int32 × Int32 × (Option Value) × xI × xJ) ⊕ (Int32 × xI × xJ)) : Prop := match t with
  | .inl s => Rn L xs (d + 7) 232 6 [some (.ref 61), some (.int s.1), some (.int s.2.1), s.2.2.1] [] 94 (s.2.2.2.1, s.2.2.2.2, xrf) Q
  | .inr t => (c_X12_shown Q) t
def c_X12_shown_4 (L : Nat) (xs : Nat → Int32) (d : Nat) (Q : xO → Prop) (t : (Int32 × Int32 × Int32 × xI × xJ) ⊕ ((Int32 × Int32 × (Option Value) × xI × xJ) ⊕ (Int32 × xI × xJ))) : Prop := match t with
  | .inl s => Rn L xs (d + 7) 232 14 [some (.ref 61), some (.int s.1), some (.int s.2.1), some (.int s.2.2.1)] [] 94 (s.2.2.2.1, s.2.2.2.2, xrf) Q
  | .inr t => (c_X12_shown_2 L xs d Q) t
def f_X12_shown_19 (x1 : Int32) (x2 : Int32) (z3 : Option Value) (I : xI) (J : xJ) : Option (Int32 × xI × xJ) := some ((-2), I, J)
def f_X12_shown_18 (x1 : Int32) (x2 : Int32) (x3 : Int32) (I : xI) (J : xJ) : Option ((Int32 × Int32 × (Option Value) × xI × xJ) ⊕ (Int32 × xI × xJ)) := some (.inl (x1, ((x2 + 1)), (some (.int x3)), I, J))
def f_X12_shown_17 (x1 : Int32) (x2 : Int32) (x3 : Int32) (I : xI) (J : xJ) : Option ((Int32 × Int32 × Int32 × xI × xJ) ⊕ ((Int32 × Int32 × (Option Value) × xI × xJ) ⊕ (Int32 × xI × xJ))) := some (.inl (x1, x2, ((x3 + 1)), I, J))
def f_X12_shown_16 (x1 : Int32) (x2 : Int32) (x3 : Int32) (s0 : Int32) (I : xI) (J : xJ) : Option (Int32 × xI × xJ) := some (s0, I, J)
def f_X12_shown_15 (x1 : Int32) (x2 : Int32) (x3 : Int32) (I : xI) (J : xJ) : Option (Int32 × xI × xJ) := f_X12_shown_16 x1 x2 x3 ((-1)) I J
def f_X12_shown_14 (x1 : Int32) (x2 : Int32) (x3 : Int32) (I : xI) (J : xJ) : Option (Int32 × xI × xJ) := f_X12_shown_16 x1 x2 x3 (((x3 >>> ((2 * ((x2 - 1) - x1)) &&& 31)) &&& 3)) I J
def f_X12_shown_13 (x1 : Int32) (x2 : Int32) (x3 : Int32) (s0 : Int32) (I : xI) (J : xJ) : Option (Int32 × xI × xJ) := if s0 = 0 then f_X12_shown_15 x1 x2 x3 I J else f_X12_shown_14 x1 x2 x3 I J
def f_X12_shown_12 (x1 : Int32) (x2 : Int32) (x3 : Int32) (I : xI) (J : xJ) : Option (Int32 × xI × xJ) := (f_X12_in x1 0 ((x2 - 1)) I J).bind fun o => f_X12_shown_13 x1 x2 x3 o.1 o.2.1 o.2.2
def f_X12_shown_11 (x1 : Int32) (x2 : Int32) (x3 : Int32) (I : xI) (J : xJ) : Option (Int32 × xI × xJ) := f_X12_shown_16 x1 x2 x3 x2 I J
def f_X12_shown_10 (x1 : Int32) (x2 : Int32) (x3 : Int32) (I : xI) (J : xJ) : Option (Int32 × xI × xJ) := if x1 = (-1) then f_X12_shown_11 x1 x2 x3 I J else f_X12_shown_12 x1 x2 x3 I J
def f_X12_shown_9 (x1 : Int32) (x2 : Int32) (x3 : Int32) (I : xI) (J : xJ) : Option ((Int32 × Int32 × Int32 × xI × xJ) ⊕ ((Int32 × Int32 × (Option Value) × xI × xJ) ⊕ (Int32 × xI × xJ))) := f_X12_shown_17 x1 x2 x3 I J
def f_X12_shown_8 (x1 : Int32) (x2 : Int32) (x3 : Int32) (s0 : Int32) (I : xI) (J : xJ) : Option ((Int32 × Int32 × Int32 × xI × xJ) ⊕ ((Int32 × Int32 × (Option Value) × xI × xJ) ⊕ (Int32 × xI × xJ))) := if s0 = 0 then f_X12_shown_9 x1 x2 x3 I J else (((f_X12_shown_10 x1 x2 x3 I J)).map .inr).map .inr
def f_X12_shown_7 (x1 : Int32) (x2 : Int32) (x3 : Int32) (I : xI) (J : xJ) : Option ((Int32 × Int32 × Int32 × xI × xJ) ⊕ ((Int32 × Int32 × (Option Value) × xI × xJ) ⊕ (Int32 × xI × xJ))) := (f_X12_doesShow x3 x2 I J).bind fun o => f_X12_shown_8 x1 x2 x3 o.1 o.2.1 o.2.2
def f_X12_shown_6 (x1 : Int32) (x2 : Int32) (x3 : Int32) (s0 : Int32) (I : xI) (J : xJ) : Option ((Int32 × Int32 × Int32 × xI × xJ) ⊕ ((Int32 × Int32 × (Option Value) × xI × xJ) ⊕ (Int32 × xI × xJ))) := if s0 = 0 then f_X12_shown_17 x1 x2 x3 I J else f_X12_shown_7 x1 x2 x3 I J
def f_X12_shown_5 (x1 : Int32) (x2 : Int32) (x3 : Int32) (I : xI) (J : xJ) : Option ((Int32 × Int32 × Int32 × xI × xJ) ⊕ ((Int32 × Int32 × (Option Value) × xI × xJ) ⊕ (Int32 × xI × xJ))) := (f_X12_isWord x3 x2 I J).bind fun o => f_X12_shown_6 x1 x2 x3 o.1 o.2.1 o.2.2
def b_X12_shown_4 (x1 : Int32) (x2 : Int32) (x3 : Int32) (I : xI) (J : xJ) : Option ((Int32 × Int32 × Int32 × xI × xJ) ⊕ ((Int32 × Int32 × (Option Value) × xI × xJ) ⊕ (Int32 × xI × xJ))) := if (1 <<< ((2 * x2) &&& 31)) ≤ x3 then ((f_X12_shown_18 x1 x2 x3 I J)).map .inr else f_X12_shown_5 x1 x2 x3 I J
def f_X12_shown_4 (x1 : Int32) (x2 : Int32) (x3 : Int32) (I : xI) (J : xJ) : Option ((Int32 × Int32 × (Option Value) × xI × xJ) ⊕ (Int32 × xI × xJ)) := xloop (fun s : Int32 × Int32 × Int32 × xI × xJ => b_X12_shown_4 s.1 s.2.1 s.2.2.1 s.2.2.2.1 s.2.2.2.2) 5000 (x1, x2, x3, I, J)
def f_X12_shown_3 (x1 : Int32) (x2 : Int32) (z3 : Option Value) (I : xI) (J : xJ) : Option ((Int32 × Int32 × (Option Value) × xI × xJ) ⊕ (Int32 × xI × xJ)) := f_X12_shown_4 x1 x2 0 I J
def b_X12_shown_2 (x1 : Int32) (x2 : Int32) (z3 : Option Value) (I : xI) (J : xJ) : Option ((Int32 × Int32 × (Option Value) × xI × xJ) ⊕ (Int32 × xI × xJ)) := if 6 < x2 then ((f_X12_shown_19 x1 x2 z3 I J)).map .inr else f_X12_shown_3 x1 x2 z3 I J
def f_X12_shown_2 (x1 : Int32) (x2 : Int32) (z3 : Option Value) (I : xI) (J : xJ) : Option (Int32 × xI × xJ) := xloop (fun s : Int32 × Int32 × (Option Value) × xI × xJ => b_X12_shown_2 s.1 s.2.1 s.2.2.1 s.2.2.2.1 s.2.2.2.2) 5000 (x1, x2, z3, I, J)
def f_X12_shown_1 (x1 : Int32) (I : xI) (J : xJ) : Option (Int32 × xI × xJ) := f_X12_shown_2 x1 0 none I J
def f_X12_shown_0 (x1 : Int32) (I : xI) (J : xJ) : Option (Int32 × xI × xJ) := (f_X12_knows I J).bind fun o => f_X12_shown_1 x1 o.2.1 o.2.2
def f_X12_shown (x1 : Int32) (I : xI) (J : xJ) : Option (Int32 × xI × xJ) := f_X12_shown_0 x1 I J
theorem p_X12_shown_19 {L : Nat} {xs : Nat → Int32} {d : Nat} {Q : xO → Prop} (x1 : Int32) (x2 : Int32) (z3 : Option Value) (I : xI) (J : xJ) {t : Int32 × xI × xJ} (h : f_X12_shown_19 x1 x2 z3 I J = some t) (hC : (c_X12_shown Q) t) : Rn L xs (d + 7) 232 92 [some (.ref 61), some (.int x1), some (.int x2), z3] [] 94 (I, J, xrf) Q := by
  unfold f_X12_shown_19 at h
  cases h
  exact Rn.ret 2 (o := ((some (.int ((-2)))), 94, (I, J, xrf))) (fun f => rfl) hC
theorem p_X12_shown_18 {L : Nat} {xs : Nat → Int32} {d : Nat} {Q : xO → Prop} (x1 : Int32) (x2 : Int32) (x3 : Int32) (I : xI) (J : xJ) {t : (Int32 × Int32 × (Option Value) × xI × xJ) ⊕ (Int32 × xI × xJ)} (h : f_X12_shown_18 x1 x2 x3 I J = some t) (hC : (c_X12_shown_2 L xs d Q) t) : Rn L xs (d + 7) 232 86 [some (.ref 61), some (.int x1), some (.int x2), some (.int x3)] [] 94 (I, J, xrf) Q := by
  unfold f_X12_shown_18 at h
  refine Rn.go 2 (j' := 232) (pc' := 6) (ls' := [some (.ref 61), some (.int x1), some (.int ((x2 + 1))), some (.int x3)]) (st' := []) (n' := 94) (M' := (I, J, xrf)) (fun f => rfl) ?_
  cases h; exact hC
theorem p_X12_shown_17 {L : Nat} {xs : Nat → Int32} {d : Nat} {Q : xO → Prop} (x1 : Int32) (x2 : Int32) (x3 : Int32) (I : xI) (J : xJ) {t : (Int32 × Int32 × Int32 × xI × xJ) ⊕ ((Int32 × Int32 × (Option Value) × xI × xJ) ⊕ (Int32 × xI × xJ))} (h : f_X12_shown_17 x1 x2 x3 I J = some t) (hC : (c_X12_shown_4 L xs d Q) t) : Rn L xs (d + 7) 232 80 [some (.ref 61), some (.int x1), some (.int x2), some (.int x3)] [] 94 (I, J, xrf) Q := by
  unfold f_X12_shown_17 at h
  refine Rn.go 2 (j' := 232) (pc' := 14) (ls' := [some (.ref 61), some (.int x1), some (.int x2), some (.int ((x3 + 1)))]) (st' := []) (n' := 94) (M' := (I, J, xrf)) (fun f => rfl) ?_
  cases h; exact hC
theorem p_X12_shown_16 {L : Nat} {xs : Nat → Int32} {d : Nat} {Q : xO → Prop} (x1 : Int32) (x2 : Int32) (x3 : Int32) (s0 : Int32) (I : xI) (J : xJ) {t : Int32 × xI × xJ} (h : f_X12_shown_16 x1 x2 x3 s0 I J = some t) (hC : (c_X12_shown Q) t) : Rn L xs (d + 7) 232 79 [some (.ref 61), some (.int x1), some (.int x2), some (.int x3)] [.int s0] 94 (I, J, xrf) Q := by
  unfold f_X12_shown_16 at h
  cases h
  exact Rn.ret 1 (o := ((some (.int s0)), 94, (I, J, xrf))) (fun f => rfl) hC
theorem p_X12_shown_15 {L : Nat} {xs : Nat → Int32} {d : Nat} {Q : xO → Prop} (x1 : Int32) (x2 : Int32) (x3 : Int32) (I : xI) (J : xJ) {t : Int32 × xI × xJ} (h : f_X12_shown_15 x1 x2 x3 I J = some t) (hC : (c_X12_shown Q) t) : Rn L xs (d + 7) 232 78 [some (.ref 61), some (.int x1), some (.int x2), some (.int x3)] [] 94 (I, J, xrf) Q := by
  unfold f_X12_shown_15 at h
  refine Rn.go 1 (j' := 232) (pc' := 79) (ls' := [some (.ref 61), some (.int x1), some (.int x2), some (.int x3)]) (st' := [.int ((-1))]) (n' := 94) (M' := (I, J, xrf)) (fun f => rfl) ?_
  exact p_X12_shown_16 x1 x2 x3 ((-1)) I J h hC
theorem p_X12_shown_14 {L : Nat} {xs : Nat → Int32} {d : Nat} {Q : xO → Prop} (x1 : Int32) (x2 : Int32) (x3 : Int32) (I : xI) (J : xJ) {t : Int32 × xI × xJ} (h : f_X12_shown_14 x1 x2 x3 I J = some t) (hC : (c_X12_shown Q) t) : Rn L xs (d + 7) 232 64 [some (.ref 61), some (.int x1), some (.int x2), some (.int x3)] [] 94 (I, J, xrf) Q := by
  unfold f_X12_shown_14 at h
  refine Rn.go 12 (j' := 232) (pc' := 79) (ls' := [some (.ref 61), some (.int x1), some (.int x2), some (.int x3)]) (st' := [.int (((x3 >>> ((2 * ((x2 - 1) - x1)) &&& 31)) &&& 3))]) (n' := 94) (M' := (I, J, xrf)) (fun f => rfl) ?_
  exact p_X12_shown_16 x1 x2 x3 (((x3 >>> ((2 * ((x2 - 1) - x1)) &&& 31)) &&& 3)) I J h hC
theorem p_X12_shown_13 {L : Nat} {xs : Nat → Int32} {d : Nat} {Q : xO → Prop} (x1 : Int32) (x2 : Int32) (x3 : Int32) (s0 : Int32) (I : xI) (J : xJ) {t : Int32 × xI × xJ} (h : f_X12_shown_13 x1 x2 x3 s0 I J = some t) (hC : (c_X12_shown Q) t) : Rn L xs (d + 7) 232 61 [some (.ref 61), some (.int x1), some (.int x2), some (.int x3)] [.int s0] 94 (I, J, xrf) Q := by
  unfold f_X12_shown_13 at h
  refine Rn.fi 1 (c := s0 = 0) (p1 := 78) (l1 := [some (.ref 61), some (.int x1), some (.int x2), some (.int x3)]) (s1 := []) (n1 := 94) (M1 := (I, J, xrf)) (p2 := 64) (l2 := [some (.ref 61), some (.int x1), some (.int x2), some (.int x3)]) (s2 := []) (n2 := 94) (M2 := (I, J, xrf)) (fun f => rfl) (fun hc => ?_) (fun hc => ?_)
  · rw [if_pos hc] at h
    exact p_X12_shown_15 x1 x2 x3 I J h hC
  · rw [if_neg hc] at h
    exact p_X12_shown_14 x1 x2 x3 I J h hC
theorem p_X12_shown_12 {L : Nat} {xs : Nat → Int32} {d : Nat} {Q : xO → Prop} (x1 : Int32) (x2 : Int32) (x3 : Int32) (I : xI) (J : xJ) {t : Int32 × xI × xJ} (h : f_X12_shown_12 x1 x2 x3 I J = some t) (hC : (c_X12_shown Q) t) : Rn L xs (d + 7) 232 53 [some (.ref 61), some (.int x1), some (.int x2), some (.int x3)] [] 94 (I, J, xrf) Q := by
  unfold f_X12_shown_12 at h
  refine Rn.go 5 (j' := 232) (pc' := 58) (ls' := [some (.ref 61), some (.int x1), some (.int x2), some (.int x3)]) (st' := [.int ((x2 - 1)), .int 0, .int x1]) (n' := 94) (M' := (I, J, xrf)) (fun f => rfl) ?_
  obtain ⟨o, ho, h⟩ := Option.bind_eq_some_iff.mp h
  refine Rn.call (d1 := d + 6) (j1 := 206) (ls1 := [some (.int x1), some (.int 0), some (.int ((x2 - 1)))]) (rest := []) (fun f => rfl) ?_
  refine p_X12_in (d := d + 5) x1 0 ((x2 - 1)) I J (t := o) ho ?_
  exact p_X12_shown_13 x1 x2 x3 o.1 o.2.1 o.2.2 h hC
theorem p_X12_shown_11 {L : Nat} {xs : Nat → Int32} {d : Nat} {Q : xO → Prop} (x1 : Int32) (x2 : Int32) (x3 : Int32) (I : xI) (J : xJ) {t : Int32 × xI × xJ} (h : f_X12_shown_11 x1 x2 x3 I J = some t) (hC : (c_X12_shown Q) t) : Rn L xs (d + 7) 232 49 [some (.ref 61), some (.int x1), some (.int x2), some (.int x3)] [] 94 (I, J, xrf) Q := by
  unfold f_X12_shown_11 at h
  refine Rn.go 2 (j' := 232) (pc' := 79) (ls' := [some (.ref 61), some (.int x1), some (.int x2), some (.int x3)]) (st' := [.int x2]) (n' := 94) (M' := (I, J, xrf)) (fun f => rfl) ?_
  exact p_X12_shown_16 x1 x2 x3 x2 I J h hC
theorem p_X12_shown_10 {L : Nat} {xs : Nat → Int32} {d : Nat} {Q : xO → Prop} (x1 : Int32) (x2 : Int32) (x3 : Int32) (I : xI) (J : xJ) {t : Int32 × xI × xJ} (h : f_X12_shown_10 x1 x2 x3 I J = some t) (hC : (c_X12_shown Q) t) : Rn L xs (d + 7) 232 44 [some (.ref 61), some (.int x1), some (.int x2), some (.int x3)] [] 94 (I, J, xrf) Q := by
  unfold f_X12_shown_10 at h
  refine Rn.fi 3 (c := x1 = (-1)) (p1 := 49) (l1 := [some (.ref 61), some (.int x1), some (.int x2), some (.int x3)]) (s1 := []) (n1 := 94) (M1 := (I, J, xrf)) (p2 := 53) (l2 := [some (.ref 61), some (.int x1), some (.int x2), some (.int x3)]) (s2 := []) (n2 := 94) (M2 := (I, J, xrf)) (fun f => rfl) (fun hc => ?_) (fun hc => ?_)
  · rw [if_pos hc] at h
    exact p_X12_shown_11 x1 x2 x3 I J h hC
  · rw [if_neg hc] at h
    exact p_X12_shown_12 x1 x2 x3 I J h hC
theorem p_X12_shown_9 {L : Nat} {xs : Nat → Int32} {d : Nat} {Q : xO → Prop} (x1 : Int32) (x2 : Int32) (x3 : Int32) (I : xI) (J : xJ) {t : (Int32 × Int32 × Int32 × xI × xJ) ⊕ ((Int32 × Int32 × (Option Value) × xI × xJ) ⊕ (Int32 × xI × xJ))} (h : f_X12_shown_9 x1 x2 x3 I J = some t) (hC : (c_X12_shown_4 L xs d Q) t) : Rn L xs (d + 7) 232 41 [some (.ref 61), some (.int x1), some (.int x2), some (.int x3)] [] 94 (I, J, xrf) Q := by
  unfold f_X12_shown_9 at h
  refine Rn.go 1 (j' := 232) (pc' := 80) (ls' := [some (.ref 61), some (.int x1), some (.int x2), some (.int x3)]) (st' := []) (n' := 94) (M' := (I, J, xrf)) (fun f => rfl) ?_
  exact p_X12_shown_17 x1 x2 x3 I J h hC
theorem p_X12_shown_8 {L : Nat} {xs : Nat → Int32} {d : Nat} {Q : xO → Prop} (x1 : Int32) (x2 : Int32) (x3 : Int32) (s0 : Int32) (I : xI) (J : xJ) {t : (Int32 × Int32 × Int32 × xI × xJ) ⊕ ((Int32 × Int32 × (Option Value) × xI × xJ) ⊕ (Int32 × xI × xJ))} (h : f_X12_shown_8 x1 x2 x3 s0 I J = some t) (hC : (c_X12_shown_4 L xs d Q) t) : Rn L xs (d + 7) 232 38 [some (.ref 61), some (.int x1), some (.int x2), some (.int x3)] [.int s0] 94 (I, J, xrf) Q := by
  unfold f_X12_shown_8 at h
  refine Rn.fi 1 (c := s0 = 0) (p1 := 41) (l1 := [some (.ref 61), some (.int x1), some (.int x2), some (.int x3)]) (s1 := []) (n1 := 94) (M1 := (I, J, xrf)) (p2 := 44) (l2 := [some (.ref 61), some (.int x1), some (.int x2), some (.int x3)]) (s2 := []) (n2 := 94) (M2 := (I, J, xrf)) (fun f => rfl) (fun hc => ?_) (fun hc => ?_)
  · rw [if_pos hc] at h
    exact p_X12_shown_9 x1 x2 x3 I J h hC
  · rw [if_neg hc] at h
    obtain ⟨t0, h0, rfl⟩ := Option.map_eq_some_iff.mp h
    obtain ⟨t1, h1, rfl⟩ := Option.map_eq_some_iff.mp h0
    exact p_X12_shown_10 x1 x2 x3 I J h1 hC
theorem p_X12_shown_7 {L : Nat} {xs : Nat → Int32} {d : Nat} {Q : xO → Prop} (x1 : Int32) (x2 : Int32) (x3 : Int32) (I : xI) (J : xJ) {t : (Int32 × Int32 × Int32 × xI × xJ) ⊕ ((Int32 × Int32 × (Option Value) × xI × xJ) ⊕ (Int32 × xI × xJ))} (h : f_X12_shown_7 x1 x2 x3 I J = some t) (hC : (c_X12_shown_4 L xs d Q) t) : Rn L xs (d + 7) 232 32 [some (.ref 61), some (.int x1), some (.int x2), some (.int x3)] [] 94 (I, J, xrf) Q := by
  unfold f_X12_shown_7 at h
  refine Rn.go 3 (j' := 232) (pc' := 35) (ls' := [some (.ref 61), some (.int x1), some (.int x2), some (.int x3)]) (st' := [.int x2, .int x3, .ref 61]) (n' := 94) (M' := (I, J, xrf)) (fun f => rfl) ?_
  obtain ⟨o, ho, h⟩ := Option.bind_eq_some_iff.mp h
  refine Rn.call (d1 := d + 6) (j1 := 231) (ls1 := [some (.ref 61), some (.int x3), some (.int x2), none, none]) (rest := []) (fun f => rfl) ?_
  refine p_X12_doesShow (d := d + 2) x3 x2 I J (t := o) ho ?_
  exact p_X12_shown_8 x1 x2 x3 o.1 o.2.1 o.2.2 h hC
theorem p_X12_shown_6 {L : Nat} {xs : Nat → Int32} {d : Nat} {Q : xO → Prop} (x1 : Int32) (x2 : Int32) (x3 : Int32) (s0 : Int32) (I : xI) (J : xJ) {t : (Int32 × Int32 × Int32 × xI × xJ) ⊕ ((Int32 × Int32 × (Option Value) × xI × xJ) ⊕ (Int32 × xI × xJ))} (h : f_X12_shown_6 x1 x2 x3 s0 I J = some t) (hC : (c_X12_shown_4 L xs d Q) t) : Rn L xs (d + 7) 232 29 [some (.ref 61), some (.int x1), some (.int x2), some (.int x3)] [.int s0] 94 (I, J, xrf) Q := by
  unfold f_X12_shown_6 at h
  refine Rn.fi 1 (c := s0 = 0) (p1 := 80) (l1 := [some (.ref 61), some (.int x1), some (.int x2), some (.int x3)]) (s1 := []) (n1 := 94) (M1 := (I, J, xrf)) (p2 := 32) (l2 := [some (.ref 61), some (.int x1), some (.int x2), some (.int x3)]) (s2 := []) (n2 := 94) (M2 := (I, J, xrf)) (fun f => rfl) (fun hc => ?_) (fun hc => ?_)
  · rw [if_pos hc] at h
    exact p_X12_shown_17 x1 x2 x3 I J h hC
  · rw [if_neg hc] at h
    exact p_X12_shown_7 x1 x2 x3 I J h hC
theorem p_X12_shown_5 {L : Nat} {xs : Nat → Int32} {d : Nat} {Q : xO → Prop} (x1 : Int32) (x2 : Int32) (x3 : Int32) (I : xI) (J : xJ) {t : (Int32 × Int32 × Int32 × xI × xJ) ⊕ ((Int32 × Int32 × (Option Value) × xI × xJ) ⊕ (Int32 × xI × xJ))} (h : f_X12_shown_5 x1 x2 x3 I J = some t) (hC : (c_X12_shown_4 L xs d Q) t) : Rn L xs (d + 7) 232 23 [some (.ref 61), some (.int x1), some (.int x2), some (.int x3)] [] 94 (I, J, xrf) Q := by
  unfold f_X12_shown_5 at h
  refine Rn.go 3 (j' := 232) (pc' := 26) (ls' := [some (.ref 61), some (.int x1), some (.int x2), some (.int x3)]) (st' := [.int x2, .int x3, .ref 61]) (n' := 94) (M' := (I, J, xrf)) (fun f => rfl) ?_
  obtain ⟨o, ho, h⟩ := Option.bind_eq_some_iff.mp h
  refine Rn.call (d1 := d + 6) (j1 := 230) (ls1 := [some (.ref 61), some (.int x3), some (.int x2), none]) (rest := []) (fun f => rfl) ?_
  refine p_X12_isWord (d := d + 4) x3 x2 I J (t := o) ho ?_
  exact p_X12_shown_6 x1 x2 x3 o.1 o.2.1 o.2.2 h hC
theorem q_X12_shown_4 {L : Nat} {xs : Nat → Int32} {d : Nat} {Q : xO → Prop} (x1 : Int32) (x2 : Int32) (x3 : Int32) (I : xI) (J : xJ) {t : (Int32 × Int32 × Int32 × xI × xJ) ⊕ ((Int32 × Int32 × (Option Value) × xI × xJ) ⊕ (Int32 × xI × xJ))} (h : b_X12_shown_4 x1 x2 x3 I J = some t) (hC : (c_X12_shown_4 L xs d Q) t) : Rn L xs (d + 7) 232 14 [some (.ref 61), some (.int x1), some (.int x2), some (.int x3)] [] 94 (I, J, xrf) Q := by
  unfold b_X12_shown_4 at h
  refine Rn.fi 7 (c := (1 <<< ((2 * x2) &&& 31)) ≤ x3) (p1 := 86) (l1 := [some (.ref 61), some (.int x1), some (.int x2), some (.int x3)]) (s1 := []) (n1 := 94) (M1 := (I, J, xrf)) (p2 := 23) (l2 := [some (.ref 61), some (.int x1), some (.int x2), some (.int x3)]) (s2 := []) (n2 := 94) (M2 := (I, J, xrf)) (fun f => rfl) (fun hc => ?_) (fun hc => ?_)
  · rw [if_pos hc] at h
    obtain ⟨t0, h0, rfl⟩ := Option.map_eq_some_iff.mp h
    exact p_X12_shown_18 x1 x2 x3 I J h0 hC
  · rw [if_neg hc] at h
    exact p_X12_shown_5 x1 x2 x3 I J h hC
theorem p_X12_shown_4 {L : Nat} {xs : Nat → Int32} {d : Nat} {Q : xO → Prop} (x1 : Int32) (x2 : Int32) (x3 : Int32) (I : xI) (J : xJ) {t : (Int32 × Int32 × (Option Value) × xI × xJ) ⊕ (Int32 × xI × xJ)} (h : f_X12_shown_4 x1 x2 x3 I J = some t) (hC : (c_X12_shown_2 L xs d Q) t) : Rn L xs (d + 7) 232 14 [some (.ref 61), some (.int x1), some (.int x2), some (.int x3)] [] 94 (I, J, xrf) Q := by
  unfold f_X12_shown_4 at h
  exact xloop_some (P := fun s : Int32 × Int32 × Int32 × xI × xJ => Rn L xs (d + 7) 232 14 [some (.ref 61), some (.int s.1), some (.int s.2.1), some (.int s.2.2.1)] [] 94 (s.2.2.2.1, s.2.2.2.2, xrf) Q) t (fun s ⟨s', hb, hp⟩ => q_X12_shown_4 s.1 s.2.1 s.2.2.1 s.2.2.2.1 s.2.2.2.2 hb hp) (fun s hb => q_X12_shown_4 s.1 s.2.1 s.2.2.1 s.2.2.2.1 s.2.2.2.2 hb hC) _ _ h
theorem p_X12_shown_3 {L : Nat} {xs : Nat → Int32} {d : Nat} {Q : xO → Prop} (x1 : Int32) (x2 : Int32) (z3 : Option Value) (I : xI) (J : xJ) {t : (Int32 × Int32 × (Option Value) × xI × xJ) ⊕ (Int32 × xI × xJ)} (h : f_X12_shown_3 x1 x2 z3 I J = some t) (hC : (c_X12_shown_2 L xs d Q) t) : Rn L xs (d + 7) 232 12 [some (.ref 61), some (.int x1), some (.int x2), z3] [] 94 (I, J, xrf) Q := by
  unfold f_X12_shown_3 at h
  refine Rn.go 2 (j' := 232) (pc' := 14) (ls' := [some (.ref 61), some (.int x1), some (.int x2), some (.int 0)]) (st' := []) (n' := 94) (M' := (I, J, xrf)) (fun f => rfl) ?_
  exact p_X12_shown_4 x1 x2 0 I J h hC
theorem q_X12_shown_2 {L : Nat} {xs : Nat → Int32} {d : Nat} {Q : xO → Prop} (x1 : Int32) (x2 : Int32) (z3 : Option Value) (I : xI) (J : xJ) {t : (Int32 × Int32 × (Option Value) × xI × xJ) ⊕ (Int32 × xI × xJ)} (h : b_X12_shown_2 x1 x2 z3 I J = some t) (hC : (c_X12_shown_2 L xs d Q) t) : Rn L xs (d + 7) 232 6 [some (.ref 61), some (.int x1), some (.int x2), z3] [] 94 (I, J, xrf) Q := by
  unfold b_X12_shown_2 at h
  refine Rn.fi 3 (c := 6 < x2) (p1 := 92) (l1 := [some (.ref 61), some (.int x1), some (.int x2), z3]) (s1 := []) (n1 := 94) (M1 := (I, J, xrf)) (p2 := 12) (l2 := [some (.ref 61), some (.int x1), some (.int x2), z3]) (s2 := []) (n2 := 94) (M2 := (I, J, xrf)) (fun f => rfl) (fun hc => ?_) (fun hc => ?_)
  · rw [if_pos hc] at h
    obtain ⟨t0, h0, rfl⟩ := Option.map_eq_some_iff.mp h
    exact p_X12_shown_19 x1 x2 z3 I J h0 hC
  · rw [if_neg hc] at h
    exact p_X12_shown_3 x1 x2 z3 I J h hC
theorem p_X12_shown_2 {L : Nat} {xs : Nat → Int32} {d : Nat} {Q : xO → Prop} (x1 : Int32) (x2 : Int32) (z3 : Option Value) (I : xI) (J : xJ) {t : Int32 × xI × xJ} (h : f_X12_shown_2 x1 x2 z3 I J = some t) (hC : (c_X12_shown Q) t) : Rn L xs (d + 7) 232 6 [some (.ref 61), some (.int x1), some (.int x2), z3] [] 94 (I, J, xrf) Q := by
  unfold f_X12_shown_2 at h
  exact xloop_some (P := fun s : Int32 × Int32 × (Option Value) × xI × xJ => Rn L xs (d + 7) 232 6 [some (.ref 61), some (.int s.1), some (.int s.2.1), s.2.2.1] [] 94 (s.2.2.2.1, s.2.2.2.2, xrf) Q) t (fun s ⟨s', hb, hp⟩ => q_X12_shown_2 s.1 s.2.1 s.2.2.1 s.2.2.2.1 s.2.2.2.2 hb hp) (fun s hb => q_X12_shown_2 s.1 s.2.1 s.2.2.1 s.2.2.2.1 s.2.2.2.2 hb hC) _ _ h
theorem p_X12_shown_1 {L : Nat} {xs : Nat → Int32} {d : Nat} {Q : xO → Prop} (x1 : Int32) (I : xI) (J : xJ) {t : Int32 × xI × xJ} (h : f_X12_shown_1 x1 I J = some t) (hC : (c_X12_shown Q) t) : Rn L xs (d + 7) 232 4 [some (.ref 61), some (.int x1), none, none] [] 94 (I, J, xrf) Q := by
  unfold f_X12_shown_1 at h
  refine Rn.go 2 (j' := 232) (pc' := 6) (ls' := [some (.ref 61), some (.int x1), some (.int 0), none]) (st' := []) (n' := 94) (M' := (I, J, xrf)) (fun f => rfl) ?_
  exact p_X12_shown_2 x1 0 none I J h hC
theorem p_X12_shown_0 {L : Nat} {xs : Nat → Int32} {d : Nat} {Q : xO → Prop} (x1 : Int32) (I : xI) (J : xJ) {t : Int32 × xI × xJ} (h : f_X12_shown_0 x1 I J = some t) (hC : (c_X12_shown Q) t) : Rn L xs (d + 7) 232 0 [some (.ref 61), some (.int x1), none, none] [] 94 (I, J, xrf) Q := by
  unfold f_X12_shown_0 at h
  refine Rn.go 1 (j' := 232) (pc' := 1) (ls' := [some (.ref 61), some (.int x1), none, none]) (st' := [.ref 61]) (n' := 94) (M' := (I, J, xrf)) (fun f => rfl) ?_
  obtain ⟨o, ho, h⟩ := Option.bind_eq_some_iff.mp h
  refine Rn.call (d1 := d + 6) (j1 := 223) (ls1 := [some (.ref 61)]) (rest := []) (fun f => rfl) ?_
  refine p_X12_knows (d := d + 0) I J (t := o) ho ?_
  exact p_X12_shown_1 x1 o.2.1 o.2.2 h hC
theorem p_X12_shown {L : Nat} {xs : Nat → Int32} {d : Nat} {Q : xO → Prop} (x1 : Int32) (I : xI) (J : xJ) {t : Int32 × xI × xJ} (h : f_X12_shown x1 I J = some t) (hC : Q ((some (.int t.1)), 94, (t.2.1, t.2.2, xrf))) : Rn L xs (d + 7) 232 0 [some (.ref 61), some (.int x1), none, none] [] 94 (I, J, xrf) Q := p_X12_shown_0 x1 I J h hC
/-! X12_classes -/
def c_X12_classes (Q : xO → Prop) (t : Int32 × xI × xJ) : Prop := Q ((some (.int t.1)), 94, (t.2.1, t.2.2, xrf))
def f_X12_classes_1 (I : xI) (J : xJ) : Option (Int32 × xI × xJ) := some ((I 61 33), I, J)
def f_X12_classes_0 (I : xI) (J : xJ) : Option (Int32 × xI × xJ) := (f_X12_knows I J).bind fun o => f_X12_classes_1 o.2.1 o.2.2
def f_X12_classes (I : xI) (J : xJ) : Option (Int32 × xI × xJ) := f_X12_classes_0 I J
theorem p_X12_classes_1 {L : Nat} {xs : Nat → Int32} {d : Nat} {Q : xO → Prop} (I : xI) (J : xJ) {t : Int32 × xI × xJ} (h : f_X12_classes_1 I J = some t) (hC : (c_X12_classes Q) t) : Rn L xs (d + 7) 235 4 [some (.ref 61)] [] 94 (I, J, xrf) Q := by
  unfold f_X12_classes_1 at h
  cases h
  exact Rn.ret 3 (o := ((some (.int ((I 61 33)))), 94, (I, J, xrf))) (fun f => rfl) hC
theorem p_X12_classes_0 {L : Nat} {xs : Nat → Int32} {d : Nat} {Q : xO → Prop} (I : xI) (J : xJ) {t : Int32 × xI × xJ} (h : f_X12_classes_0 I J = some t) (hC : (c_X12_classes Q) t) : Rn L xs (d + 7) 235 0 [some (.ref 61)] [] 94 (I, J, xrf) Q := by
  unfold f_X12_classes_0 at h
  refine Rn.go 1 (j' := 235) (pc' := 1) (ls' := [some (.ref 61)]) (st' := [.ref 61]) (n' := 94) (M' := (I, J, xrf)) (fun f => rfl) ?_
  obtain ⟨o, ho, h⟩ := Option.bind_eq_some_iff.mp h
  refine Rn.call (d1 := d + 6) (j1 := 223) (ls1 := [some (.ref 61)]) (rest := []) (fun f => rfl) ?_
  refine p_X12_knows (d := d + 0) I J (t := o) ho ?_
  exact p_X12_classes_1 o.2.1 o.2.2 h hC
theorem p_X12_classes {L : Nat} {xs : Nat → Int32} {d : Nat} {Q : xO → Prop} (I : xI) (J : xJ) {t : Int32 × xI × xJ} (h : f_X12_classes I J = some t) (hC : Q ((some (.int t.1)), 94, (t.2.1, t.2.2, xrf))) : Rn L xs (d + 7) 235 0 [some (.ref 61)] [] 94 (I, J, xrf) Q := p_X12_classes_0 I J h hC
/-! X12_ofRow_78 -/
def c_X12_ofRow_78 (Q : xO → Prop) (t : Int32 × xI × xJ) : Prop := Q ((some (.int t.1)), 94, (t.2.1, t.2.2, xrf))
def f_X12_ofRow_78_6 (x1 : Int32) (x2 : Int32) (s0 : Int32) (I : xI) (J : xJ) : Option (Int32 × xI × xJ) := some (s0, I, J)
def f_X12_ofRow_78_5 (x1 : Int32) (x2 : Int32) (I : xI) (J : xJ) : Option (Int32 × xI × xJ) := f_X12_ofRow_78_6 x1 x2 ((-1)) I J
def f_X12_ofRow_78_4 (x1 : Int32) (x2 : Int32) (I : xI) (J : xJ) : Option (Int32 × xI × xJ) := if x2 < 0 ∨ 63 ≤ x2.toNatClampNeg then none else f_X12_ofRow_78_6 x1 x2 ((I 78 x2.toNatClampNeg)) I J
def f_X12_ofRow_78_3 (x1 : Int32) (x2 : Int32) (s0 : Int32) (I : xI) (J : xJ) : Option (Int32 × xI × xJ) := if s0 = 0 then f_X12_ofRow_78_5 x1 x2 I J else f_X12_ofRow_78_4 x1 x2 I J
def f_X12_ofRow_78_2 (x1 : Int32) (x2 : Int32) (I : xI) (J : xJ) : Option (Int32 × xI × xJ) := (f_X12_in x2 0 ((x1 - 1)) I J).bind fun o => f_X12_ofRow_78_3 x1 x2 o.1 o.2.1 o.2.2
def f_X12_ofRow_78_1 (x1 : Int32) (x2 : Int32) (I : xI) (J : xJ) : Option (Int32 × xI × xJ) := f_X12_ofRow_78_6 x1 x2 x1 I J
def f_X12_ofRow_78_0 (x1 : Int32) (x2 : Int32) (I : xI) (J : xJ) : Option (Int32 × xI × xJ) := if x2 = (-1) then f_X12_ofRow_78_1 x1 x2 I J else f_X12_ofRow_78_2 x1 x2 I J
def f_X12_ofRow_78 (x1 : Int32) (x2 : Int32) (I : xI) (J : xJ) : Option (Int32 × xI × xJ) := f_X12_ofRow_78_0 x1 x2 I J
theorem p_X12_ofRow_78_6 {L : Nat} {xs : Nat → Int32} {d : Nat} {Q : xO → Prop} (x1 : Int32) (x2 : Int32) (s0 : Int32) (I : xI) (J : xJ) {t : Int32 × xI × xJ} (h : f_X12_ofRow_78_6 x1 x2 s0 I J = some t) (hC : (c_X12_ofRow_78 Q) t) : Rn L xs (d + 2) 236 27 [some (.ref 78), some (.int x1), some (.int x2)] [.int s0] 94 (I, J, xrf) Q := by
  unfold f_X12_ofRow_78_6 at h
  cases h
  exact Rn.ret 1 (o := ((some (.int s0)), 94, (I, J, xrf))) (fun f => rfl) hC
theorem p_X12_ofRow_78_5 {L : Nat} {xs : Nat → Int32} {d : Nat} {Q : xO → Prop} (x1 : Int32) (x2 : Int32) (I : xI) (J : xJ) {t : Int32 × xI × xJ} (h : f_X12_ofRow_78_5 x1 x2 I J = some t) (hC : (c_X12_ofRow_78 Q) t) : Rn L xs (d + 2) 236 26 [some (.ref 78), some (.int x1), some (.int x2)] [] 94 (I, J, xrf) Q := by
  unfold f_X12_ofRow_78_5 at h
  refine Rn.go 1 (j' := 236) (pc' := 27) (ls' := [some (.ref 78), some (.int x1), some (.int x2)]) (st' := [.int ((-1))]) (n' := 94) (M' := (I, J, xrf)) (fun f => rfl) ?_
  exact p_X12_ofRow_78_6 x1 x2 ((-1)) I J h hC
theorem p_X12_ofRow_78_4 {L : Nat} {xs : Nat → Int32} {d : Nat} {Q : xO → Prop} (x1 : Int32) (x2 : Int32) (I : xI) (J : xJ) {t : Int32 × xI × xJ} (h : f_X12_ofRow_78_4 x1 x2 I J = some t) (hC : (c_X12_ofRow_78 Q) t) : Rn L xs (d + 2) 236 20 [some (.ref 78), some (.int x1), some (.int x2)] [] 94 (I, J, xrf) Q := by
  unfold f_X12_ofRow_78_4 at h
  obtain ⟨hc, h⟩ := xif h
  refine Rn.ok 3 (c := x2 < 0 ∨ 63 ≤ x2.toNatClampNeg) (p1 := 23) (l1 := [some (.ref 78), some (.int x1), some (.int x2)]) (s1 := [.int ((I 78 x2.toNatClampNeg))]) (n1 := 94) (M1 := (I, J, xrf)) (fun f => rfl) hc ?_
  refine Rn.go 1 (j' := 236) (pc' := 27) (ls' := [some (.ref 78), some (.int x1), some (.int x2)]) (st' := [.int ((I 78 x2.toNatClampNeg))]) (n' := 94) (M' := (I, J, xrf)) (fun f => rfl) ?_
  exact p_X12_ofRow_78_6 x1 x2 ((I 78 x2.toNatClampNeg)) I J h hC
theorem p_X12_ofRow_78_3 {L : Nat} {xs : Nat → Int32} {d : Nat} {Q : xO → Prop} (x1 : Int32) (x2 : Int32) (s0 : Int32) (I : xI) (J : xJ) {t : Int32 × xI × xJ} (h : f_X12_ofRow_78_3 x1 x2 s0 I J = some t) (hC : (c_X12_ofRow_78 Q) t) : Rn L xs (d + 2) 236 17 [some (.ref 78), some (.int x1), some (.int x2)] [.int s0] 94 (I, J, xrf) Q := by
  unfold f_X12_ofRow_78_3 at h
  refine Rn.fi 1 (c := s0 = 0) (p1 := 26) (l1 := [some (.ref 78), some (.int x1), some (.int x2)]) (s1 := []) (n1 := 94) (M1 := (I, J, xrf)) (p2 := 20) (l2 := [some (.ref 78), some (.int x1), some (.int x2)]) (s2 := []) (n2 := 94) (M2 := (I, J, xrf)) (fun f => rfl) (fun hc => ?_) (fun hc => ?_)
  · rw [if_pos hc] at h
    exact p_X12_ofRow_78_5 x1 x2 I J h hC
  · rw [if_neg hc] at h
    exact p_X12_ofRow_78_4 x1 x2 I J h hC
theorem p_X12_ofRow_78_2 {L : Nat} {xs : Nat → Int32} {d : Nat} {Q : xO → Prop} (x1 : Int32) (x2 : Int32) (I : xI) (J : xJ) {t : Int32 × xI × xJ} (h : f_X12_ofRow_78_2 x1 x2 I J = some t) (hC : (c_X12_ofRow_78 Q) t) : Rn L xs (d + 2) 236 9 [some (.ref 78), some (.int x1), some (.int x2)] [] 94 (I, J, xrf) Q := by
  unfold f_X12_ofRow_78_2 at h
  refine Rn.go 5 (j' := 236) (pc' := 14) (ls' := [some (.ref 78), some (.int x1), some (.int x2)]) (st' := [.int ((x1 - 1)), .int 0, .int x2]) (n' := 94) (M' := (I, J, xrf)) (fun f => rfl) ?_
  obtain ⟨o, ho, h⟩ := Option.bind_eq_some_iff.mp h
  refine Rn.call (d1 := d + 1) (j1 := 206) (ls1 := [some (.int x2), some (.int 0), some (.int ((x1 - 1)))]) (rest := []) (fun f => rfl) ?_
  refine p_X12_in (d := d + 0) x2 0 ((x1 - 1)) I J (t := o) ho ?_
  exact p_X12_ofRow_78_3 x1 x2 o.1 o.2.1 o.2.2 h hC
theorem p_X12_ofRow_78_1 {L : Nat} {xs : Nat → Int32} {d : Nat} {Q : xO → Prop} (x1 : Int32) (x2 : Int32) (I : xI) (J : xJ) {t : Int32 × xI × xJ} (h : f_X12_ofRow_78_1 x1 x2 I J = some t) (hC : (c_X12_ofRow_78 Q) t) : Rn L xs (d + 2) 236 5 [some (.ref 78), some (.int x1), some (.int x2)] [] 94 (I, J, xrf) Q := by
  unfold f_X12_ofRow_78_1 at h
  refine Rn.go 2 (j' := 236) (pc' := 27) (ls' := [some (.ref 78), some (.int x1), some (.int x2)]) (st' := [.int x1]) (n' := 94) (M' := (I, J, xrf)) (fun f => rfl) ?_
  exact p_X12_ofRow_78_6 x1 x2 x1 I J h hC
theorem p_X12_ofRow_78_0 {L : Nat} {xs : Nat → Int32} {d : Nat} {Q : xO → Prop} (x1 : Int32) (x2 : Int32) (I : xI) (J : xJ) {t : Int32 × xI × xJ} (h : f_X12_ofRow_78_0 x1 x2 I J = some t) (hC : (c_X12_ofRow_78 Q) t) : Rn L xs (d + 2) 236 0 [some (.ref 78), some (.int x1), some (.int x2)] [] 94 (I, J, xrf) Q := by
  unfold f_X12_ofRow_78_0 at h
  refine Rn.fi 3 (c := x2 = (-1)) (p1 := 5) (l1 := [some (.ref 78), some (.int x1), some (.int x2)]) (s1 := []) (n1 := 94) (M1 := (I, J, xrf)) (p2 := 9) (l2 := [some (.ref 78), some (.int x1), some (.int x2)]) (s2 := []) (n2 := 94) (M2 := (I, J, xrf)) (fun f => rfl) (fun hc => ?_) (fun hc => ?_)
  · rw [if_pos hc] at h
    exact p_X12_ofRow_78_1 x1 x2 I J h hC
  · rw [if_neg hc] at h
    exact p_X12_ofRow_78_2 x1 x2 I J h hC
theorem p_X12_ofRow_78 {L : Nat} {xs : Nat → Int32} {d : Nat} {Q : xO → Prop} (x1 : Int32) (x2 : Int32) (I : xI) (J : xJ) {t : Int32 × xI × xJ} (h : f_X12_ofRow_78 x1 x2 I J = some t) (hC : Q ((some (.int t.1)), 94, (t.2.1, t.2.2, xrf))) : Rn L xs (d + 2) 236 0 [some (.ref 78), some (.int x1), some (.int x2)] [] 94 (I, J, xrf) Q := p_X12_ofRow_78_0 x1 x2 I J h hC
/-! X12_greatest -/
def c_X12_greatest (Q : xO → Prop) (t : Int32 × xI × xJ) : Prop := Q ((some (.int t.1)), 94, (t.2.1, t.2.2, xrf))
def f_X12_greatest_2 (x1 : Int32) (s0 : Int32) (I : xI) (J : xJ) : Option (Int32 × xI × xJ) := some (s0, I, J)
def f_X12_greatest_1 (x1 : Int32) (I : xI) (J : xJ) : Option (Int32 × xI × xJ) := (f_X12_ofRow_78 ((I 61 35)) x1 I J).bind fun o => f_X12_greatest_2 x1 o.1 o.2.1 o.2.2
def f_X12_greatest_0 (x1 : Int32) (I : xI) (J : xJ) : Option (Int32 × xI × xJ) := (f_X12_knows I J).bind fun o => f_X12_greatest_1 x1 o.2.1 o.2.2
def f_X12_greatest (x1 : Int32) (I : xI) (J : xJ) : Option (Int32 × xI × xJ) := f_X12_greatest_0 x1 I J
theorem p_X12_greatest_2 {L : Nat} {xs : Nat → Int32} {d : Nat} {Q : xO → Prop} (x1 : Int32) (s0 : Int32) (I : xI) (J : xJ) {t : Int32 × xI × xJ} (h : f_X12_greatest_2 x1 s0 I J = some t) (hC : (c_X12_greatest Q) t) : Rn L xs (d + 7) 237 16 [some (.ref 61), some (.int x1)] [.int s0] 94 (I, J, xrf) Q := by
  unfold f_X12_greatest_2 at h
  cases h
  exact Rn.ret 1 (o := ((some (.int s0)), 94, (I, J, xrf))) (fun f => rfl) hC
theorem p_X12_greatest_1 {L : Nat} {xs : Nat → Int32} {d : Nat} {Q : xO → Prop} (x1 : Int32) (I : xI) (J : xJ) {t : Int32 × xI × xJ} (h : f_X12_greatest_1 x1 I J = some t) (hC : (c_X12_greatest Q) t) : Rn L xs (d + 7) 237 4 [some (.ref 61), some (.int x1)] [] 94 (I, J, xrf) Q := by
  unfold f_X12_greatest_1 at h
  refine Rn.go 5 (j' := 237) (pc' := 13) (ls' := [some (.ref 61), some (.int x1)]) (st' := [.int x1, .int ((I 61 35)), .ref 78]) (n' := 94) (M' := (I, J, xrf)) (fun f => rfl) ?_
  obtain ⟨o, ho, h⟩ := Option.bind_eq_some_iff.mp h
  refine Rn.call (d1 := d + 6) (j1 := 236) (ls1 := [some (.ref 78), some (.int ((I 61 35))), some (.int x1)]) (rest := []) (fun f => rfl) ?_
  refine p_X12_ofRow_78 (d := d + 4) ((I 61 35)) x1 I J (t := o) ho ?_
  exact p_X12_greatest_2 x1 o.1 o.2.1 o.2.2 h hC
theorem p_X12_greatest_0 {L : Nat} {xs : Nat → Int32} {d : Nat} {Q : xO → Prop} (x1 : Int32) (I : xI) (J : xJ) {t : Int32 × xI × xJ} (h : f_X12_greatest_0 x1 I J = some t) (hC : (c_X12_greatest Q) t) : Rn L xs (d + 7) 237 0 [some (.ref 61), some (.int x1)] [] 94 (I, J, xrf) Q := by
  unfold f_X12_greatest_0 at h
  refine Rn.go 1 (j' := 237) (pc' := 1) (ls' := [some (.ref 61), some (.int x1)]) (st' := [.ref 61]) (n' := 94) (M' := (I, J, xrf)) (fun f => rfl) ?_
  obtain ⟨o, ho, h⟩ := Option.bind_eq_some_iff.mp h
  refine Rn.call (d1 := d + 6) (j1 := 223) (ls1 := [some (.ref 61)]) (rest := []) (fun f => rfl) ?_
  refine p_X12_knows (d := d + 0) I J (t := o) ho ?_
  exact p_X12_greatest_1 x1 o.2.1 o.2.2 h hC
theorem p_X12_greatest {L : Nat} {xs : Nat → Int32} {d : Nat} {Q : xO → Prop} (x1 : Int32) (I : xI) (J : xJ) {t : Int32 × xI × xJ} (h : f_X12_greatest x1 I J = some t) (hC : Q ((some (.int t.1)), 94, (t.2.1, t.2.2, xrf))) : Rn L xs (d + 7) 237 0 [some (.ref 61), some (.int x1)] [] 94 (I, J, xrf) Q := p_X12_greatest_0 x1 I J h hC
/-! X12_isSet -/
def c_X12_isSet (Q : xO → Prop) (t : Int32 × xI × xJ) : Prop := Q ((some (.int t.1)), 94, (t.2.1, t.2.2, xrf))
def f_X12_isSet_1 (x1 : Int32) (x2 : Int32) (s0 : Int32) (I : xI) (J : xJ) : Option (Int32 × xI × xJ) := if s0 = 0 ∨ s0 = 1 then some (s0, I, J) else none
def f_X12_isSet_0 (x1 : Int32) (x2 : Int32) (I : xI) (J : xJ) : Option (Int32 × xI × xJ) := (f_X12_in x1 x2 (((1 <<< ((I 61 17) &&& 31)) - 1)) I J).bind fun o => f_X12_isSet_1 x1 x2 o.1 o.2.1 o.2.2
def f_X12_isSet (x1 : Int32) (x2 : Int32) (I : xI) (J : xJ) : Option (Int32 × xI × xJ) := f_X12_isSet_0 x1 x2 I J
theorem p_X12_isSet_1 {L : Nat} {xs : Nat → Int32} {d : Nat} {Q : xO → Prop} (x1 : Int32) (x2 : Int32) (s0 : Int32) (I : xI) (J : xJ) {t : Int32 × xI × xJ} (h : f_X12_isSet_1 x1 x2 s0 I J = some t) (hC : (c_X12_isSet Q) t) : Rn L xs (d + 2) 238 13 [some (.ref 61), some (.int x1), some (.int x2)] [.int s0] 94 (I, J, xrf) Q := by
  unfold f_X12_isSet_1 at h
  obtain ⟨hc, h⟩ := xifT h
  cases h
  exact Rn.retT 1 (c := s0 = 0 ∨ s0 = 1) (o := ((some (.int s0)), 94, (I, J, xrf))) (fun f => rfl) hc hC
theorem p_X12_isSet_0 {L : Nat} {xs : Nat → Int32} {d : Nat} {Q : xO → Prop} (x1 : Int32) (x2 : Int32) (I : xI) (J : xJ) {t : Int32 × xI × xJ} (h : f_X12_isSet_0 x1 x2 I J = some t) (hC : (c_X12_isSet Q) t) : Rn L xs (d + 2) 238 0 [some (.ref 61), some (.int x1), some (.int x2)] [] 94 (I, J, xrf) Q := by
  unfold f_X12_isSet_0 at h
  refine Rn.go 8 (j' := 238) (pc' := 10) (ls' := [some (.ref 61), some (.int x1), some (.int x2)]) (st' := [.int (((1 <<< ((I 61 17) &&& 31)) - 1)), .int x2, .int x1]) (n' := 94) (M' := (I, J, xrf)) (fun f => rfl) ?_
  obtain ⟨o, ho, h⟩ := Option.bind_eq_some_iff.mp h
  refine Rn.call (d1 := d + 1) (j1 := 206) (ls1 := [some (.int x1), some (.int x2), some (.int (((1 <<< ((I 61 17) &&& 31)) - 1)))]) (rest := []) (fun f => rfl) ?_
  refine p_X12_in (d := d + 0) x1 x2 (((1 <<< ((I 61 17) &&& 31)) - 1)) I J (t := o) ho ?_
  exact p_X12_isSet_1 x1 x2 o.1 o.2.1 o.2.2 h hC
theorem p_X12_isSet {L : Nat} {xs : Nat → Int32} {d : Nat} {Q : xO → Prop} (x1 : Int32) (x2 : Int32) (I : xI) (J : xJ) {t : Int32 × xI × xJ} (h : f_X12_isSet x1 x2 I J = some t) (hC : Q ((some (.int t.1)), 94, (t.2.1, t.2.2, xrf))) : Rn L xs (d + 2) 238 0 [some (.ref 61), some (.int x1), some (.int x2)] [] 94 (I, J, xrf) Q := p_X12_isSet_0 x1 x2 I J h hC
