/-! X1_metCount -/
def c_X1_metCount (Q : xO → Prop) (t : Int32 × xI × xJ) : Prop := Q ((some (.int t.1)), 94, (t.2.1, t.2.2, xrf))
def c_X1_metCount_1 (L : Nat) (xs : Nat → Int32) (d : Nat) (Q : xO → Prop) (t : (Int32 × Int32 × xI × xJ) ⊕ (Int32 × xI × xJ)) : Prop := match t with
  | .inl s => Rn L xs (d + 2) 23 4 [some (.ref 36), some (.int s.1), some (.int s.2.1)] [] 94 (s.2.2.1, s.2.2.2, xrf) Q
  | .inr t => (c_X1_metCount Q) t
def f_X1_metCount_5 (x1 : Int32) (x2 : Int32) (I : xI) (J : xJ) : Option (Int32 × xI × xJ) := some (x1, I, J)
def f_X1_metCount_4 (x1 : Int32) (x2 : Int32) (s0 : Int32) (s1 : Int32) (I : xI) (J : xJ) : Option ((Int32 × Int32 × xI × xJ) ⊕ (Int32 × xI × xJ)) := some (.inl (((s0 + s1)), ((x2 + 1)), I, J))
def f_X1_metCount_3 (x1 : Int32) (x2 : Int32) (s0 : Int32) (s1 : Int32) (I : xI) (J : xJ) : Option ((Int32 × Int32 × xI × xJ) ⊕ (Int32 × xI × xJ)) := (f_J6_bitCount_0f7a4 s1 I J).bind fun o => f_X1_metCount_4 x1 x2 s0 o.1 o.2.1 o.2.2
def f_X1_metCount_2 (x1 : Int32) (x2 : Int32) (I : xI) (J : xJ) : Option ((Int32 × Int32 × xI × xJ) ⊕ (Int32 × xI × xJ)) := (f_X1_metBy x2 I J).bind fun o => f_X1_metCount_3 x1 x2 x1 o.1 o.2.1 o.2.2
def b_X1_metCount_1 (x1 : Int32) (x2 : Int32) (I : xI) (J : xJ) : Option ((Int32 × Int32 × xI × xJ) ⊕ (Int32 × xI × xJ)) := if (I 1 0) ≤ x2 then ((f_X1_metCount_5 x1 x2 I J)).map .inr else f_X1_metCount_2 x1 x2 I J
def f_X1_metCount_1 (x1 : Int32) (x2 : Int32) (I : xI) (J : xJ) : Option (Int32 × xI × xJ) := xloop (fun s : Int32 × Int32 × xI × xJ => b_X1_metCount_1 s.1 s.2.1 s.2.2.1 s.2.2.2) 5000 (x1, x2, I, J)
def f_X1_metCount_0 (I : xI) (J : xJ) : Option (Int32 × xI × xJ) := f_X1_metCount_1 0 0 I J
def f_X1_metCount (I : xI) (J : xJ) : Option (Int32 × xI × xJ) := f_X1_metCount_0 I J
theorem p_X1_metCount_5 {L : Nat} {xs : Nat → Int32} {d : Nat} {Q : xO → Prop} (x1 : Int32) (x2 : Int32) (I : xI) (J : xJ) {t : Int32 × xI × xJ} (h : f_X1_metCount_5 x1 x2 I J = some t) (hC : (c_X1_metCount Q) t) : Rn L xs (d + 2) 23 32 [some (.ref 36), some (.int x1), some (.int x2)] [] 94 (I, J, xrf) Q := by
  unfold f_X1_metCount_5 at h
  cases h
  exact Rn.ret 2 (o := ((some (.int x1)), 94, (I, J, xrf))) (fun f => rfl) hC
theorem p_X1_metCount_4 {L : Nat} {xs : Nat → Int32} {d : Nat} {Q : xO → Prop} (x1 : Int32) (x2 : Int32) (s0 : Int32) (s1 : Int32) (I : xI) (J : xJ) {t : (Int32 × Int32 × xI × xJ) ⊕ (Int32 × xI × xJ)} (h : f_X1_metCount_4 x1 x2 s0 s1 I J = some t) (hC : (c_X1_metCount_1 L xs d Q) t) : Rn L xs (d + 2) 23 24 [some (.ref 36), some (.int x1), some (.int x2)] [.int s1, .int s0] 94 (I, J, xrf) Q := by
  unfold f_X1_metCount_4 at h
  refine Rn.go 4 (j' := 23) (pc' := 4) (ls' := [some (.ref 36), some (.int ((s0 + s1))), some (.int ((x2 + 1)))]) (st' := []) (n' := 94) (M' := (I, J, xrf)) (fun f => rfl) ?_
  cases h; exact hC
theorem p_X1_metCount_3 {L : Nat} {xs : Nat → Int32} {d : Nat} {Q : xO → Prop} (x1 : Int32) (x2 : Int32) (s0 : Int32) (s1 : Int32) (I : xI) (J : xJ) {t : (Int32 × Int32 × xI × xJ) ⊕ (Int32 × xI × xJ)} (h : f_X1_metCount_3 x1 x2 s0 s1 I J = some t) (hC : (c_X1_metCount_1 L xs d Q) t) : Rn L xs (d + 2) 23 21 [some (.ref 36), some (.int x1), some (.int x2)] [.int s1, .int s0] 94 (I, J, xrf) Q := by
  unfold f_X1_metCount_3 at h
  obtain ⟨o, ho, h⟩ := Option.bind_eq_some_iff.mp h
  refine Rn.call (d1 := d + 1) (j1 := 299) (ls1 := [some (.int s1)]) (rest := [.int s0]) (fun f => rfl) ?_
  refine p_J6_bitCount_0f7a4 (d := d + 0) s1 I J (t := o) ho ?_
  exact p_X1_metCount_4 x1 x2 s0 o.1 o.2.1 o.2.2 h hC
theorem p_X1_metCount_2 {L : Nat} {xs : Nat → Int32} {d : Nat} {Q : xO → Prop} (x1 : Int32) (x2 : Int32) (I : xI) (J : xJ) {t : (Int32 × Int32 × xI × xJ) ⊕ (Int32 × xI × xJ)} (h : f_X1_metCount_2 x1 x2 I J = some t) (hC : (c_X1_metCount_1 L xs d Q) t) : Rn L xs (d + 2) 23 15 [some (.ref 36), some (.int x1), some (.int x2)] [] 94 (I, J, xrf) Q := by
  unfold f_X1_metCount_2 at h
  refine Rn.go 3 (j' := 23) (pc' := 18) (ls' := [some (.ref 36), some (.int x1), some (.int x2)]) (st' := [.int x2, .ref 36, .int x1]) (n' := 94) (M' := (I, J, xrf)) (fun f => rfl) ?_
  obtain ⟨o, ho, h⟩ := Option.bind_eq_some_iff.mp h
  refine Rn.call (d1 := d + 1) (j1 := 22) (ls1 := [some (.ref 36), some (.int x2), none, none]) (rest := [.int x1]) (fun f => rfl) ?_
  refine p_X1_metBy (d := d + 0) x2 I J (t := o) ho ?_
  exact p_X1_metCount_3 x1 x2 x1 o.1 o.2.1 o.2.2 h hC
theorem q_X1_metCount_1 {L : Nat} {xs : Nat → Int32} {d : Nat} {Q : xO → Prop} (x1 : Int32) (x2 : Int32) (I : xI) (J : xJ) {t : (Int32 × Int32 × xI × xJ) ⊕ (Int32 × xI × xJ)} (h : b_X1_metCount_1 x1 x2 I J = some t) (hC : (c_X1_metCount_1 L xs d Q) t) : Rn L xs (d + 2) 23 4 [some (.ref 36), some (.int x1), some (.int x2)] [] 94 (I, J, xrf) Q := by
  unfold b_X1_metCount_1 at h
  refine Rn.fi 5 (c := (I 1 0) ≤ x2) (p1 := 32) (l1 := [some (.ref 36), some (.int x1), some (.int x2)]) (s1 := []) (n1 := 94) (M1 := (I, J, xrf)) (p2 := 15) (l2 := [some (.ref 36), some (.int x1), some (.int x2)]) (s2 := []) (n2 := 94) (M2 := (I, J, xrf)) (fun f => rfl) (fun hc => ?_) (fun hc => ?_)
  · rw [if_pos hc] at h
    obtain ⟨t0, h0, rfl⟩ := Option.map_eq_some_iff.mp h
    exact p_X1_metCount_5 x1 x2 I J h0 hC
  · rw [if_neg hc] at h
    exact p_X1_metCount_2 x1 x2 I J h hC
theorem p_X1_metCount_1 {L : Nat} {xs : Nat → Int32} {d : Nat} {Q : xO → Prop} (x1 : Int32) (x2 : Int32) (I : xI) (J : xJ) {t : Int32 × xI × xJ} (h : f_X1_metCount_1 x1 x2 I J = some t) (hC : (c_X1_metCount Q) t) : Rn L xs (d + 2) 23 4 [some (.ref 36), some (.int x1), some (.int x2)] [] 94 (I, J, xrf) Q := by
  unfold f_X1_metCount_1 at h
  exact xloop_some (P := fun s : Int32 × Int32 × xI × xJ => Rn L xs (d + 2) 23 4 [some (.ref 36), some (.int s.1), some (.int s.2.1)] [] 94 (s.2.2.1, s.2.2.2, xrf) Q) t (fun s ⟨s', hb, hp⟩ => q_X1_metCount_1 s.1 s.2.1 s.2.2.1 s.2.2.2 hb hp) (fun s hb => q_X1_metCount_1 s.1 s.2.1 s.2.2.1 s.2.2.2 hb hC) _ _ h
theorem p_X1_metCount_0 {L : Nat} {xs : Nat → Int32} {d : Nat} {Q : xO → Prop} (I : xI) (J : xJ) {t : Int32 × xI × xJ} (h : f_X1_metCount_0 I J = some t) (hC : (c_X1_metCount Q) t) : Rn L xs (d + 2) 23 0 [some (.ref 36), none, none] [] 94 (I, J, xrf) Q := by
  unfold f_X1_metCount_0 at h
  refine Rn.go 4 (j' := 23) (pc' := 4) (ls' := [some (.ref 36), some (.int 0), some (.int 0)]) (st' := []) (n' := 94) (M' := (I, J, xrf)) (fun f => rfl) ?_
  exact p_X1_metCount_1 0 0 I J h hC
theorem p_X1_metCount {L : Nat} {xs : Nat → Int32} {d : Nat} {Q : xO → Prop} (I : xI) (J : xJ) {t : Int32 × xI × xJ} (h : f_X1_metCount I J = some t) (hC : Q ((some (.int t.1)), 94, (t.2.1, t.2.2, xrf))) : Rn L xs (d + 2) 23 0 [some (.ref 36), none, none] [] 94 (I, J, xrf) Q := p_X1_metCount_0 I J h hC
/-! X5_unreached -/
def c_X5_unreached (Q : xO → Prop) (t : Int32 × xI × xJ) : Prop := Q ((some (.int t.1)), 94, (t.2.1, t.2.2, xrf))
def c_X5_unreached_1 (L : Nat) (xs : Nat → Int32) (d : Nat) (Q : xO → Prop) (t : (Int32 × Int32 × (Option Value) × xI × xJ) ⊕ (Int32 × xI × xJ)) : Prop := match t with
  | .inl s => Rn L xs (d + 3) 67 4 [some (.ref 1), some (.int s.1), some (.int s.2.1), s.2.2.1] [] 94 (s.2.2.2.1, s.2.2.2.2, xrf) Q
  | .inr t => (c_X5_unreached Q) t
def c_X5_unreached_3 (L : Nat) (xs : Nat → Int32) (d : Nat) (Q : xO → Prop) (t : (Int32 × Int32 × Int32 × xI × xJ) ⊕ ((Int32 × Int32 × (Option Value) × xI × xJ) ⊕ (Int32 × xI × xJ))) : Prop := match t with
  | .inl s => Rn L xs (d + 3) 67 14 [some (.ref 1), some (.int s.1), some (.int s.2.1), some (.int s.2.2.1)] [] 94 (s.2.2.2.1, s.2.2.2.2, xrf) Q
  | .inr t => (c_X5_unreached_1 L xs d Q) t
def f_X5_unreached_7 (x1 : Int32) (x2 : Int32) (z3 : Option Value) (I : xI) (J : xJ) : Option (Int32 × xI × xJ) := some ((((1 <<< ((I 1 0) &&& 31)) - 1) &&& (x1 ^^^ (-1))), I, J)
def f_X5_unreached_6 (x1 : Int32) (x2 : Int32) (x3 : Int32) (I : xI) (J : xJ) : Option ((Int32 × Int32 × (Option Value) × xI × xJ) ⊕ (Int32 × xI × xJ)) := some (.inl (x1, ((x2 + 1)), (some (.int x3)), I, J))
def f_X5_unreached_5 (x1 : Int32) (x2 : Int32) (x3 : Int32) (s0 : Int32) (s1 : Int32) (I : xI) (J : xJ) : Option ((Int32 × Int32 × Int32 × xI × xJ) ⊕ ((Int32 × Int32 × (Option Value) × xI × xJ) ⊕ (Int32 × xI × xJ))) := some (.inl (((s0 ||| (s1 &&& ((1 <<< (x2 &&& 31)) ^^^ (-1))))), x2, ((x3 + 1)), I, J))
def f_X5_unreached_4 (x1 : Int32) (x2 : Int32) (x3 : Int32) (I : xI) (J : xJ) : Option ((Int32 × Int32 × Int32 × xI × xJ) ⊕ ((Int32 × Int32 × (Option Value) × xI × xJ) ⊕ (Int32 × xI × xJ))) := (f_X5_leadOf ((1 <<< (x2 &&& 31))) x3 I J).bind fun o => f_X5_unreached_5 x1 x2 x3 x1 o.1 o.2.1 o.2.2
def b_X5_unreached_3 (x1 : Int32) (x2 : Int32) (x3 : Int32) (I : xI) (J : xJ) : Option ((Int32 × Int32 × Int32 × xI × xJ) ⊕ ((Int32 × Int32 × (Option Value) × xI × xJ) ⊕ (Int32 × xI × xJ))) := if (I 1 1) ≤ x3 then ((f_X5_unreached_6 x1 x2 x3 I J)).map .inr else f_X5_unreached_4 x1 x2 x3 I J
def f_X5_unreached_3 (x1 : Int32) (x2 : Int32) (x3 : Int32) (I : xI) (J : xJ) : Option ((Int32 × Int32 × (Option Value) × xI × xJ) ⊕ (Int32 × xI × xJ)) := xloop (fun s : Int32 × Int32 × Int32 × xI × xJ => b_X5_unreached_3 s.1 s.2.1 s.2.2.1 s.2.2.2.1 s.2.2.2.2) 5000 (x1, x2, x3, I, J)
def f_X5_unreached_2 (x1 : Int32) (x2 : Int32) (z3 : Option Value) (I : xI) (J : xJ) : Option ((Int32 × Int32 × (Option Value) × xI × xJ) ⊕ (Int32 × xI × xJ)) := f_X5_unreached_3 x1 x2 0 I J
def b_X5_unreached_1 (x1 : Int32) (x2 : Int32) (z3 : Option Value) (I : xI) (J : xJ) : Option ((Int32 × Int32 × (Option Value) × xI × xJ) ⊕ (Int32 × xI × xJ)) := if (I 1 0) ≤ x2 then ((f_X5_unreached_7 x1 x2 z3 I J)).map .inr else f_X5_unreached_2 x1 x2 z3 I J
def f_X5_unreached_1 (x1 : Int32) (x2 : Int32) (z3 : Option Value) (I : xI) (J : xJ) : Option (Int32 × xI × xJ) := xloop (fun s : Int32 × Int32 × (Option Value) × xI × xJ => b_X5_unreached_1 s.1 s.2.1 s.2.2.1 s.2.2.2.1 s.2.2.2.2) 5000 (x1, x2, z3, I, J)
def f_X5_unreached_0 (I : xI) (J : xJ) : Option (Int32 × xI × xJ) := f_X5_unreached_1 0 0 none I J
def f_X5_unreached (I : xI) (J : xJ) : Option (Int32 × xI × xJ) := f_X5_unreached_0 I J
theorem p_X5_unreached_7 {L : Nat} {xs : Nat → Int32} {d : Nat} {Q : xO → Prop} (x1 : Int32) (x2 : Int32) (z3 : Option Value) (I : xI) (J : xJ) {t : Int32 × xI × xJ} (h : f_X5_unreached_7 x1 x2 z3 I J = some t) (hC : (c_X5_unreached Q) t) : Rn L xs (d + 3) 67 51 [some (.ref 1), some (.int x1), some (.int x2), z3] [] 94 (I, J, xrf) Q := by
  unfold f_X5_unreached_7 at h
  cases h
  exact Rn.ret 11 (o := ((some (.int ((((1 <<< ((I 1 0) &&& 31)) - 1) &&& (x1 ^^^ (-1)))))), 94, (I, J, xrf))) (fun f => rfl) hC
theorem p_X5_unreached_6 {L : Nat} {xs : Nat → Int32} {d : Nat} {Q : xO → Prop} (x1 : Int32) (x2 : Int32) (x3 : Int32) (I : xI) (J : xJ) {t : (Int32 × Int32 × (Option Value) × xI × xJ) ⊕ (Int32 × xI × xJ)} (h : f_X5_unreached_6 x1 x2 x3 I J = some t) (hC : (c_X5_unreached_1 L xs d Q) t) : Rn L xs (d + 3) 67 45 [some (.ref 1), some (.int x1), some (.int x2), some (.int x3)] [] 94 (I, J, xrf) Q := by
  unfold f_X5_unreached_6 at h
  refine Rn.go 2 (j' := 67) (pc' := 4) (ls' := [some (.ref 1), some (.int x1), some (.int ((x2 + 1))), some (.int x3)]) (st' := []) (n' := 94) (M' := (I, J, xrf)) (fun f => rfl) ?_
  cases h; exact hC
theorem p_X5_unreached_5 {L : Nat} {xs : Nat → Int32} {d : Nat} {Q : xO → Prop} (x1 : Int32) (x2 : Int32) (x3 : Int32) (s0 : Int32) (s1 : Int32) (I : xI) (J : xJ) {t : (Int32 × Int32 × Int32 × xI × xJ) ⊕ ((Int32 × Int32 × (Option Value) × xI × xJ) ⊕ (Int32 × xI × xJ))} (h : f_X5_unreached_5 x1 x2 x3 s0 s1 I J = some t) (hC : (c_X5_unreached_3 L xs d Q) t) : Rn L xs (d + 3) 67 31 [some (.ref 1), some (.int x1), some (.int x2), some (.int x3)] [.int s1, .int s0] 94 (I, J, xrf) Q := by
  unfold f_X5_unreached_5 at h
  refine Rn.go 10 (j' := 67) (pc' := 14) (ls' := [some (.ref 1), some (.int ((s0 ||| (s1 &&& ((1 <<< (x2 &&& 31)) ^^^ (-1)))))), some (.int x2), some (.int ((x3 + 1)))]) (st' := []) (n' := 94) (M' := (I, J, xrf)) (fun f => rfl) ?_
  cases h; exact hC
theorem p_X5_unreached_4 {L : Nat} {xs : Nat → Int32} {d : Nat} {Q : xO → Prop} (x1 : Int32) (x2 : Int32) (x3 : Int32) (I : xI) (J : xJ) {t : (Int32 × Int32 × Int32 × xI × xJ) ⊕ ((Int32 × Int32 × (Option Value) × xI × xJ) ⊕ (Int32 × xI × xJ))} (h : f_X5_unreached_4 x1 x2 x3 I J = some t) (hC : (c_X5_unreached_3 L xs d Q) t) : Rn L xs (d + 3) 67 22 [some (.ref 1), some (.int x1), some (.int x2), some (.int x3)] [] 94 (I, J, xrf) Q := by
  unfold f_X5_unreached_4 at h
  refine Rn.go 6 (j' := 67) (pc' := 28) (ls' := [some (.ref 1), some (.int x1), some (.int x2), some (.int x3)]) (st' := [.int x3, .int ((1 <<< (x2 &&& 31))), .ref 1, .int x1]) (n' := 94) (M' := (I, J, xrf)) (fun f => rfl) ?_
  obtain ⟨o, ho, h⟩ := Option.bind_eq_some_iff.mp h
  refine Rn.call (d1 := d + 2) (j1 := 61) (ls1 := [some (.ref 1), some (.int ((1 <<< (x2 &&& 31)))), some (.int x3), none, none, none]) (rest := [.int x1]) (fun f => rfl) ?_
  refine p_X5_leadOf (d := d + 0) ((1 <<< (x2 &&& 31))) x3 I J (t := o) ho ?_
  exact p_X5_unreached_5 x1 x2 x3 x1 o.1 o.2.1 o.2.2 h hC
theorem q_X5_unreached_3 {L : Nat} {xs : Nat → Int32} {d : Nat} {Q : xO → Prop} (x1 : Int32) (x2 : Int32) (x3 : Int32) (I : xI) (J : xJ) {t : (Int32 × Int32 × Int32 × xI × xJ) ⊕ ((Int32 × Int32 × (Option Value) × xI × xJ) ⊕ (Int32 × xI × xJ))} (h : b_X5_unreached_3 x1 x2 x3 I J = some t) (hC : (c_X5_unreached_3 L xs d Q) t) : Rn L xs (d + 3) 67 14 [some (.ref 1), some (.int x1), some (.int x2), some (.int x3)] [] 94 (I, J, xrf) Q := by
  unfold b_X5_unreached_3 at h
  refine Rn.fi 4 (c := (I 1 1) ≤ x3) (p1 := 45) (l1 := [some (.ref 1), some (.int x1), some (.int x2), some (.int x3)]) (s1 := []) (n1 := 94) (M1 := (I, J, xrf)) (p2 := 22) (l2 := [some (.ref 1), some (.int x1), some (.int x2), some (.int x3)]) (s2 := []) (n2 := 94) (M2 := (I, J, xrf)) (fun f => rfl) (fun hc => ?_) (fun hc => ?_)
  · rw [if_pos hc] at h
    obtain ⟨t0, h0, rfl⟩ := Option.map_eq_some_iff.mp h
    exact p_X5_unreached_6 x1 x2 x3 I J h0 hC
  · rw [if_neg hc] at h
    exact p_X5_unreached_4 x1 x2 x3 I J h hC
theorem p_X5_unreached_3 {L : Nat} {xs : Nat → Int32} {d : Nat} {Q : xO → Prop} (x1 : Int32) (x2 : Int32) (x3 : Int32) (I : xI) (J : xJ) {t : (Int32 × Int32 × (Option Value) × xI × xJ) ⊕ (Int32 × xI × xJ)} (h : f_X5_unreached_3 x1 x2 x3 I J = some t) (hC : (c_X5_unreached_1 L xs d Q) t) : Rn L xs (d + 3) 67 14 [some (.ref 1), some (.int x1), some (.int x2), some (.int x3)] [] 94 (I, J, xrf) Q := by
  unfold f_X5_unreached_3 at h
  exact xloop_some (P := fun s : Int32 × Int32 × Int32 × xI × xJ => Rn L xs (d + 3) 67 14 [some (.ref 1), some (.int s.1), some (.int s.2.1), some (.int s.2.2.1)] [] 94 (s.2.2.2.1, s.2.2.2.2, xrf) Q) t (fun s ⟨s', hb, hp⟩ => q_X5_unreached_3 s.1 s.2.1 s.2.2.1 s.2.2.2.1 s.2.2.2.2 hb hp) (fun s hb => q_X5_unreached_3 s.1 s.2.1 s.2.2.1 s.2.2.2.1 s.2.2.2.2 hb hC) _ _ h
theorem p_X5_unreached_2 {L : Nat} {xs : Nat → Int32} {d : Nat} {Q : xO → Prop} (x1 : Int32) (x2 : Int32) (z3 : Option Value) (I : xI) (J : xJ) {t : (Int32 × Int32 × (Option Value) × xI × xJ) ⊕ (Int32 × xI × xJ)} (h : f_X5_unreached_2 x1 x2 z3 I J = some t) (hC : (c_X5_unreached_1 L xs d Q) t) : Rn L xs (d + 3) 67 12 [some (.ref 1), some (.int x1), some (.int x2), z3] [] 94 (I, J, xrf) Q := by
  unfold f_X5_unreached_2 at h
  refine Rn.go 2 (j' := 67) (pc' := 14) (ls' := [some (.ref 1), some (.int x1), some (.int x2), some (.int 0)]) (st' := []) (n' := 94) (M' := (I, J, xrf)) (fun f => rfl) ?_
  exact p_X5_unreached_3 x1 x2 0 I J h hC
theorem q_X5_unreached_1 {L : Nat} {xs : Nat → Int32} {d : Nat} {Q : xO → Prop} (x1 : Int32) (x2 : Int32) (z3 : Option Value) (I : xI) (J : xJ) {t : (Int32 × Int32 × (Option Value) × xI × xJ) ⊕ (Int32 × xI × xJ)} (h : b_X5_unreached_1 x1 x2 z3 I J = some t) (hC : (c_X5_unreached_1 L xs d Q) t) : Rn L xs (d + 3) 67 4 [some (.ref 1), some (.int x1), some (.int x2), z3] [] 94 (I, J, xrf) Q := by
  unfold b_X5_unreached_1 at h
  refine Rn.fi 4 (c := (I 1 0) ≤ x2) (p1 := 51) (l1 := [some (.ref 1), some (.int x1), some (.int x2), z3]) (s1 := []) (n1 := 94) (M1 := (I, J, xrf)) (p2 := 12) (l2 := [some (.ref 1), some (.int x1), some (.int x2), z3]) (s2 := []) (n2 := 94) (M2 := (I, J, xrf)) (fun f => rfl) (fun hc => ?_) (fun hc => ?_)
  · rw [if_pos hc] at h
    obtain ⟨t0, h0, rfl⟩ := Option.map_eq_some_iff.mp h
    exact p_X5_unreached_7 x1 x2 z3 I J h0 hC
  · rw [if_neg hc] at h
    exact p_X5_unreached_2 x1 x2 z3 I J h hC
theorem p_X5_unreached_1 {L : Nat} {xs : Nat → Int32} {d : Nat} {Q : xO → Prop} (x1 : Int32) (x2 : Int32) (z3 : Option Value) (I : xI) (J : xJ) {t : Int32 × xI × xJ} (h : f_X5_unreached_1 x1 x2 z3 I J = some t) (hC : (c_X5_unreached Q) t) : Rn L xs (d + 3) 67 4 [some (.ref 1), some (.int x1), some (.int x2), z3] [] 94 (I, J, xrf) Q := by
  unfold f_X5_unreached_1 at h
  exact xloop_some (P := fun s : Int32 × Int32 × (Option Value) × xI × xJ => Rn L xs (d + 3) 67 4 [some (.ref 1), some (.int s.1), some (.int s.2.1), s.2.2.1] [] 94 (s.2.2.2.1, s.2.2.2.2, xrf) Q) t (fun s ⟨s', hb, hp⟩ => q_X5_unreached_1 s.1 s.2.1 s.2.2.1 s.2.2.2.1 s.2.2.2.2 hb hp) (fun s hb => q_X5_unreached_1 s.1 s.2.1 s.2.2.1 s.2.2.2.1 s.2.2.2.2 hb hC) _ _ h
theorem p_X5_unreached_0 {L : Nat} {xs : Nat → Int32} {d : Nat} {Q : xO → Prop} (I : xI) (J : xJ) {t : Int32 × xI × xJ} (h : f_X5_unreached_0 I J = some t) (hC : (c_X5_unreached Q) t) : Rn L xs (d + 3) 67 0 [some (.ref 1), none, none, none] [] 94 (I, J, xrf) Q := by
  unfold f_X5_unreached_0 at h
  refine Rn.go 4 (j' := 67) (pc' := 4) (ls' := [some (.ref 1), some (.int 0), some (.int 0), none]) (st' := []) (n' := 94) (M' := (I, J, xrf)) (fun f => rfl) ?_
  exact p_X5_unreached_1 0 0 none I J h hC
theorem p_X5_unreached {L : Nat} {xs : Nat → Int32} {d : Nat} {Q : xO → Prop} (I : xI) (J : xJ) {t : Int32 × xI × xJ} (h : f_X5_unreached I J = some t) (hC : Q ((some (.int t.1)), 94, (t.2.1, t.2.2, xrf))) : Rn L xs (d + 3) 67 0 [some (.ref 1), none, none, none] [] 94 (I, J, xrf) Q := p_X5_unreached_0 I J h hC
/-! X4_slotCount -/
def c_X4_slotCount (Q : xO → Prop) (t : Int32 × xI × xJ) : Prop := Q ((some (.int t.1)), 94, (t.2.1, t.2.2, xrf))
def c_X4_slotCount_1 (L : Nat) (xs : Nat → Int32) (d : Nat) (Q : xO → Prop) (t : (Int32 × Int32 × xI × xJ) ⊕ (Int32 × xI × xJ)) : Prop := match t with
  | .inl s => Rn L xs (d + 1) 47 4 [some (.ref 5), some (.int s.1), some (.int s.2.1)] [] 94 (s.2.2.1, s.2.2.2, xrf) Q
  | .inr t => (c_X4_slotCount Q) t
def f_X4_slotCount_6 (x1 : Int32) (x2 : Int32) (I : xI) (J : xJ) : Option (Int32 × xI × xJ) := some (x1, I, J)
def f_X4_slotCount_5 (x1 : Int32) (x2 : Int32) (s0 : Int32) (s1 : Int32) (I : xI) (J : xJ) : Option ((Int32 × Int32 × xI × xJ) ⊕ (Int32 × xI × xJ)) := some (.inl (((s0 + s1)), ((x2 + 1)), I, J))
def f_X4_slotCount_4 (x1 : Int32) (x2 : Int32) (s0 : Int32) (I : xI) (J : xJ) : Option ((Int32 × Int32 × xI × xJ) ⊕ (Int32 × xI × xJ)) := f_X4_slotCount_5 x1 x2 s0 0 I J
def f_X4_slotCount_3 (x1 : Int32) (x2 : Int32) (s0 : Int32) (I : xI) (J : xJ) : Option ((Int32 × Int32 × xI × xJ) ⊕ (Int32 × xI × xJ)) := f_X4_slotCount_5 x1 x2 s0 1 I J
def f_X4_slotCount_2 (x1 : Int32) (x2 : Int32) (I : xI) (J : xJ) : Option ((Int32 × Int32 × xI × xJ) ⊕ (Int32 × xI × xJ)) := if x2 < 0 ∨ 3 ≤ x2.toNatClampNeg then none else if (I 11 x2.toNatClampNeg) = 0 then f_X4_slotCount_4 x1 x2 x1 I J else f_X4_slotCount_3 x1 x2 x1 I J
def b_X4_slotCount_1 (x1 : Int32) (x2 : Int32) (I : xI) (J : xJ) : Option ((Int32 × Int32 × xI × xJ) ⊕ (Int32 × xI × xJ)) := if 3 ≤ x2 then ((f_X4_slotCount_6 x1 x2 I J)).map .inr else f_X4_slotCount_2 x1 x2 I J
def f_X4_slotCount_1 (x1 : Int32) (x2 : Int32) (I : xI) (J : xJ) : Option (Int32 × xI × xJ) := xloop (fun s : Int32 × Int32 × xI × xJ => b_X4_slotCount_1 s.1 s.2.1 s.2.2.1 s.2.2.2) 5000 (x1, x2, I, J)
def f_X4_slotCount_0 (I : xI) (J : xJ) : Option (Int32 × xI × xJ) := f_X4_slotCount_1 0 0 I J
def f_X4_slotCount (I : xI) (J : xJ) : Option (Int32 × xI × xJ) := f_X4_slotCount_0 I J
theorem p_X4_slotCount_6 {L : Nat} {xs : Nat → Int32} {d : Nat} {Q : xO → Prop} (x1 : Int32) (x2 : Int32) (I : xI) (J : xJ) {t : Int32 × xI × xJ} (h : f_X4_slotCount_6 x1 x2 I J = some t) (hC : (c_X4_slotCount Q) t) : Rn L xs (d + 1) 47 32 [some (.ref 5), some (.int x1), some (.int x2)] [] 94 (I, J, xrf) Q := by
  unfold f_X4_slotCount_6 at h
  cases h
  exact Rn.ret 2 (o := ((some (.int x1)), 94, (I, J, xrf))) (fun f => rfl) hC
theorem p_X4_slotCount_5 {L : Nat} {xs : Nat → Int32} {d : Nat} {Q : xO → Prop} (x1 : Int32) (x2 : Int32) (s0 : Int32) (s1 : Int32) (I : xI) (J : xJ) {t : (Int32 × Int32 × xI × xJ) ⊕ (Int32 × xI × xJ)} (h : f_X4_slotCount_5 x1 x2 s0 s1 I J = some t) (hC : (c_X4_slotCount_1 L xs d Q) t) : Rn L xs (d + 1) 47 24 [some (.ref 5), some (.int x1), some (.int x2)] [.int s1, .int s0] 94 (I, J, xrf) Q := by
  unfold f_X4_slotCount_5 at h
  refine Rn.go 4 (j' := 47) (pc' := 4) (ls' := [some (.ref 5), some (.int ((s0 + s1))), some (.int ((x2 + 1)))]) (st' := []) (n' := 94) (M' := (I, J, xrf)) (fun f => rfl) ?_
  cases h; exact hC
theorem p_X4_slotCount_4 {L : Nat} {xs : Nat → Int32} {d : Nat} {Q : xO → Prop} (x1 : Int32) (x2 : Int32) (s0 : Int32) (I : xI) (J : xJ) {t : (Int32 × Int32 × xI × xJ) ⊕ (Int32 × xI × xJ)} (h : f_X4_slotCount_4 x1 x2 s0 I J = some t) (hC : (c_X4_slotCount_1 L xs d Q) t) : Rn L xs (d + 1) 47 23 [some (.ref 5), some (.int x1), some (.int x2)] [.int s0] 94 (I, J, xrf) Q := by
  unfold f_X4_slotCount_4 at h
  refine Rn.go 1 (j' := 47) (pc' := 24) (ls' := [some (.ref 5), some (.int x1), some (.int x2)]) (st' := [.int 0, .int s0]) (n' := 94) (M' := (I, J, xrf)) (fun f => rfl) ?_
  exact p_X4_slotCount_5 x1 x2 s0 0 I J h hC
theorem p_X4_slotCount_3 {L : Nat} {xs : Nat → Int32} {d : Nat} {Q : xO → Prop} (x1 : Int32) (x2 : Int32) (s0 : Int32) (I : xI) (J : xJ) {t : (Int32 × Int32 × xI × xJ) ⊕ (Int32 × xI × xJ)} (h : f_X4_slotCount_3 x1 x2 s0 I J = some t) (hC : (c_X4_slotCount_1 L xs d Q) t) : Rn L xs (d + 1) 47 19 [some (.ref 5), some (.int x1), some (.int x2)] [.int s0] 94 (I, J, xrf) Q := by
  unfold f_X4_slotCount_3 at h
  refine Rn.go 2 (j' := 47) (pc' := 24) (ls' := [some (.ref 5), some (.int x1), some (.int x2)]) (st' := [.int 1, .int s0]) (n' := 94) (M' := (I, J, xrf)) (fun f => rfl) ?_
  exact p_X4_slotCount_5 x1 x2 s0 1 I J h hC
theorem p_X4_slotCount_2 {L : Nat} {xs : Nat → Int32} {d : Nat} {Q : xO → Prop} (x1 : Int32) (x2 : Int32) (I : xI) (J : xJ) {t : (Int32 × Int32 × xI × xJ) ⊕ (Int32 × xI × xJ)} (h : f_X4_slotCount_2 x1 x2 I J = some t) (hC : (c_X4_slotCount_1 L xs d Q) t) : Rn L xs (d + 1) 47 9 [some (.ref 5), some (.int x1), some (.int x2)] [] 94 (I, J, xrf) Q := by
  unfold f_X4_slotCount_2 at h
  obtain ⟨hc, h⟩ := xif h
  refine Rn.ok 5 (c := x2 < 0 ∨ 3 ≤ x2.toNatClampNeg) (p1 := 16) (l1 := [some (.ref 5), some (.int x1), some (.int x2)]) (s1 := [.int ((I 11 x2.toNatClampNeg)), .int x1]) (n1 := 94) (M1 := (I, J, xrf)) (fun f => rfl) hc ?_
  refine Rn.fi 1 (c := (I 11 x2.toNatClampNeg) = 0) (p1 := 23) (l1 := [some (.ref 5), some (.int x1), some (.int x2)]) (s1 := [.int x1]) (n1 := 94) (M1 := (I, J, xrf)) (p2 := 19) (l2 := [some (.ref 5), some (.int x1), some (.int x2)]) (s2 := [.int x1]) (n2 := 94) (M2 := (I, J, xrf)) (fun f => rfl) (fun hc => ?_) (fun hc => ?_)
  · rw [if_pos hc] at h
    exact p_X4_slotCount_4 x1 x2 x1 I J h hC
  · rw [if_neg hc] at h
    exact p_X4_slotCount_3 x1 x2 x1 I J h hC
theorem q_X4_slotCount_1 {L : Nat} {xs : Nat → Int32} {d : Nat} {Q : xO → Prop} (x1 : Int32) (x2 : Int32) (I : xI) (J : xJ) {t : (Int32 × Int32 × xI × xJ) ⊕ (Int32 × xI × xJ)} (h : b_X4_slotCount_1 x1 x2 I J = some t) (hC : (c_X4_slotCount_1 L xs d Q) t) : Rn L xs (d + 1) 47 4 [some (.ref 5), some (.int x1), some (.int x2)] [] 94 (I, J, xrf) Q := by
  unfold b_X4_slotCount_1 at h
  refine Rn.fi 3 (c := 3 ≤ x2) (p1 := 32) (l1 := [some (.ref 5), some (.int x1), some (.int x2)]) (s1 := []) (n1 := 94) (M1 := (I, J, xrf)) (p2 := 9) (l2 := [some (.ref 5), some (.int x1), some (.int x2)]) (s2 := []) (n2 := 94) (M2 := (I, J, xrf)) (fun f => rfl) (fun hc => ?_) (fun hc => ?_)
  · rw [if_pos hc] at h
    obtain ⟨t0, h0, rfl⟩ := Option.map_eq_some_iff.mp h
    exact p_X4_slotCount_6 x1 x2 I J h0 hC
  · rw [if_neg hc] at h
    exact p_X4_slotCount_2 x1 x2 I J h hC
theorem p_X4_slotCount_1 {L : Nat} {xs : Nat → Int32} {d : Nat} {Q : xO → Prop} (x1 : Int32) (x2 : Int32) (I : xI) (J : xJ) {t : Int32 × xI × xJ} (h : f_X4_slotCount_1 x1 x2 I J = some t) (hC : (c_X4_slotCount Q) t) : Rn L xs (d + 1) 47 4 [some (.ref 5), some (.int x1), some (.int x2)] [] 94 (I, J, xrf) Q := by
  unfold f_X4_slotCount_1 at h
  exact xloop_some (P := fun s : Int32 × Int32 × xI × xJ => Rn L xs (d + 1) 47 4 [some (.ref 5), some (.int s.1), some (.int s.2.1)] [] 94 (s.2.2.1, s.2.2.2, xrf) Q) t (fun s ⟨s', hb, hp⟩ => q_X4_slotCount_1 s.1 s.2.1 s.2.2.1 s.2.2.2 hb hp) (fun s hb => q_X4_slotCount_1 s.1 s.2.1 s.2.2.1 s.2.2.2 hb hC) _ _ h
theorem p_X4_slotCount_0 {L : Nat} {xs : Nat → Int32} {d : Nat} {Q : xO → Prop} (I : xI) (J : xJ) {t : Int32 × xI × xJ} (h : f_X4_slotCount_0 I J = some t) (hC : (c_X4_slotCount Q) t) : Rn L xs (d + 1) 47 0 [some (.ref 5), none, none] [] 94 (I, J, xrf) Q := by
  unfold f_X4_slotCount_0 at h
  refine Rn.go 4 (j' := 47) (pc' := 4) (ls' := [some (.ref 5), some (.int 0), some (.int 0)]) (st' := []) (n' := 94) (M' := (I, J, xrf)) (fun f => rfl) ?_
  exact p_X4_slotCount_1 0 0 I J h hC
theorem p_X4_slotCount {L : Nat} {xs : Nat → Int32} {d : Nat} {Q : xO → Prop} (I : xI) (J : xJ) {t : Int32 × xI × xJ} (h : f_X4_slotCount I J = some t) (hC : Q ((some (.int t.1)), 94, (t.2.1, t.2.2, xrf))) : Rn L xs (d + 1) 47 0 [some (.ref 5), none, none] [] 94 (I, J, xrf) Q := p_X4_slotCount_0 I J h hC
/-! X5_codeNumber -/
def c_X5_codeNumber (Q : xO → Prop) (t : Int32 × xI × xJ) : Prop := Q ((some (.int t.1)), 94, (t.2.1, t.2.2, xrf))
def c_X5_codeNumber_1 (L : Nat) (xs : Nat → Int32) (d : Nat) (Q : xO → Prop) (t : (Int32 × Int32 × xI × xJ) ⊕ (Int32 × xI × xJ)) : Prop := match t with
  | .inl s => Rn L xs (d + 1) 64 4 [some (.ref 1), some (.int s.1), some (.int s.2.1)] [] 94 (s.2.2.1, s.2.2.2, xrf) Q
  | .inr t => (c_X5_codeNumber Q) t
def f_X5_codeNumber_3 (x1 : Int32) (x2 : Int32) (I : xI) (J : xJ) : Option (Int32 × xI × xJ) := some (x1, I, J)
def f_X5_codeNumber_2 (x1 : Int32) (x2 : Int32) (I : xI) (J : xJ) : Option ((Int32 × Int32 × xI × xJ) ⊕ (Int32 × xI × xJ)) := if x2 < 0 ∨ 6 ≤ x2.toNatClampNeg then none else some (.inl (((x1 ||| ((I 4 x2.toNatClampNeg) <<< ((3 * x2) &&& 31)))), ((x2 + 1)), I, J))
def b_X5_codeNumber_1 (x1 : Int32) (x2 : Int32) (I : xI) (J : xJ) : Option ((Int32 × Int32 × xI × xJ) ⊕ (Int32 × xI × xJ)) := if (I 1 0) ≤ x2 then ((f_X5_codeNumber_3 x1 x2 I J)).map .inr else f_X5_codeNumber_2 x1 x2 I J
def f_X5_codeNumber_1 (x1 : Int32) (x2 : Int32) (I : xI) (J : xJ) : Option (Int32 × xI × xJ) := xloop (fun s : Int32 × Int32 × xI × xJ => b_X5_codeNumber_1 s.1 s.2.1 s.2.2.1 s.2.2.2) 5000 (x1, x2, I, J)
def f_X5_codeNumber_0 (I : xI) (J : xJ) : Option (Int32 × xI × xJ) := f_X5_codeNumber_1 0 0 I J
def f_X5_codeNumber (I : xI) (J : xJ) : Option (Int32 × xI × xJ) := f_X5_codeNumber_0 I J
theorem p_X5_codeNumber_3 {L : Nat} {xs : Nat → Int32} {d : Nat} {Q : xO → Prop} (x1 : Int32) (x2 : Int32) (I : xI) (J : xJ) {t : Int32 × xI × xJ} (h : f_X5_codeNumber_3 x1 x2 I J = some t) (hC : (c_X5_codeNumber Q) t) : Rn L xs (d + 1) 64 31 [some (.ref 1), some (.int x1), some (.int x2)] [] 94 (I, J, xrf) Q := by
  unfold f_X5_codeNumber_3 at h
  cases h
  exact Rn.ret 2 (o := ((some (.int x1)), 94, (I, J, xrf))) (fun f => rfl) hC
theorem p_X5_codeNumber_2 {L : Nat} {xs : Nat → Int32} {d : Nat} {Q : xO → Prop} (x1 : Int32) (x2 : Int32) (I : xI) (J : xJ) {t : (Int32 × Int32 × xI × xJ) ⊕ (Int32 × xI × xJ)} (h : f_X5_codeNumber_2 x1 x2 I J = some t) (hC : (c_X5_codeNumber_1 L xs d Q) t) : Rn L xs (d + 1) 64 12 [some (.ref 1), some (.int x1), some (.int x2)] [] 94 (I, J, xrf) Q := by
  unfold f_X5_codeNumber_2 at h
  obtain ⟨hc, h⟩ := xif h
  refine Rn.ok 5 (c := x2 < 0 ∨ 6 ≤ x2.toNatClampNeg) (p1 := 19) (l1 := [some (.ref 1), some (.int x1), some (.int x2)]) (s1 := [.int ((I 4 x2.toNatClampNeg)), .int x1]) (n1 := 94) (M1 := (I, J, xrf)) (fun f => rfl) hc ?_
  refine Rn.go 8 (j' := 64) (pc' := 4) (ls' := [some (.ref 1), some (.int ((x1 ||| ((I 4 x2.toNatClampNeg) <<< ((3 * x2) &&& 31))))), some (.int ((x2 + 1)))]) (st' := []) (n' := 94) (M' := (I, J, xrf)) (fun f => rfl) ?_
  cases h; exact hC
theorem q_X5_codeNumber_1 {L : Nat} {xs : Nat → Int32} {d : Nat} {Q : xO → Prop} (x1 : Int32) (x2 : Int32) (I : xI) (J : xJ) {t : (Int32 × Int32 × xI × xJ) ⊕ (Int32 × xI × xJ)} (h : b_X5_codeNumber_1 x1 x2 I J = some t) (hC : (c_X5_codeNumber_1 L xs d Q) t) : Rn L xs (d + 1) 64 4 [some (.ref 1), some (.int x1), some (.int x2)] [] 94 (I, J, xrf) Q := by
  unfold b_X5_codeNumber_1 at h
  refine Rn.fi 4 (c := (I 1 0) ≤ x2) (p1 := 31) (l1 := [some (.ref 1), some (.int x1), some (.int x2)]) (s1 := []) (n1 := 94) (M1 := (I, J, xrf)) (p2 := 12) (l2 := [some (.ref 1), some (.int x1), some (.int x2)]) (s2 := []) (n2 := 94) (M2 := (I, J, xrf)) (fun f => rfl) (fun hc => ?_) (fun hc => ?_)
  · rw [if_pos hc] at h
    obtain ⟨t0, h0, rfl⟩ := Option.map_eq_some_iff.mp h
    exact p_X5_codeNumber_3 x1 x2 I J h0 hC
  · rw [if_neg hc] at h
    exact p_X5_codeNumber_2 x1 x2 I J h hC
theorem p_X5_codeNumber_1 {L : Nat} {xs : Nat → Int32} {d : Nat} {Q : xO → Prop} (x1 : Int32) (x2 : Int32) (I : xI) (J : xJ) {t : Int32 × xI × xJ} (h : f_X5_codeNumber_1 x1 x2 I J = some t) (hC : (c_X5_codeNumber Q) t) : Rn L xs (d + 1) 64 4 [some (.ref 1), some (.int x1), some (.int x2)] [] 94 (I, J, xrf) Q := by
  unfold f_X5_codeNumber_1 at h
  exact xloop_some (P := fun s : Int32 × Int32 × xI × xJ => Rn L xs (d + 1) 64 4 [some (.ref 1), some (.int s.1), some (.int s.2.1)] [] 94 (s.2.2.1, s.2.2.2, xrf) Q) t (fun s ⟨s', hb, hp⟩ => q_X5_codeNumber_1 s.1 s.2.1 s.2.2.1 s.2.2.2 hb hp) (fun s hb => q_X5_codeNumber_1 s.1 s.2.1 s.2.2.1 s.2.2.2 hb hC) _ _ h
theorem p_X5_codeNumber_0 {L : Nat} {xs : Nat → Int32} {d : Nat} {Q : xO → Prop} (I : xI) (J : xJ) {t : Int32 × xI × xJ} (h : f_X5_codeNumber_0 I J = some t) (hC : (c_X5_codeNumber Q) t) : Rn L xs (d + 1) 64 0 [some (.ref 1), none, none] [] 94 (I, J, xrf) Q := by
  unfold f_X5_codeNumber_0 at h
  refine Rn.go 4 (j' := 64) (pc' := 4) (ls' := [some (.ref 1), some (.int 0), some (.int 0)]) (st' := []) (n' := 94) (M' := (I, J, xrf)) (fun f => rfl) ?_
  exact p_X5_codeNumber_1 0 0 I J h hC
theorem p_X5_codeNumber {L : Nat} {xs : Nat → Int32} {d : Nat} {Q : xO → Prop} (I : xI) (J : xJ) {t : Int32 × xI × xJ} (h : f_X5_codeNumber I J = some t) (hC : Q ((some (.int t.1)), 94, (t.2.1, t.2.2, xrf))) : Rn L xs (d + 1) 64 0 [some (.ref 1), none, none] [] 94 (I, J, xrf) Q := p_X5_codeNumber_0 I J h hC
/-! X6_greatestRound -/
def c_X6_greatestRound (Q : xO → Prop) (t : Int32 × xI × xJ) : Prop := Q ((some (.int t.1)), 94, (t.2.1, t.2.2, xrf))
def c_X6_greatestRound_1 (L : Nat) (xs : Nat → Int32) (d : Nat) (Q : xO → Prop) (t : (Int32 × Int32 × xI × xJ) ⊕ (Int32 × xI × xJ)) : Prop := match t with
  | .inl s => Rn L xs (d + 1) 75 5 [some (.ref 32), some (.int s.1), some (.int s.2.1)] [] 94 (s.2.2.1, s.2.2.2, xrf) Q
  | .inr t => (c_X6_greatestRound Q) t
def f_X6_greatestRound_3 (x1 : Int32) (x2 : Int32) (I : xI) (J : xJ) : Option (Int32 × xI × xJ) := some (x1, I, J)
def f_X6_greatestRound_2 (x1 : Int32) (x2 : Int32) (I : xI) (J : xJ) : Option ((Int32 × Int32 × xI × xJ) ⊕ (Int32 × xI × xJ)) := if x2 < 0 ∨ 15 ≤ x2.toNatClampNeg then none else some (.inl (((if x1 < (I 34 x2.toNatClampNeg) then (I 34 x2.toNatClampNeg) else x1)), ((x2 + 1)), I, J))
def b_X6_greatestRound_1 (x1 : Int32) (x2 : Int32) (I : xI) (J : xJ) : Option ((Int32 × Int32 × xI × xJ) ⊕ (Int32 × xI × xJ)) := if 15 ≤ x2 then ((f_X6_greatestRound_3 x1 x2 I J)).map .inr else f_X6_greatestRound_2 x1 x2 I J
def f_X6_greatestRound_1 (x1 : Int32) (x2 : Int32) (I : xI) (J : xJ) : Option (Int32 × xI × xJ) := xloop (fun s : Int32 × Int32 × xI × xJ => b_X6_greatestRound_1 s.1 s.2.1 s.2.2.1 s.2.2.2) 5000 (x1, x2, I, J)
def f_X6_greatestRound_0 (I : xI) (J : xJ) : Option (Int32 × xI × xJ) := f_X6_greatestRound_1 ((-2)) 0 I J
def f_X6_greatestRound (I : xI) (J : xJ) : Option (Int32 × xI × xJ) := f_X6_greatestRound_0 I J
theorem p_X6_greatestRound_3 {L : Nat} {xs : Nat → Int32} {d : Nat} {Q : xO → Prop} (x1 : Int32) (x2 : Int32) (I : xI) (J : xJ) {t : Int32 × xI × xJ} (h : f_X6_greatestRound_3 x1 x2 I J = some t) (hC : (c_X6_greatestRound Q) t) : Rn L xs (d + 1) 75 28 [some (.ref 32), some (.int x1), some (.int x2)] [] 94 (I, J, xrf) Q := by
  unfold f_X6_greatestRound_3 at h
  cases h
  exact Rn.ret 2 (o := ((some (.int x1)), 94, (I, J, xrf))) (fun f => rfl) hC
theorem p_X6_greatestRound_2 {L : Nat} {xs : Nat → Int32} {d : Nat} {Q : xO → Prop} (x1 : Int32) (x2 : Int32) (I : xI) (J : xJ) {t : (Int32 × Int32 × xI × xJ) ⊕ (Int32 × xI × xJ)} (h : f_X6_greatestRound_2 x1 x2 I J = some t) (hC : (c_X6_greatestRound_1 L xs d Q) t) : Rn L xs (d + 1) 75 11 [some (.ref 32), some (.int x1), some (.int x2)] [] 94 (I, J, xrf) Q := by
  unfold f_X6_greatestRound_2 at h
  obtain ⟨hc, h⟩ := xif h
  refine Rn.ok 5 (c := x2 < 0 ∨ 15 ≤ x2.toNatClampNeg) (p1 := 18) (l1 := [some (.ref 32), some (.int x1), some (.int x2)]) (s1 := [.int ((I 34 x2.toNatClampNeg)), .int x1]) (n1 := 94) (M1 := (I, J, xrf)) (fun f => rfl) hc ?_
  refine Rn.go 4 (j' := 75) (pc' := 5) (ls' := [some (.ref 32), some (.int ((if x1 < (I 34 x2.toNatClampNeg) then (I 34 x2.toNatClampNeg) else x1))), some (.int ((x2 + 1)))]) (st' := []) (n' := 94) (M' := (I, J, xrf)) (fun f => rfl) ?_
  cases h; exact hC
theorem q_X6_greatestRound_1 {L : Nat} {xs : Nat → Int32} {d : Nat} {Q : xO → Prop} (x1 : Int32) (x2 : Int32) (I : xI) (J : xJ) {t : (Int32 × Int32 × xI × xJ) ⊕ (Int32 × xI × xJ)} (h : b_X6_greatestRound_1 x1 x2 I J = some t) (hC : (c_X6_greatestRound_1 L xs d Q) t) : Rn L xs (d + 1) 75 5 [some (.ref 32), some (.int x1), some (.int x2)] [] 94 (I, J, xrf) Q := by
  unfold b_X6_greatestRound_1 at h
  refine Rn.fi 3 (c := 15 ≤ x2) (p1 := 28) (l1 := [some (.ref 32), some (.int x1), some (.int x2)]) (s1 := []) (n1 := 94) (M1 := (I, J, xrf)) (p2 := 11) (l2 := [some (.ref 32), some (.int x1), some (.int x2)]) (s2 := []) (n2 := 94) (M2 := (I, J, xrf)) (fun f => rfl) (fun hc => ?_) (fun hc => ?_)
  · rw [if_pos hc] at h
    obtain ⟨t0, h0, rfl⟩ := Option.map_eq_some_iff.mp h
    exact p_X6_greatestRound_3 x1 x2 I J h0 hC
  · rw [if_neg hc] at h
    exact p_X6_greatestRound_2 x1 x2 I J h hC
theorem p_X6_greatestRound_1 {L : Nat} {xs : Nat → Int32} {d : Nat} {Q : xO → Prop} (x1 : Int32) (x2 : Int32) (I : xI) (J : xJ) {t : Int32 × xI × xJ} (h : f_X6_greatestRound_1 x1 x2 I J = some t) (hC : (c_X6_greatestRound Q) t) : Rn L xs (d + 1) 75 5 [some (.ref 32), some (.int x1), some (.int x2)] [] 94 (I, J, xrf) Q := by
  unfold f_X6_greatestRound_1 at h
  exact xloop_some (P := fun s : Int32 × Int32 × xI × xJ => Rn L xs (d + 1) 75 5 [some (.ref 32), some (.int s.1), some (.int s.2.1)] [] 94 (s.2.2.1, s.2.2.2, xrf) Q) t (fun s ⟨s', hb, hp⟩ => q_X6_greatestRound_1 s.1 s.2.1 s.2.2.1 s.2.2.2 hb hp) (fun s hb => q_X6_greatestRound_1 s.1 s.2.1 s.2.2.1 s.2.2.2 hb hC) _ _ h
theorem p_X6_greatestRound_0 {L : Nat} {xs : Nat → Int32} {d : Nat} {Q : xO → Prop} (I : xI) (J : xJ) {t : Int32 × xI × xJ} (h : f_X6_greatestRound_0 I J = some t) (hC : (c_X6_greatestRound Q) t) : Rn L xs (d + 1) 75 0 [some (.ref 32), none, none] [] 94 (I, J, xrf) Q := by
  unfold f_X6_greatestRound_0 at h
  refine Rn.go 4 (j' := 75) (pc' := 5) (ls' := [some (.ref 32), some (.int ((-2))), some (.int 0)]) (st' := []) (n' := 94) (M' := (I, J, xrf)) (fun f => rfl) ?_
  exact p_X6_greatestRound_1 ((-2)) 0 I J h hC
theorem p_X6_greatestRound {L : Nat} {xs : Nat → Int32} {d : Nat} {Q : xO → Prop} (I : xI) (J : xJ) {t : Int32 × xI × xJ} (h : f_X6_greatestRound I J = some t) (hC : Q ((some (.int t.1)), 94, (t.2.1, t.2.2, xrf))) : Rn L xs (d + 1) 75 0 [some (.ref 32), none, none] [] 94 (I, J, xrf) Q := p_X6_greatestRound_0 I J h hC
/-! X6_apartCount -/
def c_X6_apartCount (Q : xO → Prop) (t : Int32 × xI × xJ) : Prop := Q ((some (.int t.1)), 94, (t.2.1, t.2.2, xrf))
def f_X6_apartCount_1 (s0 : Int32) (I : xI) (J : xJ) : Option (Int32 × xI × xJ) := some (s0, I, J)
def f_X6_apartCount_0 (I : xI) (J : xJ) : Option (Int32 × xI × xJ) := (f_J6_bitCount_0f7a4 ((I 32 3)) I J).bind fun o => f_X6_apartCount_1 o.1 o.2.1 o.2.2
def f_X6_apartCount (I : xI) (J : xJ) : Option (Int32 × xI × xJ) := f_X6_apartCount_0 I J
theorem p_X6_apartCount_1 {L : Nat} {xs : Nat → Int32} {d : Nat} {Q : xO → Prop} (s0 : Int32) (I : xI) (J : xJ) {t : Int32 × xI × xJ} (h : f_X6_apartCount_1 s0 I J = some t) (hC : (c_X6_apartCount Q) t) : Rn L xs (d + 2) 74 7 [some (.ref 32)] [.int s0] 94 (I, J, xrf) Q := by
  unfold f_X6_apartCount_1 at h
  cases h
  exact Rn.ret 1 (o := ((some (.int s0)), 94, (I, J, xrf))) (fun f => rfl) hC
theorem p_X6_apartCount_0 {L : Nat} {xs : Nat → Int32} {d : Nat} {Q : xO → Prop} (I : xI) (J : xJ) {t : Int32 × xI × xJ} (h : f_X6_apartCount_0 I J = some t) (hC : (c_X6_apartCount Q) t) : Rn L xs (d + 2) 74 0 [some (.ref 32)] [] 94 (I, J, xrf) Q := by
  unfold f_X6_apartCount_0 at h
  refine Rn.go 2 (j' := 74) (pc' := 4) (ls' := [some (.ref 32)]) (st' := [.int ((I 32 3))]) (n' := 94) (M' := (I, J, xrf)) (fun f => rfl) ?_
  obtain ⟨o, ho, h⟩ := Option.bind_eq_some_iff.mp h
  refine Rn.call (d1 := d + 1) (j1 := 299) (ls1 := [some (.int ((I 32 3)))]) (rest := []) (fun f => rfl) ?_
  refine p_J6_bitCount_0f7a4 (d := d + 0) ((I 32 3)) I J (t := o) ho ?_
  exact p_X6_apartCount_1 o.1 o.2.1 o.2.2 h hC
theorem p_X6_apartCount {L : Nat} {xs : Nat → Int32} {d : Nat} {Q : xO → Prop} (I : xI) (J : xJ) {t : Int32 × xI × xJ} (h : f_X6_apartCount I J = some t) (hC : Q ((some (.int t.1)), 94, (t.2.1, t.2.2, xrf))) : Rn L xs (d + 2) 74 0 [some (.ref 32)] [] 94 (I, J, xrf) Q := p_X6_apartCount_0 I J h hC
/-! X5_toldAnswers -/
def c_X5_toldAnswers (Q : xO → Prop) (t : Int32 × xI × xJ) : Prop := Q ((some (.int t.1)), 94, (t.2.1, t.2.2, xrf))
def c_X5_toldAnswers_1 (L : Nat) (xs : Nat → Int32) (d : Nat) (Q : xO → Prop) (t : (Int32 × Int32 × (Option Value) × xI × xJ) ⊕ (Int32 × xI × xJ)) : Prop := match t with
  | .inl s => Rn L xs (d + 2) 66 4 [some (.ref 1), some (.int s.1), some (.int s.2.1), s.2.2.1] [] 94 (s.2.2.2.1, s.2.2.2.2, xrf) Q
  | .inr t => (c_X5_toldAnswers Q) t
def c_X5_toldAnswers_3 (L : Nat) (xs : Nat → Int32) (d : Nat) (Q : xO → Prop) (t : (Int32 × Int32 × Int32 × xI × xJ) ⊕ ((Int32 × Int32 × (Option Value) × xI × xJ) ⊕ (Int32 × xI × xJ))) : Prop := match t with
  | .inl s => Rn L xs (d + 2) 66 14 [some (.ref 1), some (.int s.1), some (.int s.2.1), some (.int s.2.2.1)] [] 94 (s.2.2.2.1, s.2.2.2.2, xrf) Q
  | .inr t => (c_X5_toldAnswers_1 L xs d Q) t
def f_X5_toldAnswers_10 (x1 : Int32) (x2 : Int32) (z3 : Option Value) (I : xI) (J : xJ) : Option (Int32 × xI × xJ) := some (x1, I, J)
def f_X5_toldAnswers_9 (x1 : Int32) (x2 : Int32) (x3 : Int32) (I : xI) (J : xJ) : Option ((Int32 × Int32 × (Option Value) × xI × xJ) ⊕ (Int32 × xI × xJ)) := some (.inl (x1, ((x2 + 1)), (some (.int x3)), I, J))
def f_X5_toldAnswers_8 (x1 : Int32) (x2 : Int32) (x3 : Int32) (s0 : Int32) (s1 : Int32) (I : xI) (J : xJ) : Option ((Int32 × Int32 × Int32 × xI × xJ) ⊕ ((Int32 × Int32 × (Option Value) × xI × xJ) ⊕ (Int32 × xI × xJ))) := some (.inl (((s0 + s1)), x2, ((x3 + 1)), I, J))
def f_X5_toldAnswers_7 (x1 : Int32) (x2 : Int32) (x3 : Int32) (s0 : Int32) (I : xI) (J : xJ) : Option ((Int32 × Int32 × Int32 × xI × xJ) ⊕ ((Int32 × Int32 × (Option Value) × xI × xJ) ⊕ (Int32 × xI × xJ))) := f_X5_toldAnswers_8 x1 x2 x3 s0 1 I J
def f_X5_toldAnswers_6 (x1 : Int32) (x2 : Int32) (x3 : Int32) (s0 : Int32) (I : xI) (J : xJ) : Option ((Int32 × Int32 × Int32 × xI × xJ) ⊕ ((Int32 × Int32 × (Option Value) × xI × xJ) ⊕ (Int32 × xI × xJ))) := f_X5_toldAnswers_8 x1 x2 x3 s0 0 I J
def f_X5_toldAnswers_5 (x1 : Int32) (x2 : Int32) (x3 : Int32) (s0 : Int32) (s1 : Int32) (I : xI) (J : xJ) : Option ((Int32 × Int32 × Int32 × xI × xJ) ⊕ ((Int32 × Int32 × (Option Value) × xI × xJ) ⊕ (Int32 × xI × xJ))) := if s1 = (-2) then f_X5_toldAnswers_6 x1 x2 x3 s0 I J else f_X5_toldAnswers_7 x1 x2 x3 s0 I J
def f_X5_toldAnswers_4 (x1 : Int32) (x2 : Int32) (x3 : Int32) (I : xI) (J : xJ) : Option ((Int32 × Int32 × Int32 × xI × xJ) ⊕ ((Int32 × Int32 × (Option Value) × xI × xJ) ⊕ (Int32 × xI × xJ))) := (f_X5_answerOf x2 x3 I J).bind fun o => f_X5_toldAnswers_5 x1 x2 x3 x1 o.1 o.2.1 o.2.2
def b_X5_toldAnswers_3 (x1 : Int32) (x2 : Int32) (x3 : Int32) (I : xI) (J : xJ) : Option ((Int32 × Int32 × Int32 × xI × xJ) ⊕ ((Int32 × Int32 × (Option Value) × xI × xJ) ⊕ (Int32 × xI × xJ))) := if (I 1 1) ≤ x3 then ((f_X5_toldAnswers_9 x1 x2 x3 I J)).map .inr else f_X5_toldAnswers_4 x1 x2 x3 I J
def f_X5_toldAnswers_3 (x1 : Int32) (x2 : Int32) (x3 : Int32) (I : xI) (J : xJ) : Option ((Int32 × Int32 × (Option Value) × xI × xJ) ⊕ (Int32 × xI × xJ)) := xloop (fun s : Int32 × Int32 × Int32 × xI × xJ => b_X5_toldAnswers_3 s.1 s.2.1 s.2.2.1 s.2.2.2.1 s.2.2.2.2) 5000 (x1, x2, x3, I, J)
def f_X5_toldAnswers_2 (x1 : Int32) (x2 : Int32) (z3 : Option Value) (I : xI) (J : xJ) : Option ((Int32 × Int32 × (Option Value) × xI × xJ) ⊕ (Int32 × xI × xJ)) := f_X5_toldAnswers_3 x1 x2 0 I J
def b_X5_toldAnswers_1 (x1 : Int32) (x2 : Int32) (z3 : Option Value) (I : xI) (J : xJ) : Option ((Int32 × Int32 × (Option Value) × xI × xJ) ⊕ (Int32 × xI × xJ)) := if (I 1 0) ≤ x2 then ((f_X5_toldAnswers_10 x1 x2 z3 I J)).map .inr else f_X5_toldAnswers_2 x1 x2 z3 I J
def f_X5_toldAnswers_1 (x1 : Int32) (x2 : Int32) (z3 : Option Value) (I : xI) (J : xJ) : Option (Int32 × xI × xJ) := xloop (fun s : Int32 × Int32 × (Option Value) × xI × xJ => b_X5_toldAnswers_1 s.1 s.2.1 s.2.2.1 s.2.2.2.1 s.2.2.2.2) 5000 (x1, x2, z3, I, J)
def f_X5_toldAnswers_0 (I : xI) (J : xJ) : Option (Int32 × xI × xJ) := f_X5_toldAnswers_1 0 0 none I J
def f_X5_toldAnswers (I : xI) (J : xJ) : Option (Int32 × xI × xJ) := f_X5_toldAnswers_0 I J
theorem p_X5_toldAnswers_10 {L : Nat} {xs : Nat → Int32} {d : Nat} {Q : xO → Prop} (x1 : Int32) (x2 : Int32) (z3 : Option Value) (I : xI) (J : xJ) {t : Int32 × xI × xJ} (h : f_X5_toldAnswers_10 x1 x2 z3 I J = some t) (hC : (c_X5_toldAnswers Q) t) : Rn L xs (d + 2) 66 53 [some (.ref 1), some (.int x1), some (.int x2), z3] [] 94 (I, J, xrf) Q := by
  unfold f_X5_toldAnswers_10 at h
  cases h
  exact Rn.ret 2 (o := ((some (.int x1)), 94, (I, J, xrf))) (fun f => rfl) hC
theorem p_X5_toldAnswers_9 {L : Nat} {xs : Nat → Int32} {d : Nat} {Q : xO → Prop} (x1 : Int32) (x2 : Int32) (x3 : Int32) (I : xI) (J : xJ) {t : (Int32 × Int32 × (Option Value) × xI × xJ) ⊕ (Int32 × xI × xJ)} (h : f_X5_toldAnswers_9 x1 x2 x3 I J = some t) (hC : (c_X5_toldAnswers_1 L xs d Q) t) : Rn L xs (d + 2) 66 47 [some (.ref 1), some (.int x1), some (.int x2), some (.int x3)] [] 94 (I, J, xrf) Q := by
  unfold f_X5_toldAnswers_9 at h
  refine Rn.go 2 (j' := 66) (pc' := 4) (ls' := [some (.ref 1), some (.int x1), some (.int ((x2 + 1))), some (.int x3)]) (st' := []) (n' := 94) (M' := (I, J, xrf)) (fun f => rfl) ?_
  cases h; exact hC
theorem p_X5_toldAnswers_8 {L : Nat} {xs : Nat → Int32} {d : Nat} {Q : xO → Prop} (x1 : Int32) (x2 : Int32) (x3 : Int32) (s0 : Int32) (s1 : Int32) (I : xI) (J : xJ) {t : (Int32 × Int32 × Int32 × xI × xJ) ⊕ ((Int32 × Int32 × (Option Value) × xI × xJ) ⊕ (Int32 × xI × xJ))} (h : f_X5_toldAnswers_8 x1 x2 x3 s0 s1 I J = some t) (hC : (c_X5_toldAnswers_3 L xs d Q) t) : Rn L xs (d + 2) 66 39 [some (.ref 1), some (.int x1), some (.int x2), some (.int x3)] [.int s1, .int s0] 94 (I, J, xrf) Q := by
  unfold f_X5_toldAnswers_8 at h
  refine Rn.go 4 (j' := 66) (pc' := 14) (ls' := [some (.ref 1), some (.int ((s0 + s1))), some (.int x2), some (.int ((x3 + 1)))]) (st' := []) (n' := 94) (M' := (I, J, xrf)) (fun f => rfl) ?_
  cases h; exact hC
theorem p_X5_toldAnswers_7 {L : Nat} {xs : Nat → Int32} {d : Nat} {Q : xO → Prop} (x1 : Int32) (x2 : Int32) (x3 : Int32) (s0 : Int32) (I : xI) (J : xJ) {t : (Int32 × Int32 × Int32 × xI × xJ) ⊕ ((Int32 × Int32 × (Option Value) × xI × xJ) ⊕ (Int32 × xI × xJ))} (h : f_X5_toldAnswers_7 x1 x2 x3 s0 I J = some t) (hC : (c_X5_toldAnswers_3 L xs d Q) t) : Rn L xs (d + 2) 66 38 [some (.ref 1), some (.int x1), some (.int x2), some (.int x3)] [.int s0] 94 (I, J, xrf) Q := by
  unfold f_X5_toldAnswers_7 at h
  refine Rn.go 1 (j' := 66) (pc' := 39) (ls' := [some (.ref 1), some (.int x1), some (.int x2), some (.int x3)]) (st' := [.int 1, .int s0]) (n' := 94) (M' := (I, J, xrf)) (fun f => rfl) ?_
  exact p_X5_toldAnswers_8 x1 x2 x3 s0 1 I J h hC
theorem p_X5_toldAnswers_6 {L : Nat} {xs : Nat → Int32} {d : Nat} {Q : xO → Prop} (x1 : Int32) (x2 : Int32) (x3 : Int32) (s0 : Int32) (I : xI) (J : xJ) {t : (Int32 × Int32 × Int32 × xI × xJ) ⊕ ((Int32 × Int32 × (Option Value) × xI × xJ) ⊕ (Int32 × xI × xJ))} (h : f_X5_toldAnswers_6 x1 x2 x3 s0 I J = some t) (hC : (c_X5_toldAnswers_3 L xs d Q) t) : Rn L xs (d + 2) 66 34 [some (.ref 1), some (.int x1), some (.int x2), some (.int x3)] [.int s0] 94 (I, J, xrf) Q := by
  unfold f_X5_toldAnswers_6 at h
  refine Rn.go 2 (j' := 66) (pc' := 39) (ls' := [some (.ref 1), some (.int x1), some (.int x2), some (.int x3)]) (st' := [.int 0, .int s0]) (n' := 94) (M' := (I, J, xrf)) (fun f => rfl) ?_
  exact p_X5_toldAnswers_8 x1 x2 x3 s0 0 I J h hC
theorem p_X5_toldAnswers_5 {L : Nat} {xs : Nat → Int32} {d : Nat} {Q : xO → Prop} (x1 : Int32) (x2 : Int32) (x3 : Int32) (s0 : Int32) (s1 : Int32) (I : xI) (J : xJ) {t : (Int32 × Int32 × Int32 × xI × xJ) ⊕ ((Int32 × Int32 × (Option Value) × xI × xJ) ⊕ (Int32 × xI × xJ))} (h : f_X5_toldAnswers_5 x1 x2 x3 s0 s1 I J = some t) (hC : (c_X5_toldAnswers_3 L xs d Q) t) : Rn L xs (d + 2) 66 29 [some (.ref 1), some (.int x1), some (.int x2), some (.int x3)] [.int s1, .int s0] 94 (I, J, xrf) Q := by
  unfold f_X5_toldAnswers_5 at h
  refine Rn.fi 2 (c := s1 = (-2)) (p1 := 34) (l1 := [some (.ref 1), some (.int x1), some (.int x2), some (.int x3)]) (s1 := [.int s0]) (n1 := 94) (M1 := (I, J, xrf)) (p2 := 38) (l2 := [some (.ref 1), some (.int x1), some (.int x2), some (.int x3)]) (s2 := [.int s0]) (n2 := 94) (M2 := (I, J, xrf)) (fun f => rfl) (fun hc => ?_) (fun hc => ?_)
  · rw [if_pos hc] at h
    exact p_X5_toldAnswers_6 x1 x2 x3 s0 I J h hC
  · rw [if_neg hc] at h
    exact p_X5_toldAnswers_7 x1 x2 x3 s0 I J h hC
theorem p_X5_toldAnswers_4 {L : Nat} {xs : Nat → Int32} {d : Nat} {Q : xO → Prop} (x1 : Int32) (x2 : Int32) (x3 : Int32) (I : xI) (J : xJ) {t : (Int32 × Int32 × Int32 × xI × xJ) ⊕ ((Int32 × Int32 × (Option Value) × xI × xJ) ⊕ (Int32 × xI × xJ))} (h : f_X5_toldAnswers_4 x1 x2 x3 I J = some t) (hC : (c_X5_toldAnswers_3 L xs d Q) t) : Rn L xs (d + 2) 66 22 [some (.ref 1), some (.int x1), some (.int x2), some (.int x3)] [] 94 (I, J, xrf) Q := by
  unfold f_X5_toldAnswers_4 at h
  refine Rn.go 4 (j' := 66) (pc' := 26) (ls' := [some (.ref 1), some (.int x1), some (.int x2), some (.int x3)]) (st' := [.int x3, .int x2, .ref 1, .int x1]) (n' := 94) (M' := (I, J, xrf)) (fun f => rfl) ?_
  obtain ⟨o, ho, h⟩ := Option.bind_eq_some_iff.mp h
  refine Rn.call (d1 := d + 1) (j1 := 58) (ls1 := [some (.ref 1), some (.int x2), some (.int x3)]) (rest := [.int x1]) (fun f => rfl) ?_
  refine p_X5_answerOf (d := d + 0) x2 x3 I J (t := o) ho ?_
  exact p_X5_toldAnswers_5 x1 x2 x3 x1 o.1 o.2.1 o.2.2 h hC
theorem q_X5_toldAnswers_3 {L : Nat} {xs : Nat → Int32} {d : Nat} {Q : xO → Prop} (x1 : Int32) (x2 : Int32) (x3 : Int32) (I : xI) (J : xJ) {t : (Int32 × Int32 × Int32 × xI × xJ) ⊕ ((Int32 × Int32 × (Option Value) × xI × xJ) ⊕ (Int32 × xI × xJ))} (h : b_X5_toldAnswers_3 x1 x2 x3 I J = some t) (hC : (c_X5_toldAnswers_3 L xs d Q) t) : Rn L xs (d + 2) 66 14 [some (.ref 1), some (.int x1), some (.int x2), some (.int x3)] [] 94 (I, J, xrf) Q := by
  unfold b_X5_toldAnswers_3 at h
  refine Rn.fi 4 (c := (I 1 1) ≤ x3) (p1 := 47) (l1 := [some (.ref 1), some (.int x1), some (.int x2), some (.int x3)]) (s1 := []) (n1 := 94) (M1 := (I, J, xrf)) (p2 := 22) (l2 := [some (.ref 1), some (.int x1), some (.int x2), some (.int x3)]) (s2 := []) (n2 := 94) (M2 := (I, J, xrf)) (fun f => rfl) (fun hc => ?_) (fun hc => ?_)
  · rw [if_pos hc] at h
    obtain ⟨t0, h0, rfl⟩ := Option.map_eq_some_iff.mp h
    exact p_X5_toldAnswers_9 x1 x2 x3 I J h0 hC
  · rw [if_neg hc] at h
    exact p_X5_toldAnswers_4 x1 x2 x3 I J h hC
theorem p_X5_toldAnswers_3 {L : Nat} {xs : Nat → Int32} {d : Nat} {Q : xO → Prop} (x1 : Int32) (x2 : Int32) (x3 : Int32) (I : xI) (J : xJ) {t : (Int32 × Int32 × (Option Value) × xI × xJ) ⊕ (Int32 × xI × xJ)} (h : f_X5_toldAnswers_3 x1 x2 x3 I J = some t) (hC : (c_X5_toldAnswers_1 L xs d Q) t) : Rn L xs (d + 2) 66 14 [some (.ref 1), some (.int x1), some (.int x2), some (.int x3)] [] 94 (I, J, xrf) Q := by
  unfold f_X5_toldAnswers_3 at h
  exact xloop_some (P := fun s : Int32 × Int32 × Int32 × xI × xJ => Rn L xs (d + 2) 66 14 [some (.ref 1), some (.int s.1), some (.int s.2.1), some (.int s.2.2.1)] [] 94 (s.2.2.2.1, s.2.2.2.2, xrf) Q) t (fun s ⟨s', hb, hp⟩ => q_X5_toldAnswers_3 s.1 s.2.1 s.2.2.1 s.2.2.2.1 s.2.2.2.2 hb hp) (fun s hb => q_X5_toldAnswers_3 s.1 s.2.1 s.2.2.1 s.2.2.2.1 s.2.2.2.2 hb hC) _ _ h
theorem p_X5_toldAnswers_2 {L : Nat} {xs : Nat → Int32} {d : Nat} {Q : xO → Prop} (x1 : Int32) (x2 : Int32) (z3 : Option Value) (I : xI) (J : xJ) {t : (Int32 × Int32 × (Option Value) × xI × xJ) ⊕ (Int32 × xI × xJ)} (h : f_X5_toldAnswers_2 x1 x2 z3 I J = some t) (hC : (c_X5_toldAnswers_1 L xs d Q) t) : Rn L xs (d + 2) 66 12 [some (.ref 1), some (.int x1), some (.int x2), z3] [] 94 (I, J, xrf) Q := by
  unfold f_X5_toldAnswers_2 at h
  refine Rn.go 2 (j' := 66) (pc' := 14) (ls' := [some (.ref 1), some (.int x1), some (.int x2), some (.int 0)]) (st' := []) (n' := 94) (M' := (I, J, xrf)) (fun f => rfl) ?_
  exact p_X5_toldAnswers_3 x1 x2 0 I J h hC
theorem q_X5_toldAnswers_1 {L : Nat} {xs : Nat → Int32} {d : Nat} {Q : xO → Prop} (x1 : Int32) (x2 : Int32) (z3 : Option Value) (I : xI) (J : xJ) {t : (Int32 × Int32 × (Option Value) × xI × xJ) ⊕ (Int32 × xI × xJ)} (h : b_X5_toldAnswers_1 x1 x2 z3 I J = some t) (hC : (c_X5_toldAnswers_1 L xs d Q) t) : Rn L xs (d + 2) 66 4 [some (.ref 1), some (.int x1), some (.int x2), z3] [] 94 (I, J, xrf) Q := by
  unfold b_X5_toldAnswers_1 at h
  refine Rn.fi 4 (c := (I 1 0) ≤ x2) (p1 := 53) (l1 := [some (.ref 1), some (.int x1), some (.int x2), z3]) (s1 := []) (n1 := 94) (M1 := (I, J, xrf)) (p2 := 12) (l2 := [some (.ref 1), some (.int x1), some (.int x2), z3]) (s2 := []) (n2 := 94) (M2 := (I, J, xrf)) (fun f => rfl) (fun hc => ?_) (fun hc => ?_)
  · rw [if_pos hc] at h
    obtain ⟨t0, h0, rfl⟩ := Option.map_eq_some_iff.mp h
    exact p_X5_toldAnswers_10 x1 x2 z3 I J h0 hC
  · rw [if_neg hc] at h
    exact p_X5_toldAnswers_2 x1 x2 z3 I J h hC
theorem p_X5_toldAnswers_1 {L : Nat} {xs : Nat → Int32} {d : Nat} {Q : xO → Prop} (x1 : Int32) (x2 : Int32) (z3 : Option Value) (I : xI) (J : xJ) {t : Int32 × xI × xJ} (h : f_X5_toldAnswers_1 x1 x2 z3 I J = some t) (hC : (c_X5_toldAnswers Q) t) : Rn L xs (d + 2) 66 4 [some (.ref 1), some (.int x1), some (.int x2), z3] [] 94 (I, J, xrf) Q := by
  unfold f_X5_toldAnswers_1 at h
  exact xloop_some (P := fun s : Int32 × Int32 × (Option Value) × xI × xJ => Rn L xs (d + 2) 66 4 [some (.ref 1), some (.int s.1), some (.int s.2.1), s.2.2.1] [] 94 (s.2.2.2.1, s.2.2.2.2, xrf) Q) t (fun s ⟨s', hb, hp⟩ => q_X5_toldAnswers_1 s.1 s.2.1 s.2.2.1 s.2.2.2.1 s.2.2.2.2 hb hp) (fun s hb => q_X5_toldAnswers_1 s.1 s.2.1 s.2.2.1 s.2.2.2.1 s.2.2.2.2 hb hC) _ _ h
theorem p_X5_toldAnswers_0 {L : Nat} {xs : Nat → Int32} {d : Nat} {Q : xO → Prop} (I : xI) (J : xJ) {t : Int32 × xI × xJ} (h : f_X5_toldAnswers_0 I J = some t) (hC : (c_X5_toldAnswers Q) t) : Rn L xs (d + 2) 66 0 [some (.ref 1), none, none, none] [] 94 (I, J, xrf) Q := by
  unfold f_X5_toldAnswers_0 at h
  refine Rn.go 4 (j' := 66) (pc' := 4) (ls' := [some (.ref 1), some (.int 0), some (.int 0), none]) (st' := []) (n' := 94) (M' := (I, J, xrf)) (fun f => rfl) ?_
  exact p_X5_toldAnswers_1 0 0 none I J h hC
theorem p_X5_toldAnswers {L : Nat} {xs : Nat → Int32} {d : Nat} {Q : xO → Prop} (I : xI) (J : xJ) {t : Int32 × xI × xJ} (h : f_X5_toldAnswers I J = some t) (hC : Q ((some (.int t.1)), 94, (t.2.1, t.2.2, xrf))) : Rn L xs (d + 2) 66 0 [some (.ref 1), none, none, none] [] 94 (I, J, xrf) Q := p_X5_toldAnswers_0 I J h hC
/-! X5_openMoves -/
def c_X5_openMoves (Q : xO → Prop) (t : Int32 × xI × xJ) : Prop := Q ((some (.int t.1)), 94, (t.2.1, t.2.2, xrf))
def c_X5_openMoves_1 (L : Nat) (xs : Nat → Int32) (d : Nat) (Q : xO → Prop) (t : (Int32 × Int32 × (Option Value) × xI × xJ) ⊕ (Int32 × xI × xJ)) : Prop := match t with
  | .inl s => Rn L xs (d + 2) 65 4 [some (.ref 1), some (.int s.1), some (.int s.2.1), s.2.2.1] [] 94 (s.2.2.2.1, s.2.2.2.2, xrf) Q
  | .inr t => (c_X5_openMoves Q) t
def c_X5_openMoves_3 (L : Nat) (xs : Nat → Int32) (d : Nat) (Q : xO → Prop) (t : (Int32 × Int32 × Int32 × xI × xJ) ⊕ ((Int32 × Int32 × (Option Value) × xI × xJ) ⊕ (Int32 × xI × xJ))) : Prop := match t with
  | .inl s => Rn L xs (d + 2) 65 14 [some (.ref 1), some (.int s.1), some (.int s.2.1), some (.int s.2.2.1)] [] 94 (s.2.2.2.1, s.2.2.2.2, xrf) Q
  | .inr t => (c_X5_openMoves_1 L xs d Q) t
def f_X5_openMoves_10 (x1 : Int32) (x2 : Int32) (z3 : Option Value) (I : xI) (J : xJ) : Option (Int32 × xI × xJ) := some (x1, I, J)
def f_X5_openMoves_9 (x1 : Int32) (x2 : Int32) (x3 : Int32) (I : xI) (J : xJ) : Option ((Int32 × Int32 × (Option Value) × xI × xJ) ⊕ (Int32 × xI × xJ)) := some (.inl (x1, ((x2 + 1)), (some (.int x3)), I, J))
def f_X5_openMoves_8 (x1 : Int32) (x2 : Int32) (x3 : Int32) (s0 : Int32) (s1 : Int32) (I : xI) (J : xJ) : Option ((Int32 × Int32 × Int32 × xI × xJ) ⊕ ((Int32 × Int32 × (Option Value) × xI × xJ) ⊕ (Int32 × xI × xJ))) := some (.inl (((s0 + s1)), x2, ((x3 + 1)), I, J))
def f_X5_openMoves_7 (x1 : Int32) (x2 : Int32) (x3 : Int32) (s0 : Int32) (I : xI) (J : xJ) : Option ((Int32 × Int32 × Int32 × xI × xJ) ⊕ ((Int32 × Int32 × (Option Value) × xI × xJ) ⊕ (Int32 × xI × xJ))) := f_X5_openMoves_8 x1 x2 x3 s0 0 I J
def f_X5_openMoves_6 (x1 : Int32) (x2 : Int32) (x3 : Int32) (s0 : Int32) (I : xI) (J : xJ) : Option ((Int32 × Int32 × Int32 × xI × xJ) ⊕ ((Int32 × Int32 × (Option Value) × xI × xJ) ⊕ (Int32 × xI × xJ))) := f_X5_openMoves_8 x1 x2 x3 s0 1 I J
def f_X5_openMoves_5 (x1 : Int32) (x2 : Int32) (x3 : Int32) (s0 : Int32) (s1 : Int32) (I : xI) (J : xJ) : Option ((Int32 × Int32 × Int32 × xI × xJ) ⊕ ((Int32 × Int32 × (Option Value) × xI × xJ) ⊕ (Int32 × xI × xJ))) := if s1 = (-2) then f_X5_openMoves_6 x1 x2 x3 s0 I J else f_X5_openMoves_7 x1 x2 x3 s0 I J
def f_X5_openMoves_4 (x1 : Int32) (x2 : Int32) (x3 : Int32) (I : xI) (J : xJ) : Option ((Int32 × Int32 × Int32 × xI × xJ) ⊕ ((Int32 × Int32 × (Option Value) × xI × xJ) ⊕ (Int32 × xI × xJ))) := (f_X5_targetOf x2 x3 I J).bind fun o => f_X5_openMoves_5 x1 x2 x3 x1 o.1 o.2.1 o.2.2
def b_X5_openMoves_3 (x1 : Int32) (x2 : Int32) (x3 : Int32) (I : xI) (J : xJ) : Option ((Int32 × Int32 × Int32 × xI × xJ) ⊕ ((Int32 × Int32 × (Option Value) × xI × xJ) ⊕ (Int32 × xI × xJ))) := if (I 1 1) ≤ x3 then ((f_X5_openMoves_9 x1 x2 x3 I J)).map .inr else f_X5_openMoves_4 x1 x2 x3 I J
def f_X5_openMoves_3 (x1 : Int32) (x2 : Int32) (x3 : Int32) (I : xI) (J : xJ) : Option ((Int32 × Int32 × (Option Value) × xI × xJ) ⊕ (Int32 × xI × xJ)) := xloop (fun s : Int32 × Int32 × Int32 × xI × xJ => b_X5_openMoves_3 s.1 s.2.1 s.2.2.1 s.2.2.2.1 s.2.2.2.2) 5000 (x1, x2, x3, I, J)
def f_X5_openMoves_2 (x1 : Int32) (x2 : Int32) (z3 : Option Value) (I : xI) (J : xJ) : Option ((Int32 × Int32 × (Option Value) × xI × xJ) ⊕ (Int32 × xI × xJ)) := f_X5_openMoves_3 x1 x2 0 I J
def b_X5_openMoves_1 (x1 : Int32) (x2 : Int32) (z3 : Option Value) (I : xI) (J : xJ) : Option ((Int32 × Int32 × (Option Value) × xI × xJ) ⊕ (Int32 × xI × xJ)) := if (I 1 0) ≤ x2 then ((f_X5_openMoves_10 x1 x2 z3 I J)).map .inr else f_X5_openMoves_2 x1 x2 z3 I J
def f_X5_openMoves_1 (x1 : Int32) (x2 : Int32) (z3 : Option Value) (I : xI) (J : xJ) : Option (Int32 × xI × xJ) := xloop (fun s : Int32 × Int32 × (Option Value) × xI × xJ => b_X5_openMoves_1 s.1 s.2.1 s.2.2.1 s.2.2.2.1 s.2.2.2.2) 5000 (x1, x2, z3, I, J)
def f_X5_openMoves_0 (I : xI) (J : xJ) : Option (Int32 × xI × xJ) := f_X5_openMoves_1 0 0 none I J
def f_X5_openMoves (I : xI) (J : xJ) : Option (Int32 × xI × xJ) := f_X5_openMoves_0 I J
theorem p_X5_openMoves_10 {L : Nat} {xs : Nat → Int32} {d : Nat} {Q : xO → Prop} (x1 : Int32) (x2 : Int32) (z3 : Option Value) (I : xI) (J : xJ) {t : Int32 × xI × xJ} (h : f_X5_openMoves_10 x1 x2 z3 I J = some t) (hC : (c_X5_openMoves Q) t) : Rn L xs (d + 2) 65 53 [some (.ref 1), some (.int x1), some (.int x2), z3] [] 94 (I, J, xrf) Q := by
  unfold f_X5_openMoves_10 at h
  cases h
  exact Rn.ret 2 (o := ((some (.int x1)), 94, (I, J, xrf))) (fun f => rfl) hC
theorem p_X5_openMoves_9 {L : Nat} {xs : Nat → Int32} {d : Nat} {Q : xO → Prop} (x1 : Int32) (x2 : Int32) (x3 : Int32) (I : xI) (J : xJ) {t : (Int32 × Int32 × (Option Value) × xI × xJ) ⊕ (Int32 × xI × xJ)} (h : f_X5_openMoves_9 x1 x2 x3 I J = some t) (hC : (c_X5_openMoves_1 L xs d Q) t) : Rn L xs (d + 2) 65 47 [some (.ref 1), some (.int x1), some (.int x2), some (.int x3)] [] 94 (I, J, xrf) Q := by
  unfold f_X5_openMoves_9 at h
  refine Rn.go 2 (j' := 65) (pc' := 4) (ls' := [some (.ref 1), some (.int x1), some (.int ((x2 + 1))), some (.int x3)]) (st' := []) (n' := 94) (M' := (I, J, xrf)) (fun f => rfl) ?_
  cases h; exact hC
theorem p_X5_openMoves_8 {L : Nat} {xs : Nat → Int32} {d : Nat} {Q : xO → Prop} (x1 : Int32) (x2 : Int32) (x3 : Int32) (s0 : Int32) (s1 : Int32) (I : xI) (J : xJ) {t : (Int32 × Int32 × Int32 × xI × xJ) ⊕ ((Int32 × Int32 × (Option Value) × xI × xJ) ⊕ (Int32 × xI × xJ))} (h : f_X5_openMoves_8 x1 x2 x3 s0 s1 I J = some t) (hC : (c_X5_openMoves_3 L xs d Q) t) : Rn L xs (d + 2) 65 39 [some (.ref 1), some (.int x1), some (.int x2), some (.int x3)] [.int s1, .int s0] 94 (I, J, xrf) Q := by
  unfold f_X5_openMoves_8 at h
  refine Rn.go 4 (j' := 65) (pc' := 14) (ls' := [some (.ref 1), some (.int ((s0 + s1))), some (.int x2), some (.int ((x3 + 1)))]) (st' := []) (n' := 94) (M' := (I, J, xrf)) (fun f => rfl) ?_
  cases h; exact hC
theorem p_X5_openMoves_7 {L : Nat} {xs : Nat → Int32} {d : Nat} {Q : xO → Prop} (x1 : Int32) (x2 : Int32) (x3 : Int32) (s0 : Int32) (I : xI) (J : xJ) {t : (Int32 × Int32 × Int32 × xI × xJ) ⊕ ((Int32 × Int32 × (Option Value) × xI × xJ) ⊕ (Int32 × xI × xJ))} (h : f_X5_openMoves_7 x1 x2 x3 s0 I J = some t) (hC : (c_X5_openMoves_3 L xs d Q) t) : Rn L xs (d + 2) 65 38 [some (.ref 1), some (.int x1), some (.int x2), some (.int x3)] [.int s0] 94 (I, J, xrf) Q := by
  unfold f_X5_openMoves_7 at h
  refine Rn.go 1 (j' := 65) (pc' := 39) (ls' := [some (.ref 1), some (.int x1), some (.int x2), some (.int x3)]) (st' := [.int 0, .int s0]) (n' := 94) (M' := (I, J, xrf)) (fun f => rfl) ?_
  exact p_X5_openMoves_8 x1 x2 x3 s0 0 I J h hC
theorem p_X5_openMoves_6 {L : Nat} {xs : Nat → Int32} {d : Nat} {Q : xO → Prop} (x1 : Int32) (x2 : Int32) (x3 : Int32) (s0 : Int32) (I : xI) (J : xJ) {t : (Int32 × Int32 × Int32 × xI × xJ) ⊕ ((Int32 × Int32 × (Option Value) × xI × xJ) ⊕ (Int32 × xI × xJ))} (h : f_X5_openMoves_6 x1 x2 x3 s0 I J = some t) (hC : (c_X5_openMoves_3 L xs d Q) t) : Rn L xs (d + 2) 65 34 [some (.ref 1), some (.int x1), some (.int x2), some (.int x3)] [.int s0] 94 (I, J, xrf) Q := by
  unfold f_X5_openMoves_6 at h
  refine Rn.go 2 (j' := 65) (pc' := 39) (ls' := [some (.ref 1), some (.int x1), some (.int x2), some (.int x3)]) (st' := [.int 1, .int s0]) (n' := 94) (M' := (I, J, xrf)) (fun f => rfl) ?_
  exact p_X5_openMoves_8 x1 x2 x3 s0 1 I J h hC
theorem p_X5_openMoves_5 {L : Nat} {xs : Nat → Int32} {d : Nat} {Q : xO → Prop} (x1 : Int32) (x2 : Int32) (x3 : Int32) (s0 : Int32) (s1 : Int32) (I : xI) (J : xJ) {t : (Int32 × Int32 × Int32 × xI × xJ) ⊕ ((Int32 × Int32 × (Option Value) × xI × xJ) ⊕ (Int32 × xI × xJ))} (h : f_X5_openMoves_5 x1 x2 x3 s0 s1 I J = some t) (hC : (c_X5_openMoves_3 L xs d Q) t) : Rn L xs (d + 2) 65 29 [some (.ref 1), some (.int x1), some (.int x2), some (.int x3)] [.int s1, .int s0] 94 (I, J, xrf) Q := by
  unfold f_X5_openMoves_5 at h
  refine Rn.fi 2 (c := s1 = (-2)) (p1 := 34) (l1 := [some (.ref 1), some (.int x1), some (.int x2), some (.int x3)]) (s1 := [.int s0]) (n1 := 94) (M1 := (I, J, xrf)) (p2 := 38) (l2 := [some (.ref 1), some (.int x1), some (.int x2), some (.int x3)]) (s2 := [.int s0]) (n2 := 94) (M2 := (I, J, xrf)) (fun f => rfl) (fun hc => ?_) (fun hc => ?_)
  · rw [if_pos hc] at h
    exact p_X5_openMoves_6 x1 x2 x3 s0 I J h hC
  · rw [if_neg hc] at h
    exact p_X5_openMoves_7 x1 x2 x3 s0 I J h hC
theorem p_X5_openMoves_4 {L : Nat} {xs : Nat → Int32} {d : Nat} {Q : xO → Prop} (x1 : Int32) (x2 : Int32) (x3 : Int32) (I : xI) (J : xJ) {t : (Int32 × Int32 × Int32 × xI × xJ) ⊕ ((Int32 × Int32 × (Option Value) × xI × xJ) ⊕ (Int32 × xI × xJ))} (h : f_X5_openMoves_4 x1 x2 x3 I J = some t) (hC : (c_X5_openMoves_3 L xs d Q) t) : Rn L xs (d + 2) 65 22 [some (.ref 1), some (.int x1), some (.int x2), some (.int x3)] [] 94 (I, J, xrf) Q := by
  unfold f_X5_openMoves_4 at h
  refine Rn.go 4 (j' := 65) (pc' := 26) (ls' := [some (.ref 1), some (.int x1), some (.int x2), some (.int x3)]) (st' := [.int x3, .int x2, .ref 1, .int x1]) (n' := 94) (M' := (I, J, xrf)) (fun f => rfl) ?_
  obtain ⟨o, ho, h⟩ := Option.bind_eq_some_iff.mp h
  refine Rn.call (d1 := d + 1) (j1 := 57) (ls1 := [some (.ref 1), some (.int x2), some (.int x3)]) (rest := [.int x1]) (fun f => rfl) ?_
  refine p_X5_targetOf (d := d + 0) x2 x3 I J (t := o) ho ?_
  exact p_X5_openMoves_5 x1 x2 x3 x1 o.1 o.2.1 o.2.2 h hC
theorem q_X5_openMoves_3 {L : Nat} {xs : Nat → Int32} {d : Nat} {Q : xO → Prop} (x1 : Int32) (x2 : Int32) (x3 : Int32) (I : xI) (J : xJ) {t : (Int32 × Int32 × Int32 × xI × xJ) ⊕ ((Int32 × Int32 × (Option Value) × xI × xJ) ⊕ (Int32 × xI × xJ))} (h : b_X5_openMoves_3 x1 x2 x3 I J = some t) (hC : (c_X5_openMoves_3 L xs d Q) t) : Rn L xs (d + 2) 65 14 [some (.ref 1), some (.int x1), some (.int x2), some (.int x3)] [] 94 (I, J, xrf) Q := by
  unfold b_X5_openMoves_3 at h
  refine Rn.fi 4 (c := (I 1 1) ≤ x3) (p1 := 47) (l1 := [some (.ref 1), some (.int x1), some (.int x2), some (.int x3)]) (s1 := []) (n1 := 94) (M1 := (I, J, xrf)) (p2 := 22) (l2 := [some (.ref 1), some (.int x1), some (.int x2), some (.int x3)]) (s2 := []) (n2 := 94) (M2 := (I, J, xrf)) (fun f => rfl) (fun hc => ?_) (fun hc => ?_)
  · rw [if_pos hc] at h
    obtain ⟨t0, h0, rfl⟩ := Option.map_eq_some_iff.mp h
    exact p_X5_openMoves_9 x1 x2 x3 I J h0 hC
  · rw [if_neg hc] at h
    exact p_X5_openMoves_4 x1 x2 x3 I J h hC
theorem p_X5_openMoves_3 {L : Nat} {xs : Nat → Int32} {d : Nat} {Q : xO → Prop} (x1 : Int32) (x2 : Int32) (x3 : Int32) (I : xI) (J : xJ) {t : (Int32 × Int32 × (Option Value) × xI × xJ) ⊕ (Int32 × xI × xJ)} (h : f_X5_openMoves_3 x1 x2 x3 I J = some t) (hC : (c_X5_openMoves_1 L xs d Q) t) : Rn L xs (d + 2) 65 14 [some (.ref 1), some (.int x1), some (.int x2), some (.int x3)] [] 94 (I, J, xrf) Q := by
  unfold f_X5_openMoves_3 at h
  exact xloop_some (P := fun s : Int32 × Int32 × Int32 × xI × xJ => Rn L xs (d + 2) 65 14 [some (.ref 1), some (.int s.1), some (.int s.2.1), some (.int s.2.2.1)] [] 94 (s.2.2.2.1, s.2.2.2.2, xrf) Q) t (fun s ⟨s', hb, hp⟩ => q_X5_openMoves_3 s.1 s.2.1 s.2.2.1 s.2.2.2.1 s.2.2.2.2 hb hp) (fun s hb => q_X5_openMoves_3 s.1 s.2.1 s.2.2.1 s.2.2.2.1 s.2.2.2.2 hb hC) _ _ h
theorem p_X5_openMoves_2 {L : Nat} {xs : Nat → Int32} {d : Nat} {Q : xO → Prop} (x1 : Int32) (x2 : Int32) (z3 : Option Value) (I : xI) (J : xJ) {t : (Int32 × Int32 × (Option Value) × xI × xJ) ⊕ (Int32 × xI × xJ)} (h : f_X5_openMoves_2 x1 x2 z3 I J = some t) (hC : (c_X5_openMoves_1 L xs d Q) t) : Rn L xs (d + 2) 65 12 [some (.ref 1), some (.int x1), some (.int x2), z3] [] 94 (I, J, xrf) Q := by
  unfold f_X5_openMoves_2 at h
  refine Rn.go 2 (j' := 65) (pc' := 14) (ls' := [some (.ref 1), some (.int x1), some (.int x2), some (.int 0)]) (st' := []) (n' := 94) (M' := (I, J, xrf)) (fun f => rfl) ?_
  exact p_X5_openMoves_3 x1 x2 0 I J h hC
theorem q_X5_openMoves_1 {L : Nat} {xs : Nat → Int32} {d : Nat} {Q : xO → Prop} (x1 : Int32) (x2 : Int32) (z3 : Option Value) (I : xI) (J : xJ) {t : (Int32 × Int32 × (Option Value) × xI × xJ) ⊕ (Int32 × xI × xJ)} (h : b_X5_openMoves_1 x1 x2 z3 I J = some t) (hC : (c_X5_openMoves_1 L xs d Q) t) : Rn L xs (d + 2) 65 4 [some (.ref 1), some (.int x1), some (.int x2), z3] [] 94 (I, J, xrf) Q := by
  unfold b_X5_openMoves_1 at h
  refine Rn.fi 4 (c := (I 1 0) ≤ x2) (p1 := 53) (l1 := [some (.ref 1), some (.int x1), some (.int x2), z3]) (s1 := []) (n1 := 94) (M1 := (I, J, xrf)) (p2 := 12) (l2 := [some (.ref 1), some (.int x1), some (.int x2), z3]) (s2 := []) (n2 := 94) (M2 := (I, J, xrf)) (fun f => rfl) (fun hc => ?_) (fun hc => ?_)
  · rw [if_pos hc] at h
    obtain ⟨t0, h0, rfl⟩ := Option.map_eq_some_iff.mp h
    exact p_X5_openMoves_10 x1 x2 z3 I J h0 hC
  · rw [if_neg hc] at h
    exact p_X5_openMoves_2 x1 x2 z3 I J h hC
theorem p_X5_openMoves_1 {L : Nat} {xs : Nat → Int32} {d : Nat} {Q : xO → Prop} (x1 : Int32) (x2 : Int32) (z3 : Option Value) (I : xI) (J : xJ) {t : Int32 × xI × xJ} (h : f_X5_openMoves_1 x1 x2 z3 I J = some t) (hC : (c_X5_openMoves Q) t) : Rn L xs (d + 2) 65 4 [some (.ref 1), some (.int x1), some (.int x2), z3] [] 94 (I, J, xrf) Q := by
  unfold f_X5_openMoves_1 at h
  exact xloop_some (P := fun s : Int32 × Int32 × (Option Value) × xI × xJ => Rn L xs (d + 2) 65 4 [some (.ref 1), some (.int s.1), some (.int s.2.1), s.2.2.1] [] 94 (s.2.2.2.1, s.2.2.2.2, xrf) Q) t (fun s ⟨s', hb, hp⟩ => q_X5_openMoves_1 s.1 s.2.1 s.2.2.1 s.2.2.2.1 s.2.2.2.2 hb hp) (fun s hb => q_X5_openMoves_1 s.1 s.2.1 s.2.2.1 s.2.2.2.1 s.2.2.2.2 hb hC) _ _ h
theorem p_X5_openMoves_0 {L : Nat} {xs : Nat → Int32} {d : Nat} {Q : xO → Prop} (I : xI) (J : xJ) {t : Int32 × xI × xJ} (h : f_X5_openMoves_0 I J = some t) (hC : (c_X5_openMoves Q) t) : Rn L xs (d + 2) 65 0 [some (.ref 1), none, none, none] [] 94 (I, J, xrf) Q := by
  unfold f_X5_openMoves_0 at h
  refine Rn.go 4 (j' := 65) (pc' := 4) (ls' := [some (.ref 1), some (.int 0), some (.int 0), none]) (st' := []) (n' := 94) (M' := (I, J, xrf)) (fun f => rfl) ?_
  exact p_X5_openMoves_1 0 0 none I J h hC
theorem p_X5_openMoves {L : Nat} {xs : Nat → Int32} {d : Nat} {Q : xO → Prop} (I : xI) (J : xJ) {t : Int32 × xI × xJ} (h : f_X5_openMoves I J = some t) (hC : Q ((some (.int t.1)), 94, (t.2.1, t.2.2, xrf))) : Rn L xs (d + 2) 65 0 [some (.ref 1), none, none, none] [] 94 (I, J, xrf) Q := p_X5_openMoves_0 I J h hC
/-! X11_count -/
def c_X11_count (Q : xO → Prop) (t : Int32 × xI × xJ) : Prop := Q ((some (.int t.1)), 94, (t.2.1, t.2.2, xrf))
def f_X11_count_2 (x1 : Int32) (I : xI) (J : xJ) : Option (Int32 × xI × xJ) := some ((I 1 0), I, J)
def f_X11_count_3 (x1 : Int32) (I : xI) (J : xJ) : Option (Int32 × xI × xJ) := some ((I 1 1), I, J)
def f_X11_count_5 (x1 : Int32) (s0 : Int32) (I : xI) (J : xJ) : Option (Int32 × xI × xJ) := some (s0, I, J)
def f_X11_count_4 (x1 : Int32) (I : xI) (J : xJ) : Option (Int32 × xI × xJ) := (f_X5_openMoves I J).bind fun o => f_X11_count_5 x1 o.1 o.2.1 o.2.2
def f_X11_count_7 (x1 : Int32) (s0 : Int32) (I : xI) (J : xJ) : Option (Int32 × xI × xJ) := some (s0, I, J)
def f_X11_count_6 (x1 : Int32) (I : xI) (J : xJ) : Option (Int32 × xI × xJ) := (f_X5_toldAnswers I J).bind fun o => f_X11_count_7 x1 o.1 o.2.1 o.2.2
def f_X11_count_10 (x1 : Int32) (s0 : Int32) (I : xI) (J : xJ) : Option (Int32 × xI × xJ) := some (s0, I, J)
def f_X11_count_9 (x1 : Int32) (I : xI) (J : xJ) : Option (Int32 × xI × xJ) := (f_X6_apartCount I J).bind fun o => f_X11_count_10 x1 o.1 o.2.1 o.2.2
def f_X11_count_8 (x1 : Int32) (I : xI) (J : xJ) : Option (Int32 × xI × xJ) := (f_X11_pairsNow I J).bind fun o => f_X11_count_9 x1 o.2.1 o.2.2
def f_X11_count_13 (x1 : Int32) (s0 : Int32) (I : xI) (J : xJ) : Option (Int32 × xI × xJ) := some (s0, I, J)
def f_X11_count_12 (x1 : Int32) (I : xI) (J : xJ) : Option (Int32 × xI × xJ) := (f_X6_greatestRound I J).bind fun o => f_X11_count_13 x1 o.1 o.2.1 o.2.2
def f_X11_count_11 (x1 : Int32) (I : xI) (J : xJ) : Option (Int32 × xI × xJ) := (f_X11_pairsNow I J).bind fun o => f_X11_count_12 x1 o.2.1 o.2.2
def f_X11_count_15 (x1 : Int32) (s0 : Int32) (I : xI) (J : xJ) : Option (Int32 × xI × xJ) := some (s0, I, J)
def f_X11_count_14 (x1 : Int32) (I : xI) (J : xJ) : Option (Int32 × xI × xJ) := (f_X5_bits I J).bind fun o => f_X11_count_15 x1 o.1 o.2.1 o.2.2
def f_X11_count_17 (x1 : Int32) (s0 : Int32) (I : xI) (J : xJ) : Option (Int32 × xI × xJ) := some (s0, I, J)
def f_X11_count_16 (x1 : Int32) (I : xI) (J : xJ) : Option (Int32 × xI × xJ) := (f_X5_codeNumber I J).bind fun o => f_X11_count_17 x1 o.1 o.2.1 o.2.2
def f_X11_count_18 (x1 : Int32) (I : xI) (J : xJ) : Option (Int32 × xI × xJ) := some ((I 24 1), I, J)
def f_X11_count_19 (x1 : Int32) (I : xI) (J : xJ) : Option (Int32 × xI × xJ) := some ((I 5 6), I, J)
def f_X11_count_21 (x1 : Int32) (s0 : Int32) (I : xI) (J : xJ) : Option (Int32 × xI × xJ) := some (s0, I, J)
def f_X11_count_20 (x1 : Int32) (I : xI) (J : xJ) : Option (Int32 × xI × xJ) := (f_X4_slotCount I J).bind fun o => f_X11_count_21 x1 o.1 o.2.1 o.2.2
def f_X11_count_23 (x1 : Int32) (s0 : Int32) (I : xI) (J : xJ) : Option (Int32 × xI × xJ) := some (s0, I, J)
def f_X11_count_22 (x1 : Int32) (I : xI) (J : xJ) : Option (Int32 × xI × xJ) := (f_X5_unreached I J).bind fun o => f_X11_count_23 x1 o.1 o.2.1 o.2.2
def f_X11_count_28 (x1 : Int32) (s0 : Int32) (I : xI) (J : xJ) : Option (Int32 × xI × xJ) := some (s0, I, J)
def f_X11_count_27 (x1 : Int32) (I : xI) (J : xJ) : Option (Int32 × xI × xJ) := f_X11_count_28 x1 0 I J
def f_X11_count_26 (x1 : Int32) (I : xI) (J : xJ) : Option (Int32 × xI × xJ) := f_X11_count_28 x1 1 I J
def f_X11_count_25 (x1 : Int32) (s0 : Int32) (I : xI) (J : xJ) : Option (Int32 × xI × xJ) := if s0 = 0 then f_X11_count_27 x1 I J else f_X11_count_26 x1 I J
def f_X11_count_24 (x1 : Int32) (I : xI) (J : xJ) : Option (Int32 × xI × xJ) := (f_X5_isProper I J).bind fun o => f_X11_count_25 x1 o.1 o.2.1 o.2.2
def f_X11_count_31 (x1 : Int32) (s0 : Int32) (I : xI) (J : xJ) : Option (Int32 × xI × xJ) := some (s0, I, J)
def f_X11_count_30 (x1 : Int32) (I : xI) (J : xJ) : Option (Int32 × xI × xJ) := (f_X1_metCount I J).bind fun o => f_X11_count_31 x1 o.1 o.2.1 o.2.2
def f_X11_count_29 (x1 : Int32) (I : xI) (J : xJ) : Option (Int32 × xI × xJ) := (f_X11_fewestNow I J).bind fun o => f_X11_count_30 x1 o.2.1 o.2.2
def f_X11_count_34 (x1 : Int32) (s0 : Int32) (I : xI) (J : xJ) : Option (Int32 × xI × xJ) := some (s0, I, J)
def f_X11_count_33 (x1 : Int32) (I : xI) (J : xJ) : Option (Int32 × xI × xJ) := (f_X7_leastBlocks I J).bind fun o => f_X11_count_34 x1 o.1 o.2.1 o.2.2
def f_X11_count_32 (x1 : Int32) (I : xI) (J : xJ) : Option (Int32 × xI × xJ) := (f_X11_partitionsNow I J).bind fun o => f_X11_count_33 x1 o.2.1 o.2.2
def f_X11_count_35 (x1 : Int32) (I : xI) (J : xJ) : Option (Int32 × xI × xJ) := some ((-1), I, J)
def f_X11_count_1 (x1 : Int32) (s0 : Int32) (I : xI) (J : xJ) : Option (Int32 × xI × xJ) := if s0 = 0 then f_X11_count_2 x1 I J else if s0 = 1 then f_X11_count_3 x1 I J else if s0 = 2 then f_X11_count_4 x1 I J else if s0 = 3 then f_X11_count_6 x1 I J else if s0 = 4 then f_X11_count_8 x1 I J else if s0 = 5 then f_X11_count_11 x1 I J else if s0 = 6 then f_X11_count_14 x1 I J else if s0 = 7 then f_X11_count_16 x1 I J else if s0 = 8 then f_X11_count_18 x1 I J else if s0 = 9 then f_X11_count_19 x1 I J else if s0 = 10 then f_X11_count_20 x1 I J else if s0 = 11 then f_X11_count_22 x1 I J else if s0 = 12 then f_X11_count_24 x1 I J else if s0 = 13 then f_X11_count_29 x1 I J else if s0 = 14 then f_X11_count_32 x1 I J else f_X11_count_35 x1 I J
def f_X11_count_0 (x1 : Int32) (I : xI) (J : xJ) : Option (Int32 × xI × xJ) := f_X11_count_1 x1 x1 I J
def f_X11_count (x1 : Int32) (I : xI) (J : xJ) : Option (Int32 × xI × xJ) := f_X11_count_0 x1 I J
theorem p_X11_count_2 {L : Nat} {xs : Nat → Int32} {d : Nat} {Q : xO → Prop} (x1 : Int32) (I : xI) (J : xJ) {t : Int32 × xI × xJ} (h : f_X11_count_2 x1 I J = some t) (hC : (c_X11_count Q) t) : Rn L xs (d + 18) 175 76 [some (.ref 0), some (.int x1)] [] 94 (I, J, xrf) Q := by
  unfold f_X11_count_2 at h
  cases h
  exact Rn.ret 4 (o := ((some (.int ((I 1 0)))), 94, (I, J, xrf))) (fun f => rfl) hC
theorem p_X11_count_3 {L : Nat} {xs : Nat → Int32} {d : Nat} {Q : xO → Prop} (x1 : Int32) (I : xI) (J : xJ) {t : Int32 × xI × xJ} (h : f_X11_count_3 x1 I J = some t) (hC : (c_X11_count Q) t) : Rn L xs (d + 18) 175 84 [some (.ref 0), some (.int x1)] [] 94 (I, J, xrf) Q := by
  unfold f_X11_count_3 at h
  cases h
  exact Rn.ret 4 (o := ((some (.int ((I 1 1)))), 94, (I, J, xrf))) (fun f => rfl) hC
theorem p_X11_count_5 {L : Nat} {xs : Nat → Int32} {d : Nat} {Q : xO → Prop} (x1 : Int32) (s0 : Int32) (I : xI) (J : xJ) {t : Int32 × xI × xJ} (h : f_X11_count_5 x1 s0 I J = some t) (hC : (c_X11_count Q) t) : Rn L xs (d + 18) 175 99 [some (.ref 0), some (.int x1)] [.int s0] 94 (I, J, xrf) Q := by
  unfold f_X11_count_5 at h
  cases h
  exact Rn.ret 1 (o := ((some (.int s0)), 94, (I, J, xrf))) (fun f => rfl) hC
theorem p_X11_count_4 {L : Nat} {xs : Nat → Int32} {d : Nat} {Q : xO → Prop} (x1 : Int32) (I : xI) (J : xJ) {t : Int32 × xI × xJ} (h : f_X11_count_4 x1 I J = some t) (hC : (c_X11_count Q) t) : Rn L xs (d + 18) 175 92 [some (.ref 0), some (.int x1)] [] 94 (I, J, xrf) Q := by
  unfold f_X11_count_4 at h
  refine Rn.go 2 (j' := 175) (pc' := 96) (ls' := [some (.ref 0), some (.int x1)]) (st' := [.ref 1]) (n' := 94) (M' := (I, J, xrf)) (fun f => rfl) ?_
  obtain ⟨o, ho, h⟩ := Option.bind_eq_some_iff.mp h
  refine Rn.call (d1 := d + 17) (j1 := 65) (ls1 := [some (.ref 1), none, none, none]) (rest := []) (fun f => rfl) ?_
  refine p_X5_openMoves (d := d + 15) I J (t := o) ho ?_
  exact p_X11_count_5 x1 o.1 o.2.1 o.2.2 h hC
theorem p_X11_count_7 {L : Nat} {xs : Nat → Int32} {d : Nat} {Q : xO → Prop} (x1 : Int32) (s0 : Int32) (I : xI) (J : xJ) {t : Int32 × xI × xJ} (h : f_X11_count_7 x1 s0 I J = some t) (hC : (c_X11_count Q) t) : Rn L xs (d + 18) 175 107 [some (.ref 0), some (.int x1)] [.int s0] 94 (I, J, xrf) Q := by
  unfold f_X11_count_7 at h
  cases h
  exact Rn.ret 1 (o := ((some (.int s0)), 94, (I, J, xrf))) (fun f => rfl) hC
theorem p_X11_count_6 {L : Nat} {xs : Nat → Int32} {d : Nat} {Q : xO → Prop} (x1 : Int32) (I : xI) (J : xJ) {t : Int32 × xI × xJ} (h : f_X11_count_6 x1 I J = some t) (hC : (c_X11_count Q) t) : Rn L xs (d + 18) 175 100 [some (.ref 0), some (.int x1)] [] 94 (I, J, xrf) Q := by
  unfold f_X11_count_6 at h
  refine Rn.go 2 (j' := 175) (pc' := 104) (ls' := [some (.ref 0), some (.int x1)]) (st' := [.ref 1]) (n' := 94) (M' := (I, J, xrf)) (fun f => rfl) ?_
  obtain ⟨o, ho, h⟩ := Option.bind_eq_some_iff.mp h
  refine Rn.call (d1 := d + 17) (j1 := 66) (ls1 := [some (.ref 1), none, none, none]) (rest := []) (fun f => rfl) ?_
  refine p_X5_toldAnswers (d := d + 15) I J (t := o) ho ?_
  exact p_X11_count_7 x1 o.1 o.2.1 o.2.2 h hC
theorem p_X11_count_10 {L : Nat} {xs : Nat → Int32} {d : Nat} {Q : xO → Prop} (x1 : Int32) (s0 : Int32) (I : xI) (J : xJ) {t : Int32 × xI × xJ} (h : f_X11_count_10 x1 s0 I J = some t) (hC : (c_X11_count Q) t) : Rn L xs (d + 18) 175 115 [some (.ref 0), some (.int x1)] [.int s0] 94 (I, J, xrf) Q := by
  unfold f_X11_count_10 at h
  cases h
  exact Rn.ret 1 (o := ((some (.int s0)), 94, (I, J, xrf))) (fun f => rfl) hC
theorem p_X11_count_9 {L : Nat} {xs : Nat → Int32} {d : Nat} {Q : xO → Prop} (x1 : Int32) (I : xI) (J : xJ) {t : Int32 × xI × xJ} (h : f_X11_count_9 x1 I J = some t) (hC : (c_X11_count Q) t) : Rn L xs (d + 18) 175 112 [some (.ref 0), some (.int x1)] [.ref 32] 94 (I, J, xrf) Q := by
  unfold f_X11_count_9 at h
  obtain ⟨o, ho, h⟩ := Option.bind_eq_some_iff.mp h
  refine Rn.call (d1 := d + 17) (j1 := 74) (ls1 := [some (.ref 32)]) (rest := []) (fun f => rfl) ?_
  refine p_X6_apartCount (d := d + 15) I J (t := o) ho ?_
  exact p_X11_count_10 x1 o.1 o.2.1 o.2.2 h hC
theorem p_X11_count_8 {L : Nat} {xs : Nat → Int32} {d : Nat} {Q : xO → Prop} (x1 : Int32) (I : xI) (J : xJ) {t : Int32 × xI × xJ} (h : f_X11_count_8 x1 I J = some t) (hC : (c_X11_count Q) t) : Rn L xs (d + 18) 175 108 [some (.ref 0), some (.int x1)] [] 94 (I, J, xrf) Q := by
  unfold f_X11_count_8 at h
  refine Rn.go 1 (j' := 175) (pc' := 109) (ls' := [some (.ref 0), some (.int x1)]) (st' := [.ref 0]) (n' := 94) (M' := (I, J, xrf)) (fun f => rfl) ?_
  obtain ⟨o, ho, h⟩ := Option.bind_eq_some_iff.mp h
  refine Rn.call (d1 := d + 17) (j1 := 176) (ls1 := [some (.ref 0)]) (rest := []) (fun f => rfl) ?_
  refine p_X11_pairsNow (d := d + 12) I J (t := o) ho ?_
  exact p_X11_count_9 x1 o.2.1 o.2.2 h hC
theorem p_X11_count_13 {L : Nat} {xs : Nat → Int32} {d : Nat} {Q : xO → Prop} (x1 : Int32) (s0 : Int32) (I : xI) (J : xJ) {t : Int32 × xI × xJ} (h : f_X11_count_13 x1 s0 I J = some t) (hC : (c_X11_count Q) t) : Rn L xs (d + 18) 175 123 [some (.ref 0), some (.int x1)] [.int s0] 94 (I, J, xrf) Q := by
  unfold f_X11_count_13 at h
  cases h
  exact Rn.ret 1 (o := ((some (.int s0)), 94, (I, J, xrf))) (fun f => rfl) hC
theorem p_X11_count_12 {L : Nat} {xs : Nat → Int32} {d : Nat} {Q : xO → Prop} (x1 : Int32) (I : xI) (J : xJ) {t : Int32 × xI × xJ} (h : f_X11_count_12 x1 I J = some t) (hC : (c_X11_count Q) t) : Rn L xs (d + 18) 175 120 [some (.ref 0), some (.int x1)] [.ref 32] 94 (I, J, xrf) Q := by
  unfold f_X11_count_12 at h
  obtain ⟨o, ho, h⟩ := Option.bind_eq_some_iff.mp h
  refine Rn.call (d1 := d + 17) (j1 := 75) (ls1 := [some (.ref 32), none, none]) (rest := []) (fun f => rfl) ?_
  refine p_X6_greatestRound (d := d + 16) I J (t := o) ho ?_
  exact p_X11_count_13 x1 o.1 o.2.1 o.2.2 h hC
theorem p_X11_count_11 {L : Nat} {xs : Nat → Int32} {d : Nat} {Q : xO → Prop} (x1 : Int32) (I : xI) (J : xJ) {t : Int32 × xI × xJ} (h : f_X11_count_11 x1 I J = some t) (hC : (c_X11_count Q) t) : Rn L xs (d + 18) 175 116 [some (.ref 0), some (.int x1)] [] 94 (I, J, xrf) Q := by
  unfold f_X11_count_11 at h
  refine Rn.go 1 (j' := 175) (pc' := 117) (ls' := [some (.ref 0), some (.int x1)]) (st' := [.ref 0]) (n' := 94) (M' := (I, J, xrf)) (fun f => rfl) ?_
  obtain ⟨o, ho, h⟩ := Option.bind_eq_some_iff.mp h
  refine Rn.call (d1 := d + 17) (j1 := 176) (ls1 := [some (.ref 0)]) (rest := []) (fun f => rfl) ?_
  refine p_X11_pairsNow (d := d + 12) I J (t := o) ho ?_
  exact p_X11_count_12 x1 o.2.1 o.2.2 h hC
theorem p_X11_count_15 {L : Nat} {xs : Nat → Int32} {d : Nat} {Q : xO → Prop} (x1 : Int32) (s0 : Int32) (I : xI) (J : xJ) {t : Int32 × xI × xJ} (h : f_X11_count_15 x1 s0 I J = some t) (hC : (c_X11_count Q) t) : Rn L xs (d + 18) 175 131 [some (.ref 0), some (.int x1)] [.int s0] 94 (I, J, xrf) Q := by
  unfold f_X11_count_15 at h
  cases h
  exact Rn.ret 1 (o := ((some (.int s0)), 94, (I, J, xrf))) (fun f => rfl) hC
theorem p_X11_count_14 {L : Nat} {xs : Nat → Int32} {d : Nat} {Q : xO → Prop} (x1 : Int32) (I : xI) (J : xJ) {t : Int32 × xI × xJ} (h : f_X11_count_14 x1 I J = some t) (hC : (c_X11_count Q) t) : Rn L xs (d + 18) 175 124 [some (.ref 0), some (.int x1)] [] 94 (I, J, xrf) Q := by
  unfold f_X11_count_14 at h
  refine Rn.go 2 (j' := 175) (pc' := 128) (ls' := [some (.ref 0), some (.int x1)]) (st' := [.ref 1]) (n' := 94) (M' := (I, J, xrf)) (fun f => rfl) ?_
  obtain ⟨o, ho, h⟩ := Option.bind_eq_some_iff.mp h
  refine Rn.call (d1 := d + 17) (j1 := 62) (ls1 := [some (.ref 1)]) (rest := []) (fun f => rfl) ?_
  refine p_X5_bits (d := d + 16) I J (t := o) ho ?_
  exact p_X11_count_15 x1 o.1 o.2.1 o.2.2 h hC
theorem p_X11_count_17 {L : Nat} {xs : Nat → Int32} {d : Nat} {Q : xO → Prop} (x1 : Int32) (s0 : Int32) (I : xI) (J : xJ) {t : Int32 × xI × xJ} (h : f_X11_count_17 x1 s0 I J = some t) (hC : (c_X11_count Q) t) : Rn L xs (d + 18) 175 139 [some (.ref 0), some (.int x1)] [.int s0] 94 (I, J, xrf) Q := by
  unfold f_X11_count_17 at h
  cases h
  exact Rn.ret 1 (o := ((some (.int s0)), 94, (I, J, xrf))) (fun f => rfl) hC
theorem p_X11_count_16 {L : Nat} {xs : Nat → Int32} {d : Nat} {Q : xO → Prop} (x1 : Int32) (I : xI) (J : xJ) {t : Int32 × xI × xJ} (h : f_X11_count_16 x1 I J = some t) (hC : (c_X11_count Q) t) : Rn L xs (d + 18) 175 132 [some (.ref 0), some (.int x1)] [] 94 (I, J, xrf) Q := by
  unfold f_X11_count_16 at h
  refine Rn.go 2 (j' := 175) (pc' := 136) (ls' := [some (.ref 0), some (.int x1)]) (st' := [.ref 1]) (n' := 94) (M' := (I, J, xrf)) (fun f => rfl) ?_
  obtain ⟨o, ho, h⟩ := Option.bind_eq_some_iff.mp h
  refine Rn.call (d1 := d + 17) (j1 := 64) (ls1 := [some (.ref 1), none, none]) (rest := []) (fun f => rfl) ?_
  refine p_X5_codeNumber (d := d + 16) I J (t := o) ho ?_
  exact p_X11_count_17 x1 o.1 o.2.1 o.2.2 h hC
theorem p_X11_count_18 {L : Nat} {xs : Nat → Int32} {d : Nat} {Q : xO → Prop} (x1 : Int32) (I : xI) (J : xJ) {t : Int32 × xI × xJ} (h : f_X11_count_18 x1 I J = some t) (hC : (c_X11_count Q) t) : Rn L xs (d + 18) 175 140 [some (.ref 0), some (.int x1)] [] 94 (I, J, xrf) Q := by
  unfold f_X11_count_18 at h
  cases h
  exact Rn.ret 4 (o := ((some (.int ((I 24 1)))), 94, (I, J, xrf))) (fun f => rfl) hC
theorem p_X11_count_19 {L : Nat} {xs : Nat → Int32} {d : Nat} {Q : xO → Prop} (x1 : Int32) (I : xI) (J : xJ) {t : Int32 × xI × xJ} (h : f_X11_count_19 x1 I J = some t) (hC : (c_X11_count Q) t) : Rn L xs (d + 18) 175 148 [some (.ref 0), some (.int x1)] [] 94 (I, J, xrf) Q := by
  unfold f_X11_count_19 at h
  cases h
  exact Rn.ret 4 (o := ((some (.int ((I 5 6)))), 94, (I, J, xrf))) (fun f => rfl) hC
theorem p_X11_count_21 {L : Nat} {xs : Nat → Int32} {d : Nat} {Q : xO → Prop} (x1 : Int32) (s0 : Int32) (I : xI) (J : xJ) {t : Int32 × xI × xJ} (h : f_X11_count_21 x1 s0 I J = some t) (hC : (c_X11_count Q) t) : Rn L xs (d + 18) 175 163 [some (.ref 0), some (.int x1)] [.int s0] 94 (I, J, xrf) Q := by
  unfold f_X11_count_21 at h
  cases h
  exact Rn.ret 1 (o := ((some (.int s0)), 94, (I, J, xrf))) (fun f => rfl) hC
theorem p_X11_count_20 {L : Nat} {xs : Nat → Int32} {d : Nat} {Q : xO → Prop} (x1 : Int32) (I : xI) (J : xJ) {t : Int32 × xI × xJ} (h : f_X11_count_20 x1 I J = some t) (hC : (c_X11_count Q) t) : Rn L xs (d + 18) 175 156 [some (.ref 0), some (.int x1)] [] 94 (I, J, xrf) Q := by
  unfold f_X11_count_20 at h
  refine Rn.go 2 (j' := 175) (pc' := 160) (ls' := [some (.ref 0), some (.int x1)]) (st' := [.ref 5]) (n' := 94) (M' := (I, J, xrf)) (fun f => rfl) ?_
  obtain ⟨o, ho, h⟩ := Option.bind_eq_some_iff.mp h
  refine Rn.call (d1 := d + 17) (j1 := 47) (ls1 := [some (.ref 5), none, none]) (rest := []) (fun f => rfl) ?_
  refine p_X4_slotCount (d := d + 16) I J (t := o) ho ?_
  exact p_X11_count_21 x1 o.1 o.2.1 o.2.2 h hC
theorem p_X11_count_23 {L : Nat} {xs : Nat → Int32} {d : Nat} {Q : xO → Prop} (x1 : Int32) (s0 : Int32) (I : xI) (J : xJ) {t : Int32 × xI × xJ} (h : f_X11_count_23 x1 s0 I J = some t) (hC : (c_X11_count Q) t) : Rn L xs (d + 18) 175 171 [some (.ref 0), some (.int x1)] [.int s0] 94 (I, J, xrf) Q := by
  unfold f_X11_count_23 at h
  cases h
  exact Rn.ret 1 (o := ((some (.int s0)), 94, (I, J, xrf))) (fun f => rfl) hC
theorem p_X11_count_22 {L : Nat} {xs : Nat → Int32} {d : Nat} {Q : xO → Prop} (x1 : Int32) (I : xI) (J : xJ) {t : Int32 × xI × xJ} (h : f_X11_count_22 x1 I J = some t) (hC : (c_X11_count Q) t) : Rn L xs (d + 18) 175 164 [some (.ref 0), some (.int x1)] [] 94 (I, J, xrf) Q := by
  unfold f_X11_count_22 at h
  refine Rn.go 2 (j' := 175) (pc' := 168) (ls' := [some (.ref 0), some (.int x1)]) (st' := [.ref 1]) (n' := 94) (M' := (I, J, xrf)) (fun f => rfl) ?_
  obtain ⟨o, ho, h⟩ := Option.bind_eq_some_iff.mp h
  refine Rn.call (d1 := d + 17) (j1 := 67) (ls1 := [some (.ref 1), none, none, none]) (rest := []) (fun f => rfl) ?_
  refine p_X5_unreached (d := d + 14) I J (t := o) ho ?_
  exact p_X11_count_23 x1 o.1 o.2.1 o.2.2 h hC
theorem p_X11_count_28 {L : Nat} {xs : Nat → Int32} {d : Nat} {Q : xO → Prop} (x1 : Int32) (s0 : Int32) (I : xI) (J : xJ) {t : Int32 × xI × xJ} (h : f_X11_count_28 x1 s0 I J = some t) (hC : (c_X11_count Q) t) : Rn L xs (d + 18) 175 187 [some (.ref 0), some (.int x1)] [.int s0] 94 (I, J, xrf) Q := by
  unfold f_X11_count_28 at h
  cases h
  exact Rn.ret 1 (o := ((some (.int s0)), 94, (I, J, xrf))) (fun f => rfl) hC
theorem p_X11_count_27 {L : Nat} {xs : Nat → Int32} {d : Nat} {Q : xO → Prop} (x1 : Int32) (I : xI) (J : xJ) {t : Int32 × xI × xJ} (h : f_X11_count_27 x1 I J = some t) (hC : (c_X11_count Q) t) : Rn L xs (d + 18) 175 186 [some (.ref 0), some (.int x1)] [] 94 (I, J, xrf) Q := by
  unfold f_X11_count_27 at h
  refine Rn.go 1 (j' := 175) (pc' := 187) (ls' := [some (.ref 0), some (.int x1)]) (st' := [.int 0]) (n' := 94) (M' := (I, J, xrf)) (fun f => rfl) ?_
  exact p_X11_count_28 x1 0 I J h hC
theorem p_X11_count_26 {L : Nat} {xs : Nat → Int32} {d : Nat} {Q : xO → Prop} (x1 : Int32) (I : xI) (J : xJ) {t : Int32 × xI × xJ} (h : f_X11_count_26 x1 I J = some t) (hC : (c_X11_count Q) t) : Rn L xs (d + 18) 175 182 [some (.ref 0), some (.int x1)] [] 94 (I, J, xrf) Q := by
  unfold f_X11_count_26 at h
  refine Rn.go 2 (j' := 175) (pc' := 187) (ls' := [some (.ref 0), some (.int x1)]) (st' := [.int 1]) (n' := 94) (M' := (I, J, xrf)) (fun f => rfl) ?_
  exact p_X11_count_28 x1 1 I J h hC
theorem p_X11_count_25 {L : Nat} {xs : Nat → Int32} {d : Nat} {Q : xO → Prop} (x1 : Int32) (s0 : Int32) (I : xI) (J : xJ) {t : Int32 × xI × xJ} (h : f_X11_count_25 x1 s0 I J = some t) (hC : (c_X11_count Q) t) : Rn L xs (d + 18) 175 179 [some (.ref 0), some (.int x1)] [.int s0] 94 (I, J, xrf) Q := by
  unfold f_X11_count_25 at h
  refine Rn.fi 1 (c := s0 = 0) (p1 := 186) (l1 := [some (.ref 0), some (.int x1)]) (s1 := []) (n1 := 94) (M1 := (I, J, xrf)) (p2 := 182) (l2 := [some (.ref 0), some (.int x1)]) (s2 := []) (n2 := 94) (M2 := (I, J, xrf)) (fun f => rfl) (fun hc => ?_) (fun hc => ?_)
  · rw [if_pos hc] at h
    exact p_X11_count_27 x1 I J h hC
  · rw [if_neg hc] at h
    exact p_X11_count_26 x1 I J h hC
theorem p_X11_count_24 {L : Nat} {xs : Nat → Int32} {d : Nat} {Q : xO → Prop} (x1 : Int32) (I : xI) (J : xJ) {t : Int32 × xI × xJ} (h : f_X11_count_24 x1 I J = some t) (hC : (c_X11_count Q) t) : Rn L xs (d + 18) 175 172 [some (.ref 0), some (.int x1)] [] 94 (I, J, xrf) Q := by
  unfold f_X11_count_24 at h
  refine Rn.go 2 (j' := 175) (pc' := 176) (ls' := [some (.ref 0), some (.int x1)]) (st' := [.ref 1]) (n' := 94) (M' := (I, J, xrf)) (fun f => rfl) ?_
  obtain ⟨o, ho, h⟩ := Option.bind_eq_some_iff.mp h
  refine Rn.call (d1 := d + 17) (j1 := 63) (ls1 := [some (.ref 1), none, none]) (rest := []) (fun f => rfl) ?_
  refine p_X5_isProper (d := d + 15) I J (t := o) ho ?_
  exact p_X11_count_25 x1 o.1 o.2.1 o.2.2 h hC
theorem p_X11_count_31 {L : Nat} {xs : Nat → Int32} {d : Nat} {Q : xO → Prop} (x1 : Int32) (s0 : Int32) (I : xI) (J : xJ) {t : Int32 × xI × xJ} (h : f_X11_count_31 x1 s0 I J = some t) (hC : (c_X11_count Q) t) : Rn L xs (d + 18) 175 195 [some (.ref 0), some (.int x1)] [.int s0] 94 (I, J, xrf) Q := by
  unfold f_X11_count_31 at h
  cases h
  exact Rn.ret 1 (o := ((some (.int s0)), 94, (I, J, xrf))) (fun f => rfl) hC
theorem p_X11_count_30 {L : Nat} {xs : Nat → Int32} {d : Nat} {Q : xO → Prop} (x1 : Int32) (I : xI) (J : xJ) {t : Int32 × xI × xJ} (h : f_X11_count_30 x1 I J = some t) (hC : (c_X11_count Q) t) : Rn L xs (d + 18) 175 192 [some (.ref 0), some (.int x1)] [.ref 36] 94 (I, J, xrf) Q := by
  unfold f_X11_count_30 at h
  obtain ⟨o, ho, h⟩ := Option.bind_eq_some_iff.mp h
  refine Rn.call (d1 := d + 17) (j1 := 23) (ls1 := [some (.ref 36), none, none]) (rest := []) (fun f => rfl) ?_
  refine p_X1_metCount (d := d + 15) I J (t := o) ho ?_
  exact p_X11_count_31 x1 o.1 o.2.1 o.2.2 h hC
theorem p_X11_count_29 {L : Nat} {xs : Nat → Int32} {d : Nat} {Q : xO → Prop} (x1 : Int32) (I : xI) (J : xJ) {t : Int32 × xI × xJ} (h : f_X11_count_29 x1 I J = some t) (hC : (c_X11_count Q) t) : Rn L xs (d + 18) 175 188 [some (.ref 0), some (.int x1)] [] 94 (I, J, xrf) Q := by
  unfold f_X11_count_29 at h
  refine Rn.go 1 (j' := 175) (pc' := 189) (ls' := [some (.ref 0), some (.int x1)]) (st' := [.ref 0]) (n' := 94) (M' := (I, J, xrf)) (fun f => rfl) ?_
  obtain ⟨o, ho, h⟩ := Option.bind_eq_some_iff.mp h
  refine Rn.call (d1 := d + 17) (j1 := 178) (ls1 := [some (.ref 0)]) (rest := []) (fun f => rfl) ?_
  refine p_X11_fewestNow (d := d + 0) I J (t := o) ho ?_
  exact p_X11_count_30 x1 o.2.1 o.2.2 h hC
theorem p_X11_count_34 {L : Nat} {xs : Nat → Int32} {d : Nat} {Q : xO → Prop} (x1 : Int32) (s0 : Int32) (I : xI) (J : xJ) {t : Int32 × xI × xJ} (h : f_X11_count_34 x1 s0 I J = some t) (hC : (c_X11_count Q) t) : Rn L xs (d + 18) 175 203 [some (.ref 0), some (.int x1)] [.int s0] 94 (I, J, xrf) Q := by
  unfold f_X11_count_34 at h
  cases h
  exact Rn.ret 1 (o := ((some (.int s0)), 94, (I, J, xrf))) (fun f => rfl) hC
theorem p_X11_count_33 {L : Nat} {xs : Nat → Int32} {d : Nat} {Q : xO → Prop} (x1 : Int32) (I : xI) (J : xJ) {t : Int32 × xI × xJ} (h : f_X11_count_33 x1 I J = some t) (hC : (c_X11_count Q) t) : Rn L xs (d + 18) 175 200 [some (.ref 0), some (.int x1)] [.ref 43] 94 (I, J, xrf) Q := by
  unfold f_X11_count_33 at h
  obtain ⟨o, ho, h⟩ := Option.bind_eq_some_iff.mp h
  refine Rn.call (d1 := d + 17) (j1 := 104) (ls1 := [some (.ref 43), none, none, none]) (rest := []) (fun f => rfl) ?_
  refine p_X7_leastBlocks (d := d + 16) I J (t := o) ho ?_
  exact p_X11_count_34 x1 o.1 o.2.1 o.2.2 h hC
theorem p_X11_count_32 {L : Nat} {xs : Nat → Int32} {d : Nat} {Q : xO → Prop} (x1 : Int32) (I : xI) (J : xJ) {t : Int32 × xI × xJ} (h : f_X11_count_32 x1 I J = some t) (hC : (c_X11_count Q) t) : Rn L xs (d + 18) 175 196 [some (.ref 0), some (.int x1)] [] 94 (I, J, xrf) Q := by
  unfold f_X11_count_32 at h
  refine Rn.go 1 (j' := 175) (pc' := 197) (ls' := [some (.ref 0), some (.int x1)]) (st' := [.ref 0]) (n' := 94) (M' := (I, J, xrf)) (fun f => rfl) ?_
  obtain ⟨o, ho, h⟩ := Option.bind_eq_some_iff.mp h
  refine Rn.call (d1 := d + 17) (j1 := 179) (ls1 := [some (.ref 0)]) (rest := []) (fun f => rfl) ?_
  refine p_X11_partitionsNow (d := d + 0) I J (t := o) ho ?_
  exact p_X11_count_33 x1 o.2.1 o.2.2 h hC
theorem p_X11_count_35 {L : Nat} {xs : Nat → Int32} {d : Nat} {Q : xO → Prop} (x1 : Int32) (I : xI) (J : xJ) {t : Int32 × xI × xJ} (h : f_X11_count_35 x1 I J = some t) (hC : (c_X11_count Q) t) : Rn L xs (d + 18) 175 204 [some (.ref 0), some (.int x1)] [] 94 (I, J, xrf) Q := by
  unfold f_X11_count_35 at h
  cases h
  exact Rn.ret 2 (o := ((some (.int ((-1)))), 94, (I, J, xrf))) (fun f => rfl) hC
theorem p_X11_count_1 {L : Nat} {xs : Nat → Int32} {d : Nat} {Q : xO → Prop} (x1 : Int32) (s0 : Int32) (I : xI) (J : xJ) {t : Int32 × xI × xJ} (h : f_X11_count_1 x1 s0 I J = some t) (hC : (c_X11_count Q) t) : Rn L xs (d + 18) 175 1 [some (.ref 0), some (.int x1)] [.int s0] 94 (I, J, xrf) Q := by
  unfold f_X11_count_1 at h
  by_cases hc0 : s0 = 0
  · rw [if_pos hc0] at h; subst hc0
    refine Rn.go 1 (j' := 175) (pc' := 76) (ls' := [some (.ref 0), some (.int x1)]) (st' := []) (n' := 94) (M' := (I, J, xrf)) (fun f => rfl) ?_
    exact p_X11_count_2 x1 I J h hC
  rw [if_neg hc0] at h
  by_cases hc1 : s0 = 1
  · rw [if_pos hc1] at h; subst hc1
    refine Rn.go 1 (j' := 175) (pc' := 84) (ls' := [some (.ref 0), some (.int x1)]) (st' := []) (n' := 94) (M' := (I, J, xrf)) (fun f => rfl) ?_
    exact p_X11_count_3 x1 I J h hC
  rw [if_neg hc1] at h
  by_cases hc2 : s0 = 2
  · rw [if_pos hc2] at h; subst hc2
    refine Rn.go 1 (j' := 175) (pc' := 92) (ls' := [some (.ref 0), some (.int x1)]) (st' := []) (n' := 94) (M' := (I, J, xrf)) (fun f => rfl) ?_
    exact p_X11_count_4 x1 I J h hC
  rw [if_neg hc2] at h
  by_cases hc3 : s0 = 3
  · rw [if_pos hc3] at h; subst hc3
    refine Rn.go 1 (j' := 175) (pc' := 100) (ls' := [some (.ref 0), some (.int x1)]) (st' := []) (n' := 94) (M' := (I, J, xrf)) (fun f => rfl) ?_
    exact p_X11_count_6 x1 I J h hC
  rw [if_neg hc3] at h
  by_cases hc4 : s0 = 4
  · rw [if_pos hc4] at h; subst hc4
    refine Rn.go 1 (j' := 175) (pc' := 108) (ls' := [some (.ref 0), some (.int x1)]) (st' := []) (n' := 94) (M' := (I, J, xrf)) (fun f => rfl) ?_
    exact p_X11_count_8 x1 I J h hC
  rw [if_neg hc4] at h
  by_cases hc5 : s0 = 5
  · rw [if_pos hc5] at h; subst hc5
    refine Rn.go 1 (j' := 175) (pc' := 116) (ls' := [some (.ref 0), some (.int x1)]) (st' := []) (n' := 94) (M' := (I, J, xrf)) (fun f => rfl) ?_
    exact p_X11_count_11 x1 I J h hC
  rw [if_neg hc5] at h
  by_cases hc6 : s0 = 6
  · rw [if_pos hc6] at h; subst hc6
    refine Rn.go 1 (j' := 175) (pc' := 124) (ls' := [some (.ref 0), some (.int x1)]) (st' := []) (n' := 94) (M' := (I, J, xrf)) (fun f => rfl) ?_
    exact p_X11_count_14 x1 I J h hC
  rw [if_neg hc6] at h
  by_cases hc7 : s0 = 7
  · rw [if_pos hc7] at h; subst hc7
    refine Rn.go 1 (j' := 175) (pc' := 132) (ls' := [some (.ref 0), some (.int x1)]) (st' := []) (n' := 94) (M' := (I, J, xrf)) (fun f => rfl) ?_
    exact p_X11_count_16 x1 I J h hC
  rw [if_neg hc7] at h
  by_cases hc8 : s0 = 8
  · rw [if_pos hc8] at h; subst hc8
    refine Rn.go 1 (j' := 175) (pc' := 140) (ls' := [some (.ref 0), some (.int x1)]) (st' := []) (n' := 94) (M' := (I, J, xrf)) (fun f => rfl) ?_
    exact p_X11_count_18 x1 I J h hC
  rw [if_neg hc8] at h
  by_cases hc9 : s0 = 9
  · rw [if_pos hc9] at h; subst hc9
    refine Rn.go 1 (j' := 175) (pc' := 148) (ls' := [some (.ref 0), some (.int x1)]) (st' := []) (n' := 94) (M' := (I, J, xrf)) (fun f => rfl) ?_
    exact p_X11_count_19 x1 I J h hC
  rw [if_neg hc9] at h
  by_cases hc10 : s0 = 10
  · rw [if_pos hc10] at h; subst hc10
    refine Rn.go 1 (j' := 175) (pc' := 156) (ls' := [some (.ref 0), some (.int x1)]) (st' := []) (n' := 94) (M' := (I, J, xrf)) (fun f => rfl) ?_
    exact p_X11_count_20 x1 I J h hC
  rw [if_neg hc10] at h
  by_cases hc11 : s0 = 11
  · rw [if_pos hc11] at h; subst hc11
    refine Rn.go 1 (j' := 175) (pc' := 164) (ls' := [some (.ref 0), some (.int x1)]) (st' := []) (n' := 94) (M' := (I, J, xrf)) (fun f => rfl) ?_
    exact p_X11_count_22 x1 I J h hC
  rw [if_neg hc11] at h
  by_cases hc12 : s0 = 12
  · rw [if_pos hc12] at h; subst hc12
    refine Rn.go 1 (j' := 175) (pc' := 172) (ls' := [some (.ref 0), some (.int x1)]) (st' := []) (n' := 94) (M' := (I, J, xrf)) (fun f => rfl) ?_
    exact p_X11_count_24 x1 I J h hC
  rw [if_neg hc12] at h
  by_cases hc13 : s0 = 13
  · rw [if_pos hc13] at h; subst hc13
    refine Rn.go 1 (j' := 175) (pc' := 188) (ls' := [some (.ref 0), some (.int x1)]) (st' := []) (n' := 94) (M' := (I, J, xrf)) (fun f => rfl) ?_
    exact p_X11_count_29 x1 I J h hC
  rw [if_neg hc13] at h
  by_cases hc14 : s0 = 14
  · rw [if_pos hc14] at h; subst hc14
    refine Rn.go 1 (j' := 175) (pc' := 196) (ls' := [some (.ref 0), some (.int x1)]) (st' := []) (n' := 94) (M' := (I, J, xrf)) (fun f => rfl) ?_
    exact p_X11_count_32 x1 I J h hC
  rw [if_neg hc14] at h
  have ho : Int32.toInt s0 < 0 ∨ 14 < Int32.toInt s0 := xsw_out (fun i h1 h2 => by
      have hh : i = 0 ∨ i = 1 ∨ i = 2 ∨ i = 3 ∨ i = 4 ∨ i = 5 ∨ i = 6 ∨ i = 7 ∨ i = 8 ∨ i = 9 ∨ i = 10 ∨ i = 11 ∨ i = 12 ∨ i = 13 ∨ i = 14 := (by omega)
      rcases hh with rfl | rfl | rfl | rfl | rfl | rfl | rfl | rfl | rfl | rfl | rfl | rfl | rfl | rfl | rfl
      · exact hc0
      · exact hc1
      · exact hc2
      · exact hc3
      · exact hc4
      · exact hc5
      · exact hc6
      · exact hc7
      · exact hc8
      · exact hc9
      · exact hc10
      · exact hc11
      · exact hc12
      · exact hc13
      · exact hc14)
  refine Rn.go 1 (d' := (d + 18)) (j' := 175) (pc' := 204) (ls' := [some (.ref 0), some (.int x1)]) (st' := []) (n' := 94) (M' := (I, J, xrf)) (fun f => by show (if Int32.toInt s0 < 0 ∨ 14 < Int32.toInt s0 then _ else _) = _; rw [if_pos ho] <;> rfl) ?_
  exact p_X11_count_35 x1 I J h hC
theorem p_X11_count_0 {L : Nat} {xs : Nat → Int32} {d : Nat} {Q : xO → Prop} (x1 : Int32) (I : xI) (J : xJ) {t : Int32 × xI × xJ} (h : f_X11_count_0 x1 I J = some t) (hC : (c_X11_count Q) t) : Rn L xs (d + 18) 175 0 [some (.ref 0), some (.int x1)] [] 94 (I, J, xrf) Q := by
  unfold f_X11_count_0 at h
  refine Rn.go 1 (j' := 175) (pc' := 1) (ls' := [some (.ref 0), some (.int x1)]) (st' := [.int x1]) (n' := 94) (M' := (I, J, xrf)) (fun f => rfl) ?_
  exact p_X11_count_1 x1 x1 I J h hC
theorem p_X11_count {L : Nat} {xs : Nat → Int32} {d : Nat} {Q : xO → Prop} (x1 : Int32) (I : xI) (J : xJ) {t : Int32 × xI × xJ} (h : f_X11_count x1 I J = some t) (hC : Q ((some (.int t.1)), 94, (t.2.1, t.2.2, xrf))) : Rn L xs (d + 18) 175 0 [some (.ref 0), some (.int x1)] [] 94 (I, J, xrf) Q := p_X11_count_0 x1 I J h hC
/-! X12_lays -/
def c_X12_lays (Q : xO → Prop) (t : Unit × xI × xJ) : Prop := Q (none, 94, (t.2.1, t.2.2, xrf))
def c_X12_lays_1 (L : Nat) (xs : Nat → Int32) (d : Nat) (Q : xO → Prop) (t : (Int32 × Int32 × xI × xJ) ⊕ (Unit × xI × xJ)) : Prop := match t with
  | .inl s => Rn L xs (d + 1) 184 3 [some (.ref 61), some (.int s.1), some (.int s.2.1)] [] 94 (s.2.2.1, s.2.2.2, xrf) Q
  | .inr t => (c_X12_lays Q) t
def f_X12_lays_3 (x1 : Int32) (x2 : Int32) (I : xI) (J : xJ) : Option (Unit × xI × xJ) := some ((), I, J)
def f_X12_lays_2 (x1 : Int32) (x2 : Int32) (I : xI) (J : xJ) : Option ((Int32 × Int32 × xI × xJ) ⊕ (Unit × xI × xJ)) := if (I 61 2) < 0 ∨ 2000 ≤ ((I 61 2)).toNatClampNeg then none else some (.inl (x1, ((x2 + (-8))), ((xup ((xup I 62 ((I 61 2)).toNatClampNeg ((Int8.toInt32 (Int32.toInt8 ((Int8.toInt32 (Int32.toInt8 ((x1 >>> (x2 &&& 31))))))))))) 61 2 (((((xup I 62 ((I 61 2)).toNatClampNeg ((Int8.toInt32 (Int32.toInt8 ((Int8.toInt32 (Int32.toInt8 ((x1 >>> (x2 &&& 31))))))))))) 61 2) + 1)))), J))
def b_X12_lays_1 (x1 : Int32) (x2 : Int32) (I : xI) (J : xJ) : Option ((Int32 × Int32 × xI × xJ) ⊕ (Unit × xI × xJ)) := if x2 < 0 then ((f_X12_lays_3 x1 x2 I J)).map .inr else f_X12_lays_2 x1 x2 I J
def f_X12_lays_1 (x1 : Int32) (x2 : Int32) (I : xI) (J : xJ) : Option (Unit × xI × xJ) := xloop (fun s : Int32 × Int32 × xI × xJ => b_X12_lays_1 s.1 s.2.1 s.2.2.1 s.2.2.2) 5000 (x1, x2, I, J)
def f_X12_lays_0 (x1 : Int32) (I : xI) (J : xJ) : Option (Unit × xI × xJ) := f_X12_lays_1 x1 24 I J
def f_X12_lays (x1 : Int32) (I : xI) (J : xJ) : Option (Unit × xI × xJ) := f_X12_lays_0 x1 I J
theorem p_X12_lays_3 {L : Nat} {xs : Nat → Int32} {d : Nat} {Q : xO → Prop} (x1 : Int32) (x2 : Int32) (I : xI) (J : xJ) {t : Unit × xI × xJ} (h : f_X12_lays_3 x1 x2 I J = some t) (hC : (c_X12_lays Q) t) : Rn L xs (d + 1) 184 36 [some (.ref 61), some (.int x1), some (.int x2)] [] 94 (I, J, xrf) Q := by
  unfold f_X12_lays_3 at h
  cases h
  exact Rn.ret 1 (o := (none, 94, (I, J, xrf))) (fun f => rfl) hC
theorem p_X12_lays_2 {L : Nat} {xs : Nat → Int32} {d : Nat} {Q : xO → Prop} (x1 : Int32) (x2 : Int32) (I : xI) (J : xJ) {t : (Int32 × Int32 × xI × xJ) ⊕ (Unit × xI × xJ)} (h : f_X12_lays_2 x1 x2 I J = some t) (hC : (c_X12_lays_1 L xs d Q) t) : Rn L xs (d + 1) 184 7 [some (.ref 61), some (.int x1), some (.int x2)] [] 94 (I, J, xrf) Q := by
  unfold f_X12_lays_2 at h
  obtain ⟨hc, h⟩ := xif h
  refine Rn.ok 9 (c := (I 61 2) < 0 ∨ 2000 ≤ ((I 61 2)).toNatClampNeg) (p1 := 20) (l1 := [some (.ref 61), some (.int x1), some (.int x2)]) (s1 := []) (n1 := 94) (M1 := ((xup I 62 ((I 61 2)).toNatClampNeg ((Int8.toInt32 (Int32.toInt8 ((Int8.toInt32 (Int32.toInt8 ((x1 >>> (x2 &&& 31)))))))))), J, xrf)) (fun f => rfl) hc ?_
  refine Rn.go 8 (j' := 184) (pc' := 3) (ls' := [some (.ref 61), some (.int x1), some (.int ((x2 + (-8))))]) (st' := []) (n' := 94) (M' := ((xup ((xup I 62 ((I 61 2)).toNatClampNeg ((Int8.toInt32 (Int32.toInt8 ((Int8.toInt32 (Int32.toInt8 ((x1 >>> (x2 &&& 31))))))))))) 61 2 (((((xup I 62 ((I 61 2)).toNatClampNeg ((Int8.toInt32 (Int32.toInt8 ((Int8.toInt32 (Int32.toInt8 ((x1 >>> (x2 &&& 31))))))))))) 61 2) + 1))), J, xrf)) (fun f => rfl) ?_
  cases h; exact hC
theorem q_X12_lays_1 {L : Nat} {xs : Nat → Int32} {d : Nat} {Q : xO → Prop} (x1 : Int32) (x2 : Int32) (I : xI) (J : xJ) {t : (Int32 × Int32 × xI × xJ) ⊕ (Unit × xI × xJ)} (h : b_X12_lays_1 x1 x2 I J = some t) (hC : (c_X12_lays_1 L xs d Q) t) : Rn L xs (d + 1) 184 3 [some (.ref 61), some (.int x1), some (.int x2)] [] 94 (I, J, xrf) Q := by
  unfold b_X12_lays_1 at h
  refine Rn.fi 2 (c := x2 < 0) (p1 := 36) (l1 := [some (.ref 61), some (.int x1), some (.int x2)]) (s1 := []) (n1 := 94) (M1 := (I, J, xrf)) (p2 := 7) (l2 := [some (.ref 61), some (.int x1), some (.int x2)]) (s2 := []) (n2 := 94) (M2 := (I, J, xrf)) (fun f => rfl) (fun hc => ?_) (fun hc => ?_)
  · rw [if_pos hc] at h
    obtain ⟨t0, h0, rfl⟩ := Option.map_eq_some_iff.mp h
    exact p_X12_lays_3 x1 x2 I J h0 hC
  · rw [if_neg hc] at h
    exact p_X12_lays_2 x1 x2 I J h hC
theorem p_X12_lays_1 {L : Nat} {xs : Nat → Int32} {d : Nat} {Q : xO → Prop} (x1 : Int32) (x2 : Int32) (I : xI) (J : xJ) {t : Unit × xI × xJ} (h : f_X12_lays_1 x1 x2 I J = some t) (hC : (c_X12_lays Q) t) : Rn L xs (d + 1) 184 3 [some (.ref 61), some (.int x1), some (.int x2)] [] 94 (I, J, xrf) Q := by
  unfold f_X12_lays_1 at h
  exact xloop_some (P := fun s : Int32 × Int32 × xI × xJ => Rn L xs (d + 1) 184 3 [some (.ref 61), some (.int s.1), some (.int s.2.1)] [] 94 (s.2.2.1, s.2.2.2, xrf) Q) t (fun s ⟨s', hb, hp⟩ => q_X12_lays_1 s.1 s.2.1 s.2.2.1 s.2.2.2 hb hp) (fun s hb => q_X12_lays_1 s.1 s.2.1 s.2.2.1 s.2.2.2 hb hC) _ _ h
theorem p_X12_lays_0 {L : Nat} {xs : Nat → Int32} {d : Nat} {Q : xO → Prop} (x1 : Int32) (I : xI) (J : xJ) {t : Unit × xI × xJ} (h : f_X12_lays_0 x1 I J = some t) (hC : (c_X12_lays Q) t) : Rn L xs (d + 1) 184 0 [some (.ref 61), some (.int x1), none] [] 94 (I, J, xrf) Q := by
  unfold f_X12_lays_0 at h
  refine Rn.go 2 (j' := 184) (pc' := 3) (ls' := [some (.ref 61), some (.int x1), some (.int 24)]) (st' := []) (n' := 94) (M' := (I, J, xrf)) (fun f => rfl) ?_
  exact p_X12_lays_1 x1 24 I J h hC
theorem p_X12_lays {L : Nat} {xs : Nat → Int32} {d : Nat} {Q : xO → Prop} (x1 : Int32) (I : xI) (J : xJ) {t : Unit × xI × xJ} (h : f_X12_lays x1 I J = some t) (hC : Q (none, 94, (t.2.1, t.2.2, xrf))) : Rn L xs (d + 1) 184 0 [some (.ref 61), some (.int x1), none] [] 94 (I, J, xrf) Q := p_X12_lays_0 x1 I J h hC
/-! X12_feed -/
def c_X12_feed (Q : xO → Prop) (t : Int32 × xI × xJ) : Prop := Q ((some (.int t.1)), 94, (t.2.1, t.2.2, xrf))
def f_X12_feed_7 (x1 : Int32) (x2 : Int32) (x3 : Int32) (x4 : Int32) (x5 : Int32) (I : xI) (J : xJ) : Option (Int32 × xI × xJ) := some ((I 61 2), I, J)
def f_X12_feed_6 (x1 : Int32) (x2 : Int32) (x3 : Int32) (x4 : Int32) (x5 : Int32) (I : xI) (J : xJ) : Option (Int32 × xI × xJ) := (f_X12_lays x5 I J).bind fun o => f_X12_feed_7 x1 x2 x3 x4 x5 o.2.1 o.2.2
def f_X12_feed_5 (x1 : Int32) (x2 : Int32) (x3 : Int32) (x4 : Int32) (x5 : Int32) (I : xI) (J : xJ) : Option (Int32 × xI × xJ) := (f_X12_lays x4 I J).bind fun o => f_X12_feed_6 x1 x2 x3 x4 x5 o.2.1 o.2.2
def f_X12_feed_4 (x1 : Int32) (x2 : Int32) (x3 : Int32) (x4 : Int32) (x5 : Int32) (I : xI) (J : xJ) : Option (Int32 × xI × xJ) := (f_X12_lays x3 I J).bind fun o => f_X12_feed_5 x1 x2 x3 x4 x5 o.2.1 o.2.2
def f_X12_feed_3 (x1 : Int32) (x2 : Int32) (x3 : Int32) (x4 : Int32) (x5 : Int32) (I : xI) (J : xJ) : Option (Int32 × xI × xJ) := (f_X12_lays x2 I J).bind fun o => f_X12_feed_4 x1 x2 x3 x4 x5 o.2.1 o.2.2
def f_X12_feed_2 (x1 : Int32) (x2 : Int32) (x3 : Int32) (x4 : Int32) (x5 : Int32) (I : xI) (J : xJ) : Option (Int32 × xI × xJ) := (f_X12_lays x1 I J).bind fun o => f_X12_feed_3 x1 x2 x3 x4 x5 o.2.1 o.2.2
def f_X12_feed_1 (x1 : Int32) (x2 : Int32) (x3 : Int32) (x4 : Int32) (x5 : Int32) (I : xI) (J : xJ) : Option (Int32 × xI × xJ) := some ((-1), I, J)
def f_X12_feed_0 (x1 : Int32) (x2 : Int32) (x3 : Int32) (x4 : Int32) (x5 : Int32) (I : xI) (J : xJ) : Option (Int32 × xI × xJ) := if ((I 61 2) + 20) ≤ 2000 then f_X12_feed_2 x1 x2 x3 x4 x5 I J else f_X12_feed_1 x1 x2 x3 x4 x5 I J
def f_X12_feed (x1 : Int32) (x2 : Int32) (x3 : Int32) (x4 : Int32) (x5 : Int32) (I : xI) (J : xJ) : Option (Int32 × xI × xJ) := f_X12_feed_0 x1 x2 x3 x4 x5 I J
theorem p_X12_feed_7 {L : Nat} {xs : Nat → Int32} {d : Nat} {Q : xO → Prop} (x1 : Int32) (x2 : Int32) (x3 : Int32) (x4 : Int32) (x5 : Int32) (I : xI) (J : xJ) {t : Int32 × xI × xJ} (h : f_X12_feed_7 x1 x2 x3 x4 x5 I J = some t) (hC : (c_X12_feed Q) t) : Rn L xs (d + 2) 183 42 [some (.ref 61), some (.int x1), some (.int x2), some (.int x3), some (.int x4), some (.int x5)] [] 94 (I, J, xrf) Q := by
  unfold f_X12_feed_7 at h
  cases h
  exact Rn.ret 3 (o := ((some (.int ((I 61 2)))), 94, (I, J, xrf))) (fun f => rfl) hC
theorem p_X12_feed_6 {L : Nat} {xs : Nat → Int32} {d : Nat} {Q : xO → Prop} (x1 : Int32) (x2 : Int32) (x3 : Int32) (x4 : Int32) (x5 : Int32) (I : xI) (J : xJ) {t : Int32 × xI × xJ} (h : f_X12_feed_6 x1 x2 x3 x4 x5 I J = some t) (hC : (c_X12_feed Q) t) : Rn L xs (d + 2) 183 36 [some (.ref 61), some (.int x1), some (.int x2), some (.int x3), some (.int x4), some (.int x5)] [] 94 (I, J, xrf) Q := by
  unfold f_X12_feed_6 at h
  refine Rn.go 2 (j' := 183) (pc' := 39) (ls' := [some (.ref 61), some (.int x1), some (.int x2), some (.int x3), some (.int x4), some (.int x5)]) (st' := [.int x5, .ref 61]) (n' := 94) (M' := (I, J, xrf)) (fun f => rfl) ?_
  obtain ⟨o, ho, h⟩ := Option.bind_eq_some_iff.mp h
  refine Rn.call (d1 := d + 1) (j1 := 184) (ls1 := [some (.ref 61), some (.int x5), none]) (rest := []) (fun f => rfl) ?_
  refine p_X12_lays (d := d + 0) x5 I J (t := o) ho ?_
  exact p_X12_feed_7 x1 x2 x3 x4 x5 o.2.1 o.2.2 h hC
theorem p_X12_feed_5 {L : Nat} {xs : Nat → Int32} {d : Nat} {Q : xO → Prop} (x1 : Int32) (x2 : Int32) (x3 : Int32) (x4 : Int32) (x5 : Int32) (I : xI) (J : xJ) {t : Int32 × xI × xJ} (h : f_X12_feed_5 x1 x2 x3 x4 x5 I J = some t) (hC : (c_X12_feed Q) t) : Rn L xs (d + 2) 183 30 [some (.ref 61), some (.int x1), some (.int x2), some (.int x3), some (.int x4), some (.int x5)] [] 94 (I, J, xrf) Q := by
  unfold f_X12_feed_5 at h
  refine Rn.go 2 (j' := 183) (pc' := 33) (ls' := [some (.ref 61), some (.int x1), some (.int x2), some (.int x3), some (.int x4), some (.int x5)]) (st' := [.int x4, .ref 61]) (n' := 94) (M' := (I, J, xrf)) (fun f => rfl) ?_
  obtain ⟨o, ho, h⟩ := Option.bind_eq_some_iff.mp h
  refine Rn.call (d1 := d + 1) (j1 := 184) (ls1 := [some (.ref 61), some (.int x4), none]) (rest := []) (fun f => rfl) ?_
  refine p_X12_lays (d := d + 0) x4 I J (t := o) ho ?_
  exact p_X12_feed_6 x1 x2 x3 x4 x5 o.2.1 o.2.2 h hC
theorem p_X12_feed_4 {L : Nat} {xs : Nat → Int32} {d : Nat} {Q : xO → Prop} (x1 : Int32) (x2 : Int32) (x3 : Int32) (x4 : Int32) (x5 : Int32) (I : xI) (J : xJ) {t : Int32 × xI × xJ} (h : f_X12_feed_4 x1 x2 x3 x4 x5 I J = some t) (hC : (c_X12_feed Q) t) : Rn L xs (d + 2) 183 25 [some (.ref 61), some (.int x1), some (.int x2), some (.int x3), some (.int x4), some (.int x5)] [] 94 (I, J, xrf) Q := by
  unfold f_X12_feed_4 at h
  refine Rn.go 2 (j' := 183) (pc' := 27) (ls' := [some (.ref 61), some (.int x1), some (.int x2), some (.int x3), some (.int x4), some (.int x5)]) (st' := [.int x3, .ref 61]) (n' := 94) (M' := (I, J, xrf)) (fun f => rfl) ?_
  obtain ⟨o, ho, h⟩ := Option.bind_eq_some_iff.mp h
  refine Rn.call (d1 := d + 1) (j1 := 184) (ls1 := [some (.ref 61), some (.int x3), none]) (rest := []) (fun f => rfl) ?_
  refine p_X12_lays (d := d + 0) x3 I J (t := o) ho ?_
  exact p_X12_feed_5 x1 x2 x3 x4 x5 o.2.1 o.2.2 h hC
theorem p_X12_feed_3 {L : Nat} {xs : Nat → Int32} {d : Nat} {Q : xO → Prop} (x1 : Int32) (x2 : Int32) (x3 : Int32) (x4 : Int32) (x5 : Int32) (I : xI) (J : xJ) {t : Int32 × xI × xJ} (h : f_X12_feed_3 x1 x2 x3 x4 x5 I J = some t) (hC : (c_X12_feed Q) t) : Rn L xs (d + 2) 183 20 [some (.ref 61), some (.int x1), some (.int x2), some (.int x3), some (.int x4), some (.int x5)] [] 94 (I, J, xrf) Q := by
  unfold f_X12_feed_3 at h
  refine Rn.go 2 (j' := 183) (pc' := 22) (ls' := [some (.ref 61), some (.int x1), some (.int x2), some (.int x3), some (.int x4), some (.int x5)]) (st' := [.int x2, .ref 61]) (n' := 94) (M' := (I, J, xrf)) (fun f => rfl) ?_
  obtain ⟨o, ho, h⟩ := Option.bind_eq_some_iff.mp h
  refine Rn.call (d1 := d + 1) (j1 := 184) (ls1 := [some (.ref 61), some (.int x2), none]) (rest := []) (fun f => rfl) ?_
  refine p_X12_lays (d := d + 0) x2 I J (t := o) ho ?_
  exact p_X12_feed_4 x1 x2 x3 x4 x5 o.2.1 o.2.2 h hC
theorem p_X12_feed_2 {L : Nat} {xs : Nat → Int32} {d : Nat} {Q : xO → Prop} (x1 : Int32) (x2 : Int32) (x3 : Int32) (x4 : Int32) (x5 : Int32) (I : xI) (J : xJ) {t : Int32 × xI × xJ} (h : f_X12_feed_2 x1 x2 x3 x4 x5 I J = some t) (hC : (c_X12_feed Q) t) : Rn L xs (d + 2) 183 15 [some (.ref 61), some (.int x1), some (.int x2), some (.int x3), some (.int x4), some (.int x5)] [] 94 (I, J, xrf) Q := by
  unfold f_X12_feed_2 at h
  refine Rn.go 2 (j' := 183) (pc' := 17) (ls' := [some (.ref 61), some (.int x1), some (.int x2), some (.int x3), some (.int x4), some (.int x5)]) (st' := [.int x1, .ref 61]) (n' := 94) (M' := (I, J, xrf)) (fun f => rfl) ?_
  obtain ⟨o, ho, h⟩ := Option.bind_eq_some_iff.mp h
  refine Rn.call (d1 := d + 1) (j1 := 184) (ls1 := [some (.ref 61), some (.int x1), none]) (rest := []) (fun f => rfl) ?_
  refine p_X12_lays (d := d + 0) x1 I J (t := o) ho ?_
  exact p_X12_feed_3 x1 x2 x3 x4 x5 o.2.1 o.2.2 h hC
theorem p_X12_feed_1 {L : Nat} {xs : Nat → Int32} {d : Nat} {Q : xO → Prop} (x1 : Int32) (x2 : Int32) (x3 : Int32) (x4 : Int32) (x5 : Int32) (I : xI) (J : xJ) {t : Int32 × xI × xJ} (h : f_X12_feed_1 x1 x2 x3 x4 x5 I J = some t) (hC : (c_X12_feed Q) t) : Rn L xs (d + 2) 183 13 [some (.ref 61), some (.int x1), some (.int x2), some (.int x3), some (.int x4), some (.int x5)] [] 94 (I, J, xrf) Q := by
  unfold f_X12_feed_1 at h
  cases h
  exact Rn.ret 2 (o := ((some (.int ((-1)))), 94, (I, J, xrf))) (fun f => rfl) hC
theorem p_X12_feed_0 {L : Nat} {xs : Nat → Int32} {d : Nat} {Q : xO → Prop} (x1 : Int32) (x2 : Int32) (x3 : Int32) (x4 : Int32) (x5 : Int32) (I : xI) (J : xJ) {t : Int32 × xI × xJ} (h : f_X12_feed_0 x1 x2 x3 x4 x5 I J = some t) (hC : (c_X12_feed Q) t) : Rn L xs (d + 2) 183 0 [some (.ref 61), some (.int x1), some (.int x2), some (.int x3), some (.int x4), some (.int x5)] [] 94 (I, J, xrf) Q := by
  unfold f_X12_feed_0 at h
  refine Rn.fi 6 (c := ((I 61 2) + 20) ≤ 2000) (p1 := 15) (l1 := [some (.ref 61), some (.int x1), some (.int x2), some (.int x3), some (.int x4), some (.int x5)]) (s1 := []) (n1 := 94) (M1 := (I, J, xrf)) (p2 := 13) (l2 := [some (.ref 61), some (.int x1), some (.int x2), some (.int x3), some (.int x4), some (.int x5)]) (s2 := []) (n2 := 94) (M2 := (I, J, xrf)) (fun f => rfl) (fun hc => ?_) (fun hc => ?_)
  · rw [if_pos hc] at h
    exact p_X12_feed_2 x1 x2 x3 x4 x5 I J h hC
  · rw [if_neg hc] at h
    exact p_X12_feed_1 x1 x2 x3 x4 x5 I J h hC
theorem p_X12_feed {L : Nat} {xs : Nat → Int32} {d : Nat} {Q : xO → Prop} (x1 : Int32) (x2 : Int32) (x3 : Int32) (x4 : Int32) (x5 : Int32) (I : xI) (J : xJ) {t : Int32 × xI × xJ} (h : f_X12_feed x1 x2 x3 x4 x5 I J = some t) (hC : Q ((some (.int t.1)), 94, (t.2.1, t.2.2, xrf))) : Rn L xs (d + 2) 183 0 [some (.ref 61), some (.int x1), some (.int x2), some (.int x3), some (.int x4), some (.int x5)] [] 94 (I, J, xrf) Q := p_X12_feed_0 x1 x2 x3 x4 x5 I J h hC
/-! X12_back -/
def c_X12_back (Q : xO → Prop) (t : Int32 × xI × xJ) : Prop := Q ((some (.int t.1)), 94, (t.2.1, t.2.2, xrf))
def f_X12_back_2 (x1 : Int32) (I : xI) (J : xJ) : Option (Int32 × xI × xJ) := some ((-1), I, J)
def f_X12_back_3 (x1 : Int32) (I : xI) (J : xJ) : Option (Int32 × xI × xJ) := some ((((xup I 61 2 (((I 61 2) - x1)))) 61 2), (xup I 61 2 (((I 61 2) - x1))), J)
def f_X12_back_1 (x1 : Int32) (I : xI) (J : xJ) : Option (Int32 × xI × xJ) := if x1 ≤ (I 61 2) then f_X12_back_3 x1 I J else f_X12_back_2 x1 I J
def f_X12_back_0 (x1 : Int32) (I : xI) (J : xJ) : Option (Int32 × xI × xJ) := if x1 < 0 then f_X12_back_2 x1 I J else f_X12_back_1 x1 I J
def f_X12_back (x1 : Int32) (I : xI) (J : xJ) : Option (Int32 × xI × xJ) := f_X12_back_0 x1 I J
theorem p_X12_back_2 {L : Nat} {xs : Nat → Int32} {d : Nat} {Q : xO → Prop} (x1 : Int32) (I : xI) (J : xJ) {t : Int32 × xI × xJ} (h : f_X12_back_2 x1 I J = some t) (hC : (c_X12_back Q) t) : Rn L xs (d + 1) 185 12 [some (.ref 61), some (.int x1)] [] 94 (I, J, xrf) Q := by
  unfold f_X12_back_2 at h
  cases h
  exact Rn.ret 2 (o := ((some (.int ((-1)))), 94, (I, J, xrf))) (fun f => rfl) hC
theorem p_X12_back_3 {L : Nat} {xs : Nat → Int32} {d : Nat} {Q : xO → Prop} (x1 : Int32) (I : xI) (J : xJ) {t : Int32 × xI × xJ} (h : f_X12_back_3 x1 I J = some t) (hC : (c_X12_back Q) t) : Rn L xs (d + 1) 185 14 [some (.ref 61), some (.int x1)] [] 94 (I, J, xrf) Q := by
  unfold f_X12_back_3 at h
  cases h
  exact Rn.ret 9 (o := ((some (.int ((((xup I 61 2 (((I 61 2) - x1)))) 61 2)))), 94, ((xup I 61 2 (((I 61 2) - x1))), J, xrf))) (fun f => rfl) hC
theorem p_X12_back_1 {L : Nat} {xs : Nat → Int32} {d : Nat} {Q : xO → Prop} (x1 : Int32) (I : xI) (J : xJ) {t : Int32 × xI × xJ} (h : f_X12_back_1 x1 I J = some t) (hC : (c_X12_back Q) t) : Rn L xs (d + 1) 185 4 [some (.ref 61), some (.int x1)] [] 94 (I, J, xrf) Q := by
  unfold f_X12_back_1 at h
  refine Rn.fi 4 (c := x1 ≤ (I 61 2)) (p1 := 14) (l1 := [some (.ref 61), some (.int x1)]) (s1 := []) (n1 := 94) (M1 := (I, J, xrf)) (p2 := 12) (l2 := [some (.ref 61), some (.int x1)]) (s2 := []) (n2 := 94) (M2 := (I, J, xrf)) (fun f => rfl) (fun hc => ?_) (fun hc => ?_)
  · rw [if_pos hc] at h
    exact p_X12_back_3 x1 I J h hC
  · rw [if_neg hc] at h
    exact p_X12_back_2 x1 I J h hC
theorem p_X12_back_0 {L : Nat} {xs : Nat → Int32} {d : Nat} {Q : xO → Prop} (x1 : Int32) (I : xI) (J : xJ) {t : Int32 × xI × xJ} (h : f_X12_back_0 x1 I J = some t) (hC : (c_X12_back Q) t) : Rn L xs (d + 1) 185 0 [some (.ref 61), some (.int x1)] [] 94 (I, J, xrf) Q := by
  unfold f_X12_back_0 at h
  refine Rn.fi 2 (c := x1 < 0) (p1 := 12) (l1 := [some (.ref 61), some (.int x1)]) (s1 := []) (n1 := 94) (M1 := (I, J, xrf)) (p2 := 4) (l2 := [some (.ref 61), some (.int x1)]) (s2 := []) (n2 := 94) (M2 := (I, J, xrf)) (fun f => rfl) (fun hc => ?_) (fun hc => ?_)
  · rw [if_pos hc] at h
    exact p_X12_back_2 x1 I J h hC
  · rw [if_neg hc] at h
    exact p_X12_back_1 x1 I J h hC
theorem p_X12_back {L : Nat} {xs : Nat → Int32} {d : Nat} {Q : xO → Prop} (x1 : Int32) (I : xI) (J : xJ) {t : Int32 × xI × xJ} (h : f_X12_back x1 I J = some t) (hC : Q ((some (.int t.1)), 94, (t.2.1, t.2.2, xrf))) : Rn L xs (d + 1) 185 0 [some (.ref 61), some (.int x1)] [] 94 (I, J, xrf) Q := p_X12_back_0 x1 I J h hC
/-! X12_byteAt -/
def c_X12_byteAt (Q : xO → Prop) (t : Int32 × xI × xJ) : Prop := Q ((some (.int t.1)), 94, (t.2.1, t.2.2, xrf))
def f_X12_byteAt_3 (x1 : Int32) (s0 : Int32) (I : xI) (J : xJ) : Option (Int32 × xI × xJ) := some (s0, I, J)
def f_X12_byteAt_2 (x1 : Int32) (I : xI) (J : xJ) : Option (Int32 × xI × xJ) := f_X12_byteAt_3 x1 0 I J
def f_X12_byteAt_1 (x1 : Int32) (I : xI) (J : xJ) : Option (Int32 × xI × xJ) := if x1 < 0 ∨ 2000 ≤ x1.toNatClampNeg then none else f_X12_byteAt_3 x1 (((I 63 x1.toNatClampNeg) &&& 255)) I J
def f_X12_byteAt_0 (x1 : Int32) (I : xI) (J : xJ) : Option (Int32 × xI × xJ) := if (I 61 4) ≤ x1 then f_X12_byteAt_2 x1 I J else f_X12_byteAt_1 x1 I J
def f_X12_byteAt (x1 : Int32) (I : xI) (J : xJ) : Option (Int32 × xI × xJ) := f_X12_byteAt_0 x1 I J
theorem p_X12_byteAt_3 {L : Nat} {xs : Nat → Int32} {d : Nat} {Q : xO → Prop} (x1 : Int32) (s0 : Int32) (I : xI) (J : xJ) {t : Int32 × xI × xJ} (h : f_X12_byteAt_3 x1 s0 I J = some t) (hC : (c_X12_byteAt Q) t) : Rn L xs (d + 1) 186 22 [some (.ref 61), some (.int x1)] [.int s0] 94 (I, J, xrf) Q := by
  unfold f_X12_byteAt_3 at h
  cases h
  exact Rn.ret 1 (o := ((some (.int s0)), 94, (I, J, xrf))) (fun f => rfl) hC
theorem p_X12_byteAt_2 {L : Nat} {xs : Nat → Int32} {d : Nat} {Q : xO → Prop} (x1 : Int32) (I : xI) (J : xJ) {t : Int32 × xI × xJ} (h : f_X12_byteAt_2 x1 I J = some t) (hC : (c_X12_byteAt Q) t) : Rn L xs (d + 1) 186 21 [some (.ref 61), some (.int x1)] [] 94 (I, J, xrf) Q := by
  unfold f_X12_byteAt_2 at h
  refine Rn.go 1 (j' := 186) (pc' := 22) (ls' := [some (.ref 61), some (.int x1)]) (st' := [.int 0]) (n' := 94) (M' := (I, J, xrf)) (fun f => rfl) ?_
  exact p_X12_byteAt_3 x1 0 I J h hC
theorem p_X12_byteAt_1 {L : Nat} {xs : Nat → Int32} {d : Nat} {Q : xO → Prop} (x1 : Int32) (I : xI) (J : xJ) {t : Int32 × xI × xJ} (h : f_X12_byteAt_1 x1 I J = some t) (hC : (c_X12_byteAt Q) t) : Rn L xs (d + 1) 186 8 [some (.ref 61), some (.int x1)] [] 94 (I, J, xrf) Q := by
  unfold f_X12_byteAt_1 at h
  obtain ⟨hc, h⟩ := xif h
  refine Rn.ok 4 (c := x1 < 0 ∨ 2000 ≤ x1.toNatClampNeg) (p1 := 14) (l1 := [some (.ref 61), some (.int x1)]) (s1 := [.int ((I 63 x1.toNatClampNeg))]) (n1 := 94) (M1 := (I, J, xrf)) (fun f => rfl) hc ?_
  refine Rn.go 3 (j' := 186) (pc' := 22) (ls' := [some (.ref 61), some (.int x1)]) (st' := [.int (((I 63 x1.toNatClampNeg) &&& 255))]) (n' := 94) (M' := (I, J, xrf)) (fun f => rfl) ?_
  exact p_X12_byteAt_3 x1 (((I 63 x1.toNatClampNeg) &&& 255)) I J h hC
theorem p_X12_byteAt_0 {L : Nat} {xs : Nat → Int32} {d : Nat} {Q : xO → Prop} (x1 : Int32) (I : xI) (J : xJ) {t : Int32 × xI × xJ} (h : f_X12_byteAt_0 x1 I J = some t) (hC : (c_X12_byteAt Q) t) : Rn L xs (d + 1) 186 0 [some (.ref 61), some (.int x1)] [] 94 (I, J, xrf) Q := by
  unfold f_X12_byteAt_0 at h
  refine Rn.fi 4 (c := (I 61 4) ≤ x1) (p1 := 21) (l1 := [some (.ref 61), some (.int x1)]) (s1 := []) (n1 := 94) (M1 := (I, J, xrf)) (p2 := 8) (l2 := [some (.ref 61), some (.int x1)]) (s2 := []) (n2 := 94) (M2 := (I, J, xrf)) (fun f => rfl) (fun hc => ?_) (fun hc => ?_)
  · rw [if_pos hc] at h
    exact p_X12_byteAt_2 x1 I J h hC
  · rw [if_neg hc] at h
    exact p_X12_byteAt_1 x1 I J h hC
theorem p_X12_byteAt {L : Nat} {xs : Nat → Int32} {d : Nat} {Q : xO → Prop} (x1 : Int32) (I : xI) (J : xJ) {t : Int32 × xI × xJ} (h : f_X12_byteAt x1 I J = some t) (hC : Q ((some (.int t.1)), 94, (t.2.1, t.2.2, xrf))) : Rn L xs (d + 1) 186 0 [some (.ref 61), some (.int x1)] [] 94 (I, J, xrf) Q := p_X12_byteAt_0 x1 I J h hC
/-! X12_token -/
def c_X12_token (Q : xO → Prop) (t : Unit × xI × xJ) : Prop := Q (none, 94, (t.2.1, t.2.2, xrf))
def f_X12_token_0 (x1 : Int32) (x2 : Int32) (x3 : Int32) (y4 : Int64) (I : xI) (J : xJ) : Option (Unit × xI × xJ) := if (I 61 10) < 0 ∨ 403 ≤ ((I 61 10)).toNatClampNeg then none else if (((xup I 64 ((I 61 10)).toNatClampNeg x1)) 61 10) < 0 ∨ 403 ≤ ((((xup I 64 ((I 61 10)).toNatClampNeg x1)) 61 10)).toNatClampNeg then none else if (((xup ((xup I 64 ((I 61 10)).toNatClampNeg x1)) 65 ((((xup I 64 ((I 61 10)).toNatClampNeg x1)) 61 10)).toNatClampNeg x2)) 61 10) < 0 ∨ 403 ≤ ((((xup ((xup I 64 ((I 61 10)).toNatClampNeg x1)) 65 ((((xup I 64 ((I 61 10)).toNatClampNeg x1)) 61 10)).toNatClampNeg x2)) 61 10)).toNatClampNeg then none else if (((xup ((xup ((xup I 64 ((I 61 10)).toNatClampNeg x1)) 65 ((((xup I 64 ((I 61 10)).toNatClampNeg x1)) 61 10)).toNatClampNeg x2)) 66 ((((xup ((xup I 64 ((I 61 10)).toNatClampNeg x1)) 65 ((((xup I 64 ((I 61 10)).toNatClampNeg x1)) 61 10)).toNatClampNeg x2)) 61 10)).toNatClampNeg x3)) 61 10) < 0 ∨ 403 ≤ ((((xup ((xup ((xup I 64 ((I 61 10)).toNatClampNeg x1)) 65 ((((xup I 64 ((I 61 10)).toNatClampNeg x1)) 61 10)).toNatClampNeg x2)) 66 ((((xup ((xup I 64 ((I 61 10)).toNatClampNeg x1)) 65 ((((xup I 64 ((I 61 10)).toNatClampNeg x1)) 61 10)).toNatClampNeg x2)) 61 10)).toNatClampNeg x3)) 61 10)).toNatClampNeg then none else some ((), (xup ((xup ((xup ((xup I 64 ((I 61 10)).toNatClampNeg x1)) 65 ((((xup I 64 ((I 61 10)).toNatClampNeg x1)) 61 10)).toNatClampNeg x2)) 66 ((((xup ((xup I 64 ((I 61 10)).toNatClampNeg x1)) 65 ((((xup I 64 ((I 61 10)).toNatClampNeg x1)) 61 10)).toNatClampNeg x2)) 61 10)).toNatClampNeg x3)) 61 10 (((((xup ((xup ((xup I 64 ((I 61 10)).toNatClampNeg x1)) 65 ((((xup I 64 ((I 61 10)).toNatClampNeg x1)) 61 10)).toNatClampNeg x2)) 66 ((((xup ((xup I 64 ((I 61 10)).toNatClampNeg x1)) 65 ((((xup I 64 ((I 61 10)).toNatClampNeg x1)) 61 10)).toNatClampNeg x2)) 61 10)).toNatClampNeg x3)) 61 10) + 1))), (xup J 67 ((((xup ((xup ((xup I 64 ((I 61 10)).toNatClampNeg x1)) 65 ((((xup I 64 ((I 61 10)).toNatClampNeg x1)) 61 10)).toNatClampNeg x2)) 66 ((((xup ((xup I 64 ((I 61 10)).toNatClampNeg x1)) 65 ((((xup I 64 ((I 61 10)).toNatClampNeg x1)) 61 10)).toNatClampNeg x2)) 61 10)).toNatClampNeg x3)) 61 10)).toNatClampNeg y4))
def f_X12_token (x1 : Int32) (x2 : Int32) (x3 : Int32) (y4 : Int64) (I : xI) (J : xJ) : Option (Unit × xI × xJ) := f_X12_token_0 x1 x2 x3 y4 I J
theorem p_X12_token_0 {L : Nat} {xs : Nat → Int32} {d : Nat} {Q : xO → Prop} (x1 : Int32) (x2 : Int32) (x3 : Int32) (y4 : Int64) (I : xI) (J : xJ) {t : Unit × xI × xJ} (h : f_X12_token_0 x1 x2 x3 y4 I J = some t) (hC : (c_X12_token Q) t) : Rn L xs (d + 1) 191 0 [some (.ref 61), some (.int x1), some (.int x2), some (.int x3), some (.long y4), none] [] 94 (I, J, xrf) Q := by
  unfold f_X12_token_0 at h
  obtain ⟨hc, h⟩ := xif h
  refine Rn.ok 6 (c := (I 61 10) < 0 ∨ 403 ≤ ((I 61 10)).toNatClampNeg) (p1 := 10) (l1 := [some (.ref 61), some (.int x1), some (.int x2), some (.int x3), some (.long y4), none]) (s1 := []) (n1 := 94) (M1 := ((xup I 64 ((I 61 10)).toNatClampNeg x1), J, xrf)) (fun f => rfl) hc ?_
  obtain ⟨hc, h⟩ := xif h
  refine Rn.ok 6 (c := (((xup I 64 ((I 61 10)).toNatClampNeg x1)) 61 10) < 0 ∨ 403 ≤ ((((xup I 64 ((I 61 10)).toNatClampNeg x1)) 61 10)).toNatClampNeg) (p1 := 20) (l1 := [some (.ref 61), some (.int x1), some (.int x2), some (.int x3), some (.long y4), none]) (s1 := []) (n1 := 94) (M1 := ((xup ((xup I 64 ((I 61 10)).toNatClampNeg x1)) 65 ((((xup I 64 ((I 61 10)).toNatClampNeg x1)) 61 10)).toNatClampNeg x2), J, xrf)) (fun f => rfl) hc ?_
  obtain ⟨hc, h⟩ := xif h
  refine Rn.ok 6 (c := (((xup ((xup I 64 ((I 61 10)).toNatClampNeg x1)) 65 ((((xup I 64 ((I 61 10)).toNatClampNeg x1)) 61 10)).toNatClampNeg x2)) 61 10) < 0 ∨ 403 ≤ ((((xup ((xup I 64 ((I 61 10)).toNatClampNeg x1)) 65 ((((xup I 64 ((I 61 10)).toNatClampNeg x1)) 61 10)).toNatClampNeg x2)) 61 10)).toNatClampNeg) (p1 := 30) (l1 := [some (.ref 61), some (.int x1), some (.int x2), some (.int x3), some (.long y4), none]) (s1 := []) (n1 := 94) (M1 := ((xup ((xup ((xup I 64 ((I 61 10)).toNatClampNeg x1)) 65 ((((xup I 64 ((I 61 10)).toNatClampNeg x1)) 61 10)).toNatClampNeg x2)) 66 ((((xup ((xup I 64 ((I 61 10)).toNatClampNeg x1)) 65 ((((xup I 64 ((I 61 10)).toNatClampNeg x1)) 61 10)).toNatClampNeg x2)) 61 10)).toNatClampNeg x3), J, xrf)) (fun f => rfl) hc ?_
  obtain ⟨hc, h⟩ := xif h
  refine Rn.ok 6 (c := (((xup ((xup ((xup I 64 ((I 61 10)).toNatClampNeg x1)) 65 ((((xup I 64 ((I 61 10)).toNatClampNeg x1)) 61 10)).toNatClampNeg x2)) 66 ((((xup ((xup I 64 ((I 61 10)).toNatClampNeg x1)) 65 ((((xup I 64 ((I 61 10)).toNatClampNeg x1)) 61 10)).toNatClampNeg x2)) 61 10)).toNatClampNeg x3)) 61 10) < 0 ∨ 403 ≤ ((((xup ((xup ((xup I 64 ((I 61 10)).toNatClampNeg x1)) 65 ((((xup I 64 ((I 61 10)).toNatClampNeg x1)) 61 10)).toNatClampNeg x2)) 66 ((((xup ((xup I 64 ((I 61 10)).toNatClampNeg x1)) 65 ((((xup I 64 ((I 61 10)).toNatClampNeg x1)) 61 10)).toNatClampNeg x2)) 61 10)).toNatClampNeg x3)) 61 10)).toNatClampNeg) (p1 := 41) (l1 := [some (.ref 61), some (.int x1), some (.int x2), some (.int x3), some (.long y4), none]) (s1 := []) (n1 := 94) (M1 := ((xup ((xup ((xup I 64 ((I 61 10)).toNatClampNeg x1)) 65 ((((xup I 64 ((I 61 10)).toNatClampNeg x1)) 61 10)).toNatClampNeg x2)) 66 ((((xup ((xup I 64 ((I 61 10)).toNatClampNeg x1)) 65 ((((xup I 64 ((I 61 10)).toNatClampNeg x1)) 61 10)).toNatClampNeg x2)) 61 10)).toNatClampNeg x3), (xup J 67 ((((xup ((xup ((xup I 64 ((I 61 10)).toNatClampNeg x1)) 65 ((((xup I 64 ((I 61 10)).toNatClampNeg x1)) 61 10)).toNatClampNeg x2)) 66 ((((xup ((xup I 64 ((I 61 10)).toNatClampNeg x1)) 65 ((((xup I 64 ((I 61 10)).toNatClampNeg x1)) 61 10)).toNatClampNeg x2)) 61 10)).toNatClampNeg x3)) 61 10)).toNatClampNeg y4), xrf)) (fun f => rfl) hc ?_
  cases h
  exact Rn.ret 7 (o := (none, 94, ((xup ((xup ((xup ((xup I 64 ((I 61 10)).toNatClampNeg x1)) 65 ((((xup I 64 ((I 61 10)).toNatClampNeg x1)) 61 10)).toNatClampNeg x2)) 66 ((((xup ((xup I 64 ((I 61 10)).toNatClampNeg x1)) 65 ((((xup I 64 ((I 61 10)).toNatClampNeg x1)) 61 10)).toNatClampNeg x2)) 61 10)).toNatClampNeg x3)) 61 10 (((((xup ((xup ((xup I 64 ((I 61 10)).toNatClampNeg x1)) 65 ((((xup I 64 ((I 61 10)).toNatClampNeg x1)) 61 10)).toNatClampNeg x2)) 66 ((((xup ((xup I 64 ((I 61 10)).toNatClampNeg x1)) 65 ((((xup I 64 ((I 61 10)).toNatClampNeg x1)) 61 10)).toNatClampNeg x2)) 61 10)).toNatClampNeg x3)) 61 10) + 1))), (xup J 67 ((((xup ((xup ((xup I 64 ((I 61 10)).toNatClampNeg x1)) 65 ((((xup I 64 ((I 61 10)).toNatClampNeg x1)) 61 10)).toNatClampNeg x2)) 66 ((((xup ((xup I 64 ((I 61 10)).toNatClampNeg x1)) 65 ((((xup I 64 ((I 61 10)).toNatClampNeg x1)) 61 10)).toNatClampNeg x2)) 61 10)).toNatClampNeg x3)) 61 10)).toNatClampNeg y4), xrf))) (fun f => rfl) hC
theorem p_X12_token {L : Nat} {xs : Nat → Int32} {d : Nat} {Q : xO → Prop} (x1 : Int32) (x2 : Int32) (x3 : Int32) (y4 : Int64) (I : xI) (J : xJ) {t : Unit × xI × xJ} (h : f_X12_token x1 x2 x3 y4 I J = some t) (hC : Q (none, 94, (t.2.1, t.2.2, xrf))) : Rn L xs (d + 1) 191 0 [some (.ref 61), some (.int x1), some (.int x2), some (.int x3), some (.long y4), none] [] 94 (I, J, xrf) Q := p_X12_token_0 x1 x2 x3 y4 I J h hC
/-! X12_isLetter -/
def c_X12_isLetter (Q : xO → Prop) (t : Int32 × xI × xJ) : Prop := Q ((some (.int t.1)), 94, (t.2.1, t.2.2, xrf))
def f_X12_isLetter_4 (x0 : Int32) (s0 : Int32) (I : xI) (J : xJ) : Option (Int32 × xI × xJ) := if s0 = 0 ∨ s0 = 1 then some (s0, I, J) else none
def f_X12_isLetter_3 (x0 : Int32) (I : xI) (J : xJ) : Option (Int32 × xI × xJ) := f_X12_isLetter_4 x0 0 I J
def f_X12_isLetter_2 (x0 : Int32) (I : xI) (J : xJ) : Option (Int32 × xI × xJ) := f_X12_isLetter_4 x0 1 I J
def f_X12_isLetter_1 (x0 : Int32) (I : xI) (J : xJ) : Option (Int32 × xI × xJ) := if 122 < x0 then f_X12_isLetter_3 x0 I J else f_X12_isLetter_2 x0 I J
def f_X12_isLetter_0 (x0 : Int32) (I : xI) (J : xJ) : Option (Int32 × xI × xJ) := if x0 < 97 then f_X12_isLetter_3 x0 I J else f_X12_isLetter_1 x0 I J
def f_X12_isLetter (x0 : Int32) (I : xI) (J : xJ) : Option (Int32 × xI × xJ) := f_X12_isLetter_0 x0 I J
theorem p_X12_isLetter_4 {L : Nat} {xs : Nat → Int32} {d : Nat} {Q : xO → Prop} (x0 : Int32) (s0 : Int32) (I : xI) (J : xJ) {t : Int32 × xI × xJ} (h : f_X12_isLetter_4 x0 s0 I J = some t) (hC : (c_X12_isLetter Q) t) : Rn L xs (d + 1) 188 17 [some (.int x0)] [.int s0] 94 (I, J, xrf) Q := by
  unfold f_X12_isLetter_4 at h
  obtain ⟨hc, h⟩ := xifT h
  cases h
  exact Rn.retT 1 (c := s0 = 0 ∨ s0 = 1) (o := ((some (.int s0)), 94, (I, J, xrf))) (fun f => rfl) hc hC
theorem p_X12_isLetter_3 {L : Nat} {xs : Nat → Int32} {d : Nat} {Q : xO → Prop} (x0 : Int32) (I : xI) (J : xJ) {t : Int32 × xI × xJ} (h : f_X12_isLetter_3 x0 I J = some t) (hC : (c_X12_isLetter Q) t) : Rn L xs (d + 1) 188 16 [some (.int x0)] [] 94 (I, J, xrf) Q := by
  unfold f_X12_isLetter_3 at h
  refine Rn.go 1 (j' := 188) (pc' := 17) (ls' := [some (.int x0)]) (st' := [.int 0]) (n' := 94) (M' := (I, J, xrf)) (fun f => rfl) ?_
  exact p_X12_isLetter_4 x0 0 I J h hC
theorem p_X12_isLetter_2 {L : Nat} {xs : Nat → Int32} {d : Nat} {Q : xO → Prop} (x0 : Int32) (I : xI) (J : xJ) {t : Int32 × xI × xJ} (h : f_X12_isLetter_2 x0 I J = some t) (hC : (c_X12_isLetter Q) t) : Rn L xs (d + 1) 188 12 [some (.int x0)] [] 94 (I, J, xrf) Q := by
  unfold f_X12_isLetter_2 at h
  refine Rn.go 2 (j' := 188) (pc' := 17) (ls' := [some (.int x0)]) (st' := [.int 1]) (n' := 94) (M' := (I, J, xrf)) (fun f => rfl) ?_
  exact p_X12_isLetter_4 x0 1 I J h hC
theorem p_X12_isLetter_1 {L : Nat} {xs : Nat → Int32} {d : Nat} {Q : xO → Prop} (x0 : Int32) (I : xI) (J : xJ) {t : Int32 × xI × xJ} (h : f_X12_isLetter_1 x0 I J = some t) (hC : (c_X12_isLetter Q) t) : Rn L xs (d + 1) 188 6 [some (.int x0)] [] 94 (I, J, xrf) Q := by
  unfold f_X12_isLetter_1 at h
  refine Rn.fi 3 (c := 122 < x0) (p1 := 16) (l1 := [some (.int x0)]) (s1 := []) (n1 := 94) (M1 := (I, J, xrf)) (p2 := 12) (l2 := [some (.int x0)]) (s2 := []) (n2 := 94) (M2 := (I, J, xrf)) (fun f => rfl) (fun hc => ?_) (fun hc => ?_)
  · rw [if_pos hc] at h
    exact p_X12_isLetter_3 x0 I J h hC
  · rw [if_neg hc] at h
    exact p_X12_isLetter_2 x0 I J h hC
theorem p_X12_isLetter_0 {L : Nat} {xs : Nat → Int32} {d : Nat} {Q : xO → Prop} (x0 : Int32) (I : xI) (J : xJ) {t : Int32 × xI × xJ} (h : f_X12_isLetter_0 x0 I J = some t) (hC : (c_X12_isLetter Q) t) : Rn L xs (d + 1) 188 0 [some (.int x0)] [] 94 (I, J, xrf) Q := by
  unfold f_X12_isLetter_0 at h
  refine Rn.fi 3 (c := x0 < 97) (p1 := 16) (l1 := [some (.int x0)]) (s1 := []) (n1 := 94) (M1 := (I, J, xrf)) (p2 := 6) (l2 := [some (.int x0)]) (s2 := []) (n2 := 94) (M2 := (I, J, xrf)) (fun f => rfl) (fun hc => ?_) (fun hc => ?_)
  · rw [if_pos hc] at h
    exact p_X12_isLetter_3 x0 I J h hC
  · rw [if_neg hc] at h
    exact p_X12_isLetter_1 x0 I J h hC
theorem p_X12_isLetter {L : Nat} {xs : Nat → Int32} {d : Nat} {Q : xO → Prop} (x0 : Int32) (I : xI) (J : xJ) {t : Int32 × xI × xJ} (h : f_X12_isLetter x0 I J = some t) (hC : Q ((some (.int t.1)), 94, (t.2.1, t.2.2, xrf))) : Rn L xs (d + 1) 188 0 [some (.int x0)] [] 94 (I, J, xrf) Q := p_X12_isLetter_0 x0 I J h hC
/-! X12_appends -/
def c_X12_appends (Q : xO → Prop) (t : Int64 × xI × xJ) : Prop := Q ((some (.long t.1)), 94, (t.2.1, t.2.2, xrf))
def f_X12_appends_3 (y0 : Int64) (x2 : Int32) (t0 : Int64) (I : xI) (J : xJ) : Option (Int64 × xI × xJ) := some (t0, I, J)
def f_X12_appends_2 (y0 : Int64) (x2 : Int32) (I : xI) (J : xJ) : Option (Int64 × xI × xJ) := f_X12_appends_3 y0 x2 (((27 * y0) + (Int32.toInt64 (((x2 - 97) + 1))))) I J
def f_X12_appends_1 (y0 : Int64) (x2 : Int32) (I : xI) (J : xJ) : Option (Int64 × xI × xJ) := f_X12_appends_3 y0 x2 y0 I J
def f_X12_appends_0 (y0 : Int64) (x2 : Int32) (I : xI) (J : xJ) : Option (Int64 × xI × xJ) := if x2 = 0 then f_X12_appends_1 y0 x2 I J else f_X12_appends_2 y0 x2 I J
def f_X12_appends (y0 : Int64) (x2 : Int32) (I : xI) (J : xJ) : Option (Int64 × xI × xJ) := f_X12_appends_0 y0 x2 I J
theorem p_X12_appends_3 {L : Nat} {xs : Nat → Int32} {d : Nat} {Q : xO → Prop} (y0 : Int64) (x2 : Int32) (t0 : Int64) (I : xI) (J : xJ) {t : Int64 × xI × xJ} (h : f_X12_appends_3 y0 x2 t0 I J = some t) (hC : (c_X12_appends Q) t) : Rn L xs (d + 1) 189 21 [some (.long y0), none, some (.int x2)] [.long t0] 94 (I, J, xrf) Q := by
  unfold f_X12_appends_3 at h
  cases h
  exact Rn.ret 1 (o := ((some (.long t0)), 94, (I, J, xrf))) (fun f => rfl) hC
theorem p_X12_appends_2 {L : Nat} {xs : Nat → Int32} {d : Nat} {Q : xO → Prop} (y0 : Int64) (x2 : Int32) (I : xI) (J : xJ) {t : Int64 × xI × xJ} (h : f_X12_appends_2 y0 x2 I J = some t) (hC : (c_X12_appends Q) t) : Rn L xs (d + 1) 189 8 [some (.long y0), none, some (.int x2)] [] 94 (I, J, xrf) Q := by
  unfold f_X12_appends_2 at h
  refine Rn.go 10 (j' := 189) (pc' := 21) (ls' := [some (.long y0), none, some (.int x2)]) (st' := [.long (((27 * y0) + (Int32.toInt64 (((x2 - 97) + 1)))))]) (n' := 94) (M' := (I, J, xrf)) (fun f => rfl) ?_
  exact p_X12_appends_3 y0 x2 (((27 * y0) + (Int32.toInt64 (((x2 - 97) + 1))))) I J h hC
theorem p_X12_appends_1 {L : Nat} {xs : Nat → Int32} {d : Nat} {Q : xO → Prop} (y0 : Int64) (x2 : Int32) (I : xI) (J : xJ) {t : Int64 × xI × xJ} (h : f_X12_appends_1 y0 x2 I J = some t) (hC : (c_X12_appends Q) t) : Rn L xs (d + 1) 189 4 [some (.long y0), none, some (.int x2)] [] 94 (I, J, xrf) Q := by
  unfold f_X12_appends_1 at h
  refine Rn.go 2 (j' := 189) (pc' := 21) (ls' := [some (.long y0), none, some (.int x2)]) (st' := [.long y0]) (n' := 94) (M' := (I, J, xrf)) (fun f => rfl) ?_
  exact p_X12_appends_3 y0 x2 y0 I J h hC
theorem p_X12_appends_0 {L : Nat} {xs : Nat → Int32} {d : Nat} {Q : xO → Prop} (y0 : Int64) (x2 : Int32) (I : xI) (J : xJ) {t : Int64 × xI × xJ} (h : f_X12_appends_0 y0 x2 I J = some t) (hC : (c_X12_appends Q) t) : Rn L xs (d + 1) 189 0 [some (.long y0), none, some (.int x2)] [] 94 (I, J, xrf) Q := by
  unfold f_X12_appends_0 at h
  refine Rn.fi 2 (c := x2 = 0) (p1 := 4) (l1 := [some (.long y0), none, some (.int x2)]) (s1 := []) (n1 := 94) (M1 := (I, J, xrf)) (p2 := 8) (l2 := [some (.long y0), none, some (.int x2)]) (s2 := []) (n2 := 94) (M2 := (I, J, xrf)) (fun f => rfl) (fun hc => ?_) (fun hc => ?_)
  · rw [if_pos hc] at h
    exact p_X12_appends_1 y0 x2 I J h hC
  · rw [if_neg hc] at h
    exact p_X12_appends_2 y0 x2 I J h hC
theorem p_X12_appends {L : Nat} {xs : Nat → Int32} {d : Nat} {Q : xO → Prop} (y0 : Int64) (x2 : Int32) (I : xI) (J : xJ) {t : Int64 × xI × xJ} (h : f_X12_appends y0 x2 I J = some t) (hC : Q ((some (.long t.1)), 94, (t.2.1, t.2.2, xrf))) : Rn L xs (d + 1) 189 0 [some (.long y0), none, some (.int x2)] [] 94 (I, J, xrf) Q := p_X12_appends_0 y0 x2 I J h hC
/-! X12_isDigit -/
def c_X12_isDigit (Q : xO → Prop) (t : Int32 × xI × xJ) : Prop := Q ((some (.int t.1)), 94, (t.2.1, t.2.2, xrf))
def f_X12_isDigit_4 (x0 : Int32) (s0 : Int32) (I : xI) (J : xJ) : Option (Int32 × xI × xJ) := if s0 = 0 ∨ s0 = 1 then some (s0, I, J) else none
def f_X12_isDigit_3 (x0 : Int32) (I : xI) (J : xJ) : Option (Int32 × xI × xJ) := f_X12_isDigit_4 x0 0 I J
def f_X12_isDigit_2 (x0 : Int32) (I : xI) (J : xJ) : Option (Int32 × xI × xJ) := f_X12_isDigit_4 x0 1 I J
def f_X12_isDigit_1 (x0 : Int32) (I : xI) (J : xJ) : Option (Int32 × xI × xJ) := if 57 < x0 then f_X12_isDigit_3 x0 I J else f_X12_isDigit_2 x0 I J
def f_X12_isDigit_0 (x0 : Int32) (I : xI) (J : xJ) : Option (Int32 × xI × xJ) := if x0 < 48 then f_X12_isDigit_3 x0 I J else f_X12_isDigit_1 x0 I J
def f_X12_isDigit (x0 : Int32) (I : xI) (J : xJ) : Option (Int32 × xI × xJ) := f_X12_isDigit_0 x0 I J
theorem p_X12_isDigit_4 {L : Nat} {xs : Nat → Int32} {d : Nat} {Q : xO → Prop} (x0 : Int32) (s0 : Int32) (I : xI) (J : xJ) {t : Int32 × xI × xJ} (h : f_X12_isDigit_4 x0 s0 I J = some t) (hC : (c_X12_isDigit Q) t) : Rn L xs (d + 1) 187 17 [some (.int x0)] [.int s0] 94 (I, J, xrf) Q := by
  unfold f_X12_isDigit_4 at h
  obtain ⟨hc, h⟩ := xifT h
  cases h
  exact Rn.retT 1 (c := s0 = 0 ∨ s0 = 1) (o := ((some (.int s0)), 94, (I, J, xrf))) (fun f => rfl) hc hC
theorem p_X12_isDigit_3 {L : Nat} {xs : Nat → Int32} {d : Nat} {Q : xO → Prop} (x0 : Int32) (I : xI) (J : xJ) {t : Int32 × xI × xJ} (h : f_X12_isDigit_3 x0 I J = some t) (hC : (c_X12_isDigit Q) t) : Rn L xs (d + 1) 187 16 [some (.int x0)] [] 94 (I, J, xrf) Q := by
  unfold f_X12_isDigit_3 at h
  refine Rn.go 1 (j' := 187) (pc' := 17) (ls' := [some (.int x0)]) (st' := [.int 0]) (n' := 94) (M' := (I, J, xrf)) (fun f => rfl) ?_
  exact p_X12_isDigit_4 x0 0 I J h hC
theorem p_X12_isDigit_2 {L : Nat} {xs : Nat → Int32} {d : Nat} {Q : xO → Prop} (x0 : Int32) (I : xI) (J : xJ) {t : Int32 × xI × xJ} (h : f_X12_isDigit_2 x0 I J = some t) (hC : (c_X12_isDigit Q) t) : Rn L xs (d + 1) 187 12 [some (.int x0)] [] 94 (I, J, xrf) Q := by
  unfold f_X12_isDigit_2 at h
  refine Rn.go 2 (j' := 187) (pc' := 17) (ls' := [some (.int x0)]) (st' := [.int 1]) (n' := 94) (M' := (I, J, xrf)) (fun f => rfl) ?_
  exact p_X12_isDigit_4 x0 1 I J h hC
theorem p_X12_isDigit_1 {L : Nat} {xs : Nat → Int32} {d : Nat} {Q : xO → Prop} (x0 : Int32) (I : xI) (J : xJ) {t : Int32 × xI × xJ} (h : f_X12_isDigit_1 x0 I J = some t) (hC : (c_X12_isDigit Q) t) : Rn L xs (d + 1) 187 6 [some (.int x0)] [] 94 (I, J, xrf) Q := by
  unfold f_X12_isDigit_1 at h
  refine Rn.fi 3 (c := 57 < x0) (p1 := 16) (l1 := [some (.int x0)]) (s1 := []) (n1 := 94) (M1 := (I, J, xrf)) (p2 := 12) (l2 := [some (.int x0)]) (s2 := []) (n2 := 94) (M2 := (I, J, xrf)) (fun f => rfl) (fun hc => ?_) (fun hc => ?_)
  · rw [if_pos hc] at h
    exact p_X12_isDigit_3 x0 I J h hC
  · rw [if_neg hc] at h
    exact p_X12_isDigit_2 x0 I J h hC
theorem p_X12_isDigit_0 {L : Nat} {xs : Nat → Int32} {d : Nat} {Q : xO → Prop} (x0 : Int32) (I : xI) (J : xJ) {t : Int32 × xI × xJ} (h : f_X12_isDigit_0 x0 I J = some t) (hC : (c_X12_isDigit Q) t) : Rn L xs (d + 1) 187 0 [some (.int x0)] [] 94 (I, J, xrf) Q := by
  unfold f_X12_isDigit_0 at h
  refine Rn.fi 3 (c := x0 < 48) (p1 := 16) (l1 := [some (.int x0)]) (s1 := []) (n1 := 94) (M1 := (I, J, xrf)) (p2 := 6) (l2 := [some (.int x0)]) (s2 := []) (n2 := 94) (M2 := (I, J, xrf)) (fun f => rfl) (fun hc => ?_) (fun hc => ?_)
  · rw [if_pos hc] at h
    exact p_X12_isDigit_3 x0 I J h hC
  · rw [if_neg hc] at h
    exact p_X12_isDigit_1 x0 I J h hC
theorem p_X12_isDigit {L : Nat} {xs : Nat → Int32} {d : Nat} {Q : xO → Prop} (x0 : Int32) (I : xI) (J : xJ) {t : Int32 × xI × xJ} (h : f_X12_isDigit x0 I J = some t) (hC : Q ((some (.int t.1)), 94, (t.2.1, t.2.2, xrf))) : Rn L xs (d + 1) 187 0 [some (.int x0)] [] 94 (I, J, xrf) Q := p_X12_isDigit_0 x0 I J h hC
/-! X12_sign -/
def c_X12_sign (Q : xO → Prop) (t : Int32 × xI × xJ) : Prop := Q ((some (.int t.1)), 94, (t.2.1, t.2.2, xrf))
def f_X12_sign_4 (x1 : Int32) (x2 : Int32) (x3 : Int32) (I : xI) (J : xJ) : Option (Int32 × xI × xJ) := some (1, I, J)
def f_X12_sign_3 (x1 : Int32) (x2 : Int32) (x3 : Int32) (s1 : Int32) (I : xI) (J : xJ) : Option (Int32 × xI × xJ) := (f_X12_token s1 x1 0 0 I J).bind fun o => f_X12_sign_4 x1 x2 x3 o.2.1 o.2.2
def f_X12_sign_2 (x1 : Int32) (x2 : Int32) (x3 : Int32) (I : xI) (J : xJ) : Option (Int32 × xI × xJ) := f_X12_sign_3 x1 x2 x3 3 I J
def f_X12_sign_1 (x1 : Int32) (x2 : Int32) (x3 : Int32) (I : xI) (J : xJ) : Option (Int32 × xI × xJ) := f_X12_sign_3 x1 x2 x3 4 I J
def f_X12_sign_0 (x1 : Int32) (x2 : Int32) (x3 : Int32) (I : xI) (J : xJ) : Option (Int32 × xI × xJ) := if x2 = 59 then f_X12_sign_1 x1 x2 x3 I J else f_X12_sign_2 x1 x2 x3 I J
def f_X12_sign (x1 : Int32) (x2 : Int32) (x3 : Int32) (I : xI) (J : xJ) : Option (Int32 × xI × xJ) := f_X12_sign_0 x1 x2 x3 I J
theorem p_X12_sign_4 {L : Nat} {xs : Nat → Int32} {d : Nat} {Q : xO → Prop} (x1 : Int32) (x2 : Int32) (x3 : Int32) (I : xI) (J : xJ) {t : Int32 × xI × xJ} (h : f_X12_sign_4 x1 x2 x3 I J = some t) (hC : (c_X12_sign Q) t) : Rn L xs (d + 2) 193 18 [some (.ref 61), some (.int x1), some (.int x2), some (.int x3)] [] 94 (I, J, xrf) Q := by
  unfold f_X12_sign_4 at h
  cases h
  exact Rn.ret 2 (o := ((some (.int 1)), 94, (I, J, xrf))) (fun f => rfl) hC
theorem p_X12_sign_3 {L : Nat} {xs : Nat → Int32} {d : Nat} {Q : xO → Prop} (x1 : Int32) (x2 : Int32) (x3 : Int32) (s1 : Int32) (I : xI) (J : xJ) {t : Int32 × xI × xJ} (h : f_X12_sign_3 x1 x2 x3 s1 I J = some t) (hC : (c_X12_sign Q) t) : Rn L xs (d + 2) 193 12 [some (.ref 61), some (.int x1), some (.int x2), some (.int x3)] [.int s1, .ref 61] 94 (I, J, xrf) Q := by
  unfold f_X12_sign_3 at h
  refine Rn.go 3 (j' := 193) (pc' := 15) (ls' := [some (.ref 61), some (.int x1), some (.int x2), some (.int x3)]) (st' := [.long 0, .int 0, .int x1, .int s1, .ref 61]) (n' := 94) (M' := (I, J, xrf)) (fun f => rfl) ?_
  obtain ⟨o, ho, h⟩ := Option.bind_eq_some_iff.mp h
  refine Rn.call (d1 := d + 1) (j1 := 191) (ls1 := [some (.ref 61), some (.int s1), some (.int x1), some (.int 0), some (.long 0), none]) (rest := []) (fun f => rfl) ?_
  refine p_X12_token (d := d + 0) s1 x1 0 0 I J (t := o) ho ?_
  exact p_X12_sign_4 x1 x2 x3 o.2.1 o.2.2 h hC
theorem p_X12_sign_2 {L : Nat} {xs : Nat → Int32} {d : Nat} {Q : xO → Prop} (x1 : Int32) (x2 : Int32) (x3 : Int32) (I : xI) (J : xJ) {t : Int32 × xI × xJ} (h : f_X12_sign_2 x1 x2 x3 I J = some t) (hC : (c_X12_sign Q) t) : Rn L xs (d + 2) 193 11 [some (.ref 61), some (.int x1), some (.int x2), some (.int x3)] [.ref 61] 94 (I, J, xrf) Q := by
  unfold f_X12_sign_2 at h
  refine Rn.go 1 (j' := 193) (pc' := 12) (ls' := [some (.ref 61), some (.int x1), some (.int x2), some (.int x3)]) (st' := [.int 3, .ref 61]) (n' := 94) (M' := (I, J, xrf)) (fun f => rfl) ?_
  exact p_X12_sign_3 x1 x2 x3 3 I J h hC
theorem p_X12_sign_1 {L : Nat} {xs : Nat → Int32} {d : Nat} {Q : xO → Prop} (x1 : Int32) (x2 : Int32) (x3 : Int32) (I : xI) (J : xJ) {t : Int32 × xI × xJ} (h : f_X12_sign_1 x1 x2 x3 I J = some t) (hC : (c_X12_sign Q) t) : Rn L xs (d + 2) 193 7 [some (.ref 61), some (.int x1), some (.int x2), some (.int x3)] [.ref 61] 94 (I, J, xrf) Q := by
  unfold f_X12_sign_1 at h
  refine Rn.go 2 (j' := 193) (pc' := 12) (ls' := [some (.ref 61), some (.int x1), some (.int x2), some (.int x3)]) (st' := [.int 4, .ref 61]) (n' := 94) (M' := (I, J, xrf)) (fun f => rfl) ?_
  exact p_X12_sign_3 x1 x2 x3 4 I J h hC
theorem p_X12_sign_0 {L : Nat} {xs : Nat → Int32} {d : Nat} {Q : xO → Prop} (x1 : Int32) (x2 : Int32) (x3 : Int32) (I : xI) (J : xJ) {t : Int32 × xI × xJ} (h : f_X12_sign_0 x1 x2 x3 I J = some t) (hC : (c_X12_sign Q) t) : Rn L xs (d + 2) 193 0 [some (.ref 61), some (.int x1), some (.int x2), some (.int x3)] [] 94 (I, J, xrf) Q := by
  unfold f_X12_sign_0 at h
  refine Rn.fi 4 (c := x2 = 59) (p1 := 7) (l1 := [some (.ref 61), some (.int x1), some (.int x2), some (.int x3)]) (s1 := [.ref 61]) (n1 := 94) (M1 := (I, J, xrf)) (p2 := 11) (l2 := [some (.ref 61), some (.int x1), some (.int x2), some (.int x3)]) (s2 := [.ref 61]) (n2 := 94) (M2 := (I, J, xrf)) (fun f => rfl) (fun hc => ?_) (fun hc => ?_)
  · rw [if_pos hc] at h
    exact p_X12_sign_1 x1 x2 x3 I J h hC
  · rw [if_neg hc] at h
    exact p_X12_sign_2 x1 x2 x3 I J h hC
theorem p_X12_sign {L : Nat} {xs : Nat → Int32} {d : Nat} {Q : xO → Prop} (x1 : Int32) (x2 : Int32) (x3 : Int32) (I : xI) (J : xJ) {t : Int32 × xI × xJ} (h : f_X12_sign x1 x2 x3 I J = some t) (hC : Q ((some (.int t.1)), 94, (t.2.1, t.2.2, xrf))) : Rn L xs (d + 2) 193 0 [some (.ref 61), some (.int x1), some (.int x2), some (.int x3)] [] 94 (I, J, xrf) Q := p_X12_sign_0 x1 x2 x3 I J h hC
/-! X12_parts -/
def c_X12_parts (Q : xO → Prop) (t : Unit × xI × xJ) : Prop := Q (none, 94, (t.2.1, t.2.2, xrf))
def c_X12_parts_1 (L : Nat) (xs : Nat → Int32) (d : Nat) (Q : xO → Prop) (t : (Int32 × (Option Value) × (Option Value) × (Option Value) × (Option Value) × (Option Value) × xI × xJ) ⊕ (Unit × xI × xJ)) : Prop := match t with
  | .inl s => Rn L xs (d + 3) 192 7 [some (.ref 61), some (.int s.1), s.2.1, s.2.2.1, s.2.2.2.1, none, s.2.2.2.2.1, s.2.2.2.2.2.1] [] 94 (s.2.2.2.2.2.2.1, s.2.2.2.2.2.2.2, xrf) Q
  | .inr t => (c_X12_parts Q) t
def c_X12_parts_14 (L : Nat) (xs : Nat → Int32) (d : Nat) (Q : xO → Prop) (t : (Int32 × Int32 × Int32 × Int64 × (Option Value) × (Option Value) × xI × xJ) ⊕ ((Int32 × (Option Value) × (Option Value) × (Option Value) × (Option Value) × (Option Value) × xI × xJ) ⊕ (Unit × xI × xJ))) : Prop := match t with
  | .inl s => Rn L xs (d + 3) 192 85 [some (.ref 61), some (.int s.1), some (.int s.2.1), some (.int s.2.2.1), some (.long s.2.2.2.1), none, s.2.2.2.2.1, s.2.2.2.2.2.1] [] 94 (s.2.2.2.2.2.2.1, s.2.2.2.2.2.2.2, xrf) Q
  | .inr t => (c_X12_parts_1 L xs d Q) t
def c_X12_parts_36 (L : Nat) (xs : Nat → Int32) (d : Nat) (Q : xO → Prop) (t : (Int32 × Int32 × Int32 × Int32 × (Option Value) × (Option Value) × xI × xJ) ⊕ ((Int32 × (Option Value) × (Option Value) × (Option Value) × (Option Value) × (Option Value) × xI × xJ) ⊕ (Unit × xI × xJ))) : Prop := match t with
  | .inl s => Rn L xs (d + 3) 192 207 [some (.ref 61), some (.int s.1), some (.int s.2.1), some (.int s.2.2.1), some (.int s.2.2.2.1), none, s.2.2.2.2.1, s.2.2.2.2.2.1] [] 94 (s.2.2.2.2.2.2.1, s.2.2.2.2.2.2.2, xrf) Q
  | .inr t => (c_X12_parts_1 L xs d Q) t
def c_X12_parts_27 (L : Nat) (xs : Nat → Int32) (d : Nat) (Q : xO → Prop) (t : (Int32 × Int32 × Int32 × Int64 × Int32 × Int32 × xI × xJ) ⊕ ((Int32 × (Option Value) × (Option Value) × (Option Value) × (Option Value) × (Option Value) × xI × xJ) ⊕ (Unit × xI × xJ))) : Prop := match t with
  | .inl s => Rn L xs (d + 3) 192 146 [some (.ref 61), some (.int s.1), some (.int s.2.1), some (.int s.2.2.1), some (.long s.2.2.2.1), none, some (.int s.2.2.2.2.1), some (.int s.2.2.2.2.2.1)] [] 94 (s.2.2.2.2.2.2.1, s.2.2.2.2.2.2.2, xrf) Q
  | .inr t => (c_X12_parts_1 L xs d Q) t
def f_X12_parts_52 (x1 : Int32) (z2 : Option Value) (z3 : Option Value) (z4 : Option Value) (z6 : Option Value) (z7 : Option Value) (I : xI) (J : xJ) : Option (Unit × xI × xJ) := some ((), I, J)
def f_X12_parts_51 (x1 : Int32) (x2 : Int32) (z3 : Option Value) (z4 : Option Value) (z6 : Option Value) (z7 : Option Value) (I : xI) (J : xJ) : Option ((Int32 × (Option Value) × (Option Value) × (Option Value) × (Option Value) × (Option Value) × xI × xJ) ⊕ (Unit × xI × xJ)) := some (.inl (x1, (some (.int x2)), z3, z4, z6, z7, I, J))
def f_X12_parts_10 (x1 : Int32) (x2 : Int32) (z3 : Option Value) (z4 : Option Value) (z6 : Option Value) (z7 : Option Value) (I : xI) (J : xJ) : Option ((Int32 × (Option Value) × (Option Value) × (Option Value) × (Option Value) × (Option Value) × xI × xJ) ⊕ (Unit × xI × xJ)) := f_X12_parts_51 ((x1 + 1)) x2 z3 z4 z6 z7 I J
def f_X12_parts_50 (x1 : Int32) (x2 : Int32) (z3 : Option Value) (z4 : Option Value) (z6 : Option Value) (z7 : Option Value) (s0 : Int32) (s1 : Int32) (I : xI) (J : xJ) : Option ((Int32 × (Option Value) × (Option Value) × (Option Value) × (Option Value) × (Option Value) × xI × xJ) ⊕ (Unit × xI × xJ)) := f_X12_parts_51 ((s0 + s1)) x2 z3 z4 z6 z7 I J
def f_X12_parts_49 (x1 : Int32) (x2 : Int32) (z3 : Option Value) (z4 : Option Value) (z6 : Option Value) (z7 : Option Value) (s0 : Int32) (s2 : Int32) (s3 : Int32) (s4 : Int32) (I : xI) (J : xJ) : Option ((Int32 × (Option Value) × (Option Value) × (Option Value) × (Option Value) × (Option Value) × xI × xJ) ⊕ (Unit × xI × xJ)) := (f_X12_sign s2 s3 s4 I J).bind fun o => f_X12_parts_50 x1 x2 z3 z4 z6 z7 s0 o.1 o.2.1 o.2.2
def f_X12_parts_48 (x1 : Int32) (x2 : Int32) (z3 : Option Value) (z4 : Option Value) (z6 : Option Value) (z7 : Option Value) (I : xI) (J : xJ) : Option ((Int32 × (Option Value) × (Option Value) × (Option Value) × (Option Value) × (Option Value) × xI × xJ) ⊕ (Unit × xI × xJ)) := (f_X12_byteAt ((x1 + 1)) I J).bind fun o => f_X12_parts_49 x1 x2 z3 z4 z6 z7 x1 x1 x2 o.1 o.2.1 o.2.2
def f_X12_parts_47 (x1 : Int32) (x2 : Int32) (x3 : Int32) (x4 : Int32) (z6 : Option Value) (z7 : Option Value) (I : xI) (J : xJ) : Option ((Int32 × (Option Value) × (Option Value) × (Option Value) × (Option Value) × (Option Value) × xI × xJ) ⊕ (Unit × xI × xJ)) := f_X12_parts_51 ((x1 + x3)) x2 (some (.int x3)) (some (.int x4)) z6 z7 I J
def f_X12_parts_46 (x1 : Int32) (x2 : Int32) (x3 : Int32) (x4 : Int32) (z6 : Option Value) (z7 : Option Value) (s1 : Int32) (I : xI) (J : xJ) : Option ((Int32 × (Option Value) × (Option Value) × (Option Value) × (Option Value) × (Option Value) × xI × xJ) ⊕ (Unit × xI × xJ)) := (f_X12_token s1 x1 x4 0 I J).bind fun o => f_X12_parts_47 x1 x2 x3 x4 z6 z7 o.2.1 o.2.2
def f_X12_parts_45 (x1 : Int32) (x2 : Int32) (x3 : Int32) (x4 : Int32) (z6 : Option Value) (z7 : Option Value) (I : xI) (J : xJ) : Option ((Int32 × (Option Value) × (Option Value) × (Option Value) × (Option Value) × (Option Value) × xI × xJ) ⊕ (Unit × xI × xJ)) := f_X12_parts_46 x1 x2 x3 x4 z6 z7 2 I J
def f_X12_parts_44 (x1 : Int32) (x2 : Int32) (x3 : Int32) (x4 : Int32) (z6 : Option Value) (z7 : Option Value) (I : xI) (J : xJ) : Option ((Int32 × (Option Value) × (Option Value) × (Option Value) × (Option Value) × (Option Value) × xI × xJ) ⊕ (Unit × xI × xJ)) := f_X12_parts_46 x1 x2 x3 x4 z6 z7 3 I J
def f_X12_parts_43 (x1 : Int32) (x2 : Int32) (x3 : Int32) (x4 : Int32) (z6 : Option Value) (z7 : Option Value) (I : xI) (J : xJ) : Option ((Int32 × (Option Value) × (Option Value) × (Option Value) × (Option Value) × (Option Value) × xI × xJ) ⊕ (Unit × xI × xJ)) := if x3 ≤ 4 then f_X12_parts_45 x1 x2 x3 x4 z6 z7 I J else f_X12_parts_44 x1 x2 x3 x4 z6 z7 I J
def f_X12_parts_42 (x1 : Int32) (x2 : Int32) (x3 : Int32) (x4 : Int32) (z6 : Option Value) (z7 : Option Value) (I : xI) (J : xJ) : Option ((Int32 × Int32 × Int32 × Int32 × (Option Value) × (Option Value) × xI × xJ) ⊕ ((Int32 × (Option Value) × (Option Value) × (Option Value) × (Option Value) × (Option Value) × xI × xJ) ⊕ (Unit × xI × xJ))) := some (.inl (x1, x2, ((x3 + 1)), x4, z6, z7, I, J))
def f_X12_parts_41 (x1 : Int32) (x2 : Int32) (x3 : Int32) (x4 : Int32) (z6 : Option Value) (z7 : Option Value) (s0 : Int32) (s1 : Int32) (I : xI) (J : xJ) : Option ((Int32 × Int32 × Int32 × Int32 × (Option Value) × (Option Value) × xI × xJ) ⊕ ((Int32 × (Option Value) × (Option Value) × (Option Value) × (Option Value) × (Option Value) × xI × xJ) ⊕ (Unit × xI × xJ))) := f_X12_parts_42 x1 x2 x3 (((s0 + s1) - 48)) z6 z7 I J
def f_X12_parts_40 (x1 : Int32) (x2 : Int32) (x3 : Int32) (x4 : Int32) (z6 : Option Value) (z7 : Option Value) (I : xI) (J : xJ) : Option ((Int32 × Int32 × Int32 × Int32 × (Option Value) × (Option Value) × xI × xJ) ⊕ ((Int32 × (Option Value) × (Option Value) × (Option Value) × (Option Value) × (Option Value) × xI × xJ) ⊕ (Unit × xI × xJ))) := (f_X12_byteAt ((x1 + x3)) I J).bind fun o => f_X12_parts_41 x1 x2 x3 x4 z6 z7 ((10 * x4)) o.1 o.2.1 o.2.2
def f_X12_parts_39 (x1 : Int32) (x2 : Int32) (x3 : Int32) (x4 : Int32) (z6 : Option Value) (z7 : Option Value) (I : xI) (J : xJ) : Option ((Int32 × Int32 × Int32 × Int32 × (Option Value) × (Option Value) × xI × xJ) ⊕ ((Int32 × (Option Value) × (Option Value) × (Option Value) × (Option Value) × (Option Value) × xI × xJ) ⊕ (Unit × xI × xJ))) := if 4 ≤ x3 then f_X12_parts_42 x1 x2 x3 x4 z6 z7 I J else f_X12_parts_40 x1 x2 x3 x4 z6 z7 I J
def f_X12_parts_38 (x1 : Int32) (x2 : Int32) (x3 : Int32) (x4 : Int32) (z6 : Option Value) (z7 : Option Value) (s0 : Int32) (I : xI) (J : xJ) : Option ((Int32 × Int32 × Int32 × Int32 × (Option Value) × (Option Value) × xI × xJ) ⊕ ((Int32 × (Option Value) × (Option Value) × (Option Value) × (Option Value) × (Option Value) × xI × xJ) ⊕ (Unit × xI × xJ))) := if s0 = 0 then ((f_X12_parts_43 x1 x2 x3 x4 z6 z7 I J)).map .inr else f_X12_parts_39 x1 x2 x3 x4 z6 z7 I J
def f_X12_parts_37 (x1 : Int32) (x2 : Int32) (x3 : Int32) (x4 : Int32) (z6 : Option Value) (z7 : Option Value) (s0 : Int32) (I : xI) (J : xJ) : Option ((Int32 × Int32 × Int32 × Int32 × (Option Value) × (Option Value) × xI × xJ) ⊕ ((Int32 × (Option Value) × (Option Value) × (Option Value) × (Option Value) × (Option Value) × xI × xJ) ⊕ (Unit × xI × xJ))) := (f_X12_isDigit s0 I J).bind fun o => f_X12_parts_38 x1 x2 x3 x4 z6 z7 o.1 o.2.1 o.2.2
def b_X12_parts_36 (x1 : Int32) (x2 : Int32) (x3 : Int32) (x4 : Int32) (z6 : Option Value) (z7 : Option Value) (I : xI) (J : xJ) : Option ((Int32 × Int32 × Int32 × Int32 × (Option Value) × (Option Value) × xI × xJ) ⊕ ((Int32 × (Option Value) × (Option Value) × (Option Value) × (Option Value) × (Option Value) × xI × xJ) ⊕ (Unit × xI × xJ))) := (f_X12_byteAt ((x1 + x3)) I J).bind fun o => f_X12_parts_37 x1 x2 x3 x4 z6 z7 o.1 o.2.1 o.2.2
def f_X12_parts_36 (x1 : Int32) (x2 : Int32) (x3 : Int32) (x4 : Int32) (z6 : Option Value) (z7 : Option Value) (I : xI) (J : xJ) : Option ((Int32 × (Option Value) × (Option Value) × (Option Value) × (Option Value) × (Option Value) × xI × xJ) ⊕ (Unit × xI × xJ)) := xloop (fun s : Int32 × Int32 × Int32 × Int32 × (Option Value) × (Option Value) × xI × xJ => b_X12_parts_36 s.1 s.2.1 s.2.2.1 s.2.2.2.1 s.2.2.2.2.1 s.2.2.2.2.2.1 s.2.2.2.2.2.2.1 s.2.2.2.2.2.2.2) 5000 (x1, x2, x3, x4, z6, z7, I, J)
def f_X12_parts_35 (x1 : Int32) (x2 : Int32) (z3 : Option Value) (z4 : Option Value) (z6 : Option Value) (z7 : Option Value) (I : xI) (J : xJ) : Option ((Int32 × (Option Value) × (Option Value) × (Option Value) × (Option Value) × (Option Value) × xI × xJ) ⊕ (Unit × xI × xJ)) := f_X12_parts_36 x1 x2 0 0 z6 z7 I J
def f_X12_parts_34 (x1 : Int32) (x2 : Int32) (z3 : Option Value) (z4 : Option Value) (z6 : Option Value) (z7 : Option Value) (s0 : Int32) (I : xI) (J : xJ) : Option ((Int32 × (Option Value) × (Option Value) × (Option Value) × (Option Value) × (Option Value) × xI × xJ) ⊕ (Unit × xI × xJ)) := if s0 = 0 then f_X12_parts_48 x1 x2 z3 z4 z6 z7 I J else f_X12_parts_35 x1 x2 z3 z4 z6 z7 I J
def f_X12_parts_33 (x1 : Int32) (x2 : Int32) (z3 : Option Value) (z4 : Option Value) (z6 : Option Value) (z7 : Option Value) (I : xI) (J : xJ) : Option ((Int32 × (Option Value) × (Option Value) × (Option Value) × (Option Value) × (Option Value) × xI × xJ) ⊕ (Unit × xI × xJ)) := (f_X12_isDigit x2 I J).bind fun o => f_X12_parts_34 x1 x2 z3 z4 z6 z7 o.1 o.2.1 o.2.2
def f_X12_parts_32 (x1 : Int32) (x2 : Int32) (x3 : Int32) (y4 : Int64) (x6 : Int32) (z7 : Option Value) (I : xI) (J : xJ) : Option ((Int32 × (Option Value) × (Option Value) × (Option Value) × (Option Value) × (Option Value) × xI × xJ) ⊕ (Unit × xI × xJ)) := f_X12_parts_51 ((x1 + x3)) x2 (some (.int x3)) (some (.long y4)) (some (.int x6)) z7 I J
def f_X12_parts_31 (x1 : Int32) (x2 : Int32) (x3 : Int32) (y4 : Int64) (x6 : Int32) (z7 : Option Value) (I : xI) (J : xJ) : Option ((Int32 × (Option Value) × (Option Value) × (Option Value) × (Option Value) × (Option Value) × xI × xJ) ⊕ (Unit × xI × xJ)) := (f_X12_token x6 x1 0 y4 I J).bind fun o => f_X12_parts_32 x1 x2 x3 y4 x6 z7 o.2.1 o.2.2
def f_X12_parts_30 (x1 : Int32) (x2 : Int32) (x3 : Int32) (y4 : Int64) (x6 : Int32) (x7 : Int32) (I : xI) (J : xJ) : Option ((Int32 × Int32 × Int32 × Int64 × Int32 × Int32 × xI × xJ) ⊕ ((Int32 × (Option Value) × (Option Value) × (Option Value) × (Option Value) × (Option Value) × xI × xJ) ⊕ (Unit × xI × xJ))) := some (.inl (x1, x2, x3, y4, x6, ((x7 + 1)), I, J))
def f_X12_parts_29 (x1 : Int32) (x2 : Int32) (x3 : Int32) (y4 : Int64) (x6 : Int32) (x7 : Int32) (I : xI) (J : xJ) : Option ((Int32 × Int32 × Int32 × Int64 × Int32 × Int32 × xI × xJ) ⊕ ((Int32 × (Option Value) × (Option Value) × (Option Value) × (Option Value) × (Option Value) × xI × xJ) ⊕ (Unit × xI × xJ))) := f_X12_parts_30 x1 x2 x3 y4 ((20 + x7)) x7 I J
def f_X12_parts_28 (x1 : Int32) (x2 : Int32) (x3 : Int32) (y4 : Int64) (x6 : Int32) (x7 : Int32) (I : xI) (J : xJ) : Option ((Int32 × Int32 × Int32 × Int64 × Int32 × Int32 × xI × xJ) ⊕ ((Int32 × (Option Value) × (Option Value) × (Option Value) × (Option Value) × (Option Value) × xI × xJ) ⊕ (Unit × xI × xJ))) := if x7 < 0 ∨ 5 ≤ x7.toNatClampNeg then none else if (lg_cmp ((J 68 x7.toNatClampNeg)) y4) = 0 then f_X12_parts_29 x1 x2 x3 y4 x6 x7 I J else f_X12_parts_30 x1 x2 x3 y4 x6 x7 I J
def b_X12_parts_27 (x1 : Int32) (x2 : Int32) (x3 : Int32) (y4 : Int64) (x6 : Int32) (x7 : Int32) (I : xI) (J : xJ) : Option ((Int32 × Int32 × Int32 × Int64 × Int32 × Int32 × xI × xJ) ⊕ ((Int32 × (Option Value) × (Option Value) × (Option Value) × (Option Value) × (Option Value) × xI × xJ) ⊕ (Unit × xI × xJ))) := if 5 ≤ x7 then ((f_X12_parts_31 x1 x2 x3 y4 x6 (some (.int x7)) I J)).map .inr else f_X12_parts_28 x1 x2 x3 y4 x6 x7 I J
def f_X12_parts_27 (x1 : Int32) (x2 : Int32) (x3 : Int32) (y4 : Int64) (x6 : Int32) (x7 : Int32) (I : xI) (J : xJ) : Option ((Int32 × (Option Value) × (Option Value) × (Option Value) × (Option Value) × (Option Value) × xI × xJ) ⊕ (Unit × xI × xJ)) := xloop (fun s : Int32 × Int32 × Int32 × Int64 × Int32 × Int32 × xI × xJ => b_X12_parts_27 s.1 s.2.1 s.2.2.1 s.2.2.2.1 s.2.2.2.2.1 s.2.2.2.2.2.1 s.2.2.2.2.2.2.1 s.2.2.2.2.2.2.2) 5000 (x1, x2, x3, y4, x6, x7, I, J)
def f_X12_parts_26 (x1 : Int32) (x2 : Int32) (x3 : Int32) (y4 : Int64) (x6 : Int32) (z7 : Option Value) (I : xI) (J : xJ) : Option ((Int32 × (Option Value) × (Option Value) × (Option Value) × (Option Value) × (Option Value) × xI × xJ) ⊕ (Unit × xI × xJ)) := f_X12_parts_27 x1 x2 x3 y4 x6 0 I J
def f_X12_parts_25 (x1 : Int32) (x2 : Int32) (x3 : Int32) (y4 : Int64) (z6 : Option Value) (z7 : Option Value) (s0 : Int32) (I : xI) (J : xJ) : Option ((Int32 × (Option Value) × (Option Value) × (Option Value) × (Option Value) × (Option Value) × xI × xJ) ⊕ (Unit × xI × xJ)) := if 8 < x3 then f_X12_parts_31 x1 x2 x3 y4 s0 z7 I J else f_X12_parts_26 x1 x2 x3 y4 s0 z7 I J
def f_X12_parts_24 (x1 : Int32) (x2 : Int32) (x3 : Int32) (y4 : Int64) (z6 : Option Value) (z7 : Option Value) (I : xI) (J : xJ) : Option ((Int32 × (Option Value) × (Option Value) × (Option Value) × (Option Value) × (Option Value) × xI × xJ) ⊕ (Unit × xI × xJ)) := f_X12_parts_25 x1 x2 x3 y4 z6 z7 1 I J
def f_X12_parts_23 (x1 : Int32) (x2 : Int32) (x3 : Int32) (y4 : Int64) (z6 : Option Value) (z7 : Option Value) (I : xI) (J : xJ) : Option ((Int32 × (Option Value) × (Option Value) × (Option Value) × (Option Value) × (Option Value) × xI × xJ) ⊕ (Unit × xI × xJ)) := f_X12_parts_25 x1 x2 x3 y4 z6 z7 3 I J
def f_X12_parts_22 (x1 : Int32) (x2 : Int32) (x3 : Int32) (y4 : Int64) (z6 : Option Value) (z7 : Option Value) (I : xI) (J : xJ) : Option ((Int32 × (Option Value) × (Option Value) × (Option Value) × (Option Value) × (Option Value) × xI × xJ) ⊕ (Unit × xI × xJ)) := if x3 ≤ 8 then f_X12_parts_24 x1 x2 x3 y4 z6 z7 I J else f_X12_parts_23 x1 x2 x3 y4 z6 z7 I J
def f_X12_parts_21 (x1 : Int32) (x2 : Int32) (x3 : Int32) (y4 : Int64) (z6 : Option Value) (z7 : Option Value) (I : xI) (J : xJ) : Option ((Int32 × Int32 × Int32 × Int64 × (Option Value) × (Option Value) × xI × xJ) ⊕ ((Int32 × (Option Value) × (Option Value) × (Option Value) × (Option Value) × (Option Value) × xI × xJ) ⊕ (Unit × xI × xJ))) := some (.inl (x1, x2, ((x3 + 1)), y4, z6, z7, I, J))
def f_X12_parts_20 (x1 : Int32) (x2 : Int32) (x3 : Int32) (y4 : Int64) (z6 : Option Value) (z7 : Option Value) (t0 : Int64) (I : xI) (J : xJ) : Option ((Int32 × Int32 × Int32 × Int64 × (Option Value) × (Option Value) × xI × xJ) ⊕ ((Int32 × (Option Value) × (Option Value) × (Option Value) × (Option Value) × (Option Value) × xI × xJ) ⊕ (Unit × xI × xJ))) := f_X12_parts_21 x1 x2 x3 t0 z6 z7 I J
def f_X12_parts_19 (x1 : Int32) (x2 : Int32) (x3 : Int32) (y4 : Int64) (z6 : Option Value) (z7 : Option Value) (t0 : Int64) (s1 : Int32) (I : xI) (J : xJ) : Option ((Int32 × Int32 × Int32 × Int64 × (Option Value) × (Option Value) × xI × xJ) ⊕ ((Int32 × (Option Value) × (Option Value) × (Option Value) × (Option Value) × (Option Value) × xI × xJ) ⊕ (Unit × xI × xJ))) := (f_X12_appends t0 s1 I J).bind fun o => f_X12_parts_20 x1 x2 x3 y4 z6 z7 o.1 o.2.1 o.2.2
def f_X12_parts_18 (x1 : Int32) (x2 : Int32) (x3 : Int32) (y4 : Int64) (z6 : Option Value) (z7 : Option Value) (I : xI) (J : xJ) : Option ((Int32 × Int32 × Int32 × Int64 × (Option Value) × (Option Value) × xI × xJ) ⊕ ((Int32 × (Option Value) × (Option Value) × (Option Value) × (Option Value) × (Option Value) × xI × xJ) ⊕ (Unit × xI × xJ))) := (f_X12_byteAt ((x1 + x3)) I J).bind fun o => f_X12_parts_19 x1 x2 x3 y4 z6 z7 y4 o.1 o.2.1 o.2.2
def f_X12_parts_17 (x1 : Int32) (x2 : Int32) (x3 : Int32) (y4 : Int64) (z6 : Option Value) (z7 : Option Value) (I : xI) (J : xJ) : Option ((Int32 × Int32 × Int32 × Int64 × (Option Value) × (Option Value) × xI × xJ) ⊕ ((Int32 × (Option Value) × (Option Value) × (Option Value) × (Option Value) × (Option Value) × xI × xJ) ⊕ (Unit × xI × xJ))) := if 8 ≤ x3 then f_X12_parts_21 x1 x2 x3 y4 z6 z7 I J else f_X12_parts_18 x1 x2 x3 y4 z6 z7 I J
def f_X12_parts_16 (x1 : Int32) (x2 : Int32) (x3 : Int32) (y4 : Int64) (z6 : Option Value) (z7 : Option Value) (s0 : Int32) (I : xI) (J : xJ) : Option ((Int32 × Int32 × Int32 × Int64 × (Option Value) × (Option Value) × xI × xJ) ⊕ ((Int32 × (Option Value) × (Option Value) × (Option Value) × (Option Value) × (Option Value) × xI × xJ) ⊕ (Unit × xI × xJ))) := if s0 = 0 then ((f_X12_parts_22 x1 x2 x3 y4 z6 z7 I J)).map .inr else f_X12_parts_17 x1 x2 x3 y4 z6 z7 I J
def f_X12_parts_15 (x1 : Int32) (x2 : Int32) (x3 : Int32) (y4 : Int64) (z6 : Option Value) (z7 : Option Value) (s0 : Int32) (I : xI) (J : xJ) : Option ((Int32 × Int32 × Int32 × Int64 × (Option Value) × (Option Value) × xI × xJ) ⊕ ((Int32 × (Option Value) × (Option Value) × (Option Value) × (Option Value) × (Option Value) × xI × xJ) ⊕ (Unit × xI × xJ))) := (f_X12_isLetter s0 I J).bind fun o => f_X12_parts_16 x1 x2 x3 y4 z6 z7 o.1 o.2.1 o.2.2
def b_X12_parts_14 (x1 : Int32) (x2 : Int32) (x3 : Int32) (y4 : Int64) (z6 : Option Value) (z7 : Option Value) (I : xI) (J : xJ) : Option ((Int32 × Int32 × Int32 × Int64 × (Option Value) × (Option Value) × xI × xJ) ⊕ ((Int32 × (Option Value) × (Option Value) × (Option Value) × (Option Value) × (Option Value) × xI × xJ) ⊕ (Unit × xI × xJ))) := (f_X12_byteAt ((x1 + x3)) I J).bind fun o => f_X12_parts_15 x1 x2 x3 y4 z6 z7 o.1 o.2.1 o.2.2
def f_X12_parts_14 (x1 : Int32) (x2 : Int32) (x3 : Int32) (y4 : Int64) (z6 : Option Value) (z7 : Option Value) (I : xI) (J : xJ) : Option ((Int32 × (Option Value) × (Option Value) × (Option Value) × (Option Value) × (Option Value) × xI × xJ) ⊕ (Unit × xI × xJ)) := xloop (fun s : Int32 × Int32 × Int32 × Int64 × (Option Value) × (Option Value) × xI × xJ => b_X12_parts_14 s.1 s.2.1 s.2.2.1 s.2.2.2.1 s.2.2.2.2.1 s.2.2.2.2.2.1 s.2.2.2.2.2.2.1 s.2.2.2.2.2.2.2) 5000 (x1, x2, x3, y4, z6, z7, I, J)
def f_X12_parts_13 (x1 : Int32) (x2 : Int32) (z3 : Option Value) (z4 : Option Value) (z6 : Option Value) (z7 : Option Value) (I : xI) (J : xJ) : Option ((Int32 × (Option Value) × (Option Value) × (Option Value) × (Option Value) × (Option Value) × xI × xJ) ⊕ (Unit × xI × xJ)) := f_X12_parts_14 x1 x2 0 0 z6 z7 I J
def f_X12_parts_12 (x1 : Int32) (x2 : Int32) (z3 : Option Value) (z4 : Option Value) (z6 : Option Value) (z7 : Option Value) (s0 : Int32) (I : xI) (J : xJ) : Option ((Int32 × (Option Value) × (Option Value) × (Option Value) × (Option Value) × (Option Value) × xI × xJ) ⊕ (Unit × xI × xJ)) := if s0 = 0 then f_X12_parts_33 x1 x2 z3 z4 z6 z7 I J else f_X12_parts_13 x1 x2 z3 z4 z6 z7 I J
def f_X12_parts_11 (x1 : Int32) (x2 : Int32) (z3 : Option Value) (z4 : Option Value) (z6 : Option Value) (z7 : Option Value) (I : xI) (J : xJ) : Option ((Int32 × (Option Value) × (Option Value) × (Option Value) × (Option Value) × (Option Value) × xI × xJ) ⊕ (Unit × xI × xJ)) := (f_X12_isLetter x2 I J).bind fun o => f_X12_parts_12 x1 x2 z3 z4 z6 z7 o.1 o.2.1 o.2.2
def f_X12_parts_9 (x1 : Int32) (x2 : Int32) (z3 : Option Value) (z4 : Option Value) (z6 : Option Value) (z7 : Option Value) (I : xI) (J : xJ) : Option ((Int32 × (Option Value) × (Option Value) × (Option Value) × (Option Value) × (Option Value) × xI × xJ) ⊕ (Unit × xI × xJ)) := if x2 = 32 then f_X12_parts_10 x1 x2 z3 z4 z6 z7 I J else f_X12_parts_11 x1 x2 z3 z4 z6 z7 I J
def f_X12_parts_8 (x1 : Int32) (x2 : Int32) (z3 : Option Value) (z4 : Option Value) (z6 : Option Value) (z7 : Option Value) (I : xI) (J : xJ) : Option ((Int32 × (Option Value) × (Option Value) × (Option Value) × (Option Value) × (Option Value) × xI × xJ) ⊕ (Unit × xI × xJ)) := if x2 = 13 then f_X12_parts_10 x1 x2 z3 z4 z6 z7 I J else f_X12_parts_9 x1 x2 z3 z4 z6 z7 I J
def f_X12_parts_7 (x1 : Int32) (x2 : Int32) (z3 : Option Value) (z4 : Option Value) (z6 : Option Value) (z7 : Option Value) (I : xI) (J : xJ) : Option ((Int32 × (Option Value) × (Option Value) × (Option Value) × (Option Value) × (Option Value) × xI × xJ) ⊕ (Unit × xI × xJ)) := if x2 = 10 then f_X12_parts_10 x1 x2 z3 z4 z6 z7 I J else f_X12_parts_8 x1 x2 z3 z4 z6 z7 I J
def f_X12_parts_6 (x1 : Int32) (x2 : Int32) (z3 : Option Value) (z4 : Option Value) (z6 : Option Value) (z7 : Option Value) (I : xI) (J : xJ) : Option ((Int32 × (Option Value) × (Option Value) × (Option Value) × (Option Value) × (Option Value) × xI × xJ) ⊕ (Unit × xI × xJ)) := if x2 = 9 then f_X12_parts_10 x1 x2 z3 z4 z6 z7 I J else f_X12_parts_7 x1 x2 z3 z4 z6 z7 I J
def f_X12_parts_5 (x1 : Int32) (x2 : Int32) (z3 : Option Value) (z4 : Option Value) (z6 : Option Value) (z7 : Option Value) (I : xI) (J : xJ) : Option (Unit × xI × xJ) := some ((), I, J)
def f_X12_parts_4 (x1 : Int32) (x2 : Int32) (z3 : Option Value) (z4 : Option Value) (z6 : Option Value) (z7 : Option Value) (I : xI) (J : xJ) : Option (Unit × xI × xJ) := (f_X12_token 0 ((I 61 4)) 0 0 I J).bind fun o => f_X12_parts_5 x1 x2 z3 z4 z6 z7 o.2.1 o.2.2
def f_X12_parts_3 (x1 : Int32) (z2 : Option Value) (z3 : Option Value) (z4 : Option Value) (z6 : Option Value) (z7 : Option Value) (s0 : Int32) (I : xI) (J : xJ) : Option ((Int32 × (Option Value) × (Option Value) × (Option Value) × (Option Value) × (Option Value) × xI × xJ) ⊕ (Unit × xI × xJ)) := if x1 < (I 61 4) then f_X12_parts_6 x1 s0 z3 z4 z6 z7 I J else ((f_X12_parts_4 x1 s0 z3 z4 z6 z7 I J)).map .inr
def f_X12_parts_2 (x1 : Int32) (z2 : Option Value) (z3 : Option Value) (z4 : Option Value) (z6 : Option Value) (z7 : Option Value) (I : xI) (J : xJ) : Option ((Int32 × (Option Value) × (Option Value) × (Option Value) × (Option Value) × (Option Value) × xI × xJ) ⊕ (Unit × xI × xJ)) := (f_X12_byteAt x1 I J).bind fun o => f_X12_parts_3 x1 z2 z3 z4 z6 z7 o.1 o.2.1 o.2.2
def b_X12_parts_1 (x1 : Int32) (z2 : Option Value) (z3 : Option Value) (z4 : Option Value) (z6 : Option Value) (z7 : Option Value) (I : xI) (J : xJ) : Option ((Int32 × (Option Value) × (Option Value) × (Option Value) × (Option Value) × (Option Value) × xI × xJ) ⊕ (Unit × xI × xJ)) := if 400 < (I 61 10) then ((f_X12_parts_52 x1 z2 z3 z4 z6 z7 I J)).map .inr else f_X12_parts_2 x1 z2 z3 z4 z6 z7 I J
def f_X12_parts_1 (x1 : Int32) (z2 : Option Value) (z3 : Option Value) (z4 : Option Value) (z6 : Option Value) (z7 : Option Value) (I : xI) (J : xJ) : Option (Unit × xI × xJ) := xloop (fun s : Int32 × (Option Value) × (Option Value) × (Option Value) × (Option Value) × (Option Value) × xI × xJ => b_X12_parts_1 s.1 s.2.1 s.2.2.1 s.2.2.2.1 s.2.2.2.2.1 s.2.2.2.2.2.1 s.2.2.2.2.2.2.1 s.2.2.2.2.2.2.2) 5000 (x1, z2, z3, z4, z6, z7, I, J)
def f_X12_parts_0 (I : xI) (J : xJ) : Option (Unit × xI × xJ) := f_X12_parts_1 0 none none none none none ((xup I 61 10 0)) J
def f_X12_parts (I : xI) (J : xJ) : Option (Unit × xI × xJ) := f_X12_parts_0 I J
theorem p_X12_parts_52 {L : Nat} {xs : Nat → Int32} {d : Nat} {Q : xO → Prop} (x1 : Int32) (z2 : Option Value) (z3 : Option Value) (z4 : Option Value) (z6 : Option Value) (z7 : Option Value) (I : xI) (J : xJ) {t : Unit × xI × xJ} (h : f_X12_parts_52 x1 z2 z3 z4 z6 z7 I J = some t) (hC : (c_X12_parts Q) t) : Rn L xs (d + 3) 192 293 [some (.ref 61), some (.int x1), z2, z3, z4, none, z6, z7] [] 94 (I, J, xrf) Q := by
  unfold f_X12_parts_52 at h
  cases h
  exact Rn.ret 1 (o := (none, 94, (I, J, xrf))) (fun f => rfl) hC
theorem p_X12_parts_51 {L : Nat} {xs : Nat → Int32} {d : Nat} {Q : xO → Prop} (x1 : Int32) (x2 : Int32) (z3 : Option Value) (z4 : Option Value) (z6 : Option Value) (z7 : Option Value) (I : xI) (J : xJ) {t : (Int32 × (Option Value) × (Option Value) × (Option Value) × (Option Value) × (Option Value) × xI × xJ) ⊕ (Unit × xI × xJ)} (h : f_X12_parts_51 x1 x2 z3 z4 z6 z7 I J = some t) (hC : (c_X12_parts_1 L xs d Q) t) : Rn L xs (d + 3) 192 290 [some (.ref 61), some (.int x1), some (.int x2), z3, z4, none, z6, z7] [] 94 (I, J, xrf) Q := by
  unfold f_X12_parts_51 at h
  refine Rn.go 1 (j' := 192) (pc' := 7) (ls' := [some (.ref 61), some (.int x1), some (.int x2), z3, z4, none, z6, z7]) (st' := []) (n' := 94) (M' := (I, J, xrf)) (fun f => rfl) ?_
  cases h; exact hC
theorem p_X12_parts_10 {L : Nat} {xs : Nat → Int32} {d : Nat} {Q : xO → Prop} (x1 : Int32) (x2 : Int32) (z3 : Option Value) (z4 : Option Value) (z6 : Option Value) (z7 : Option Value) (I : xI) (J : xJ) {t : (Int32 × (Option Value) × (Option Value) × (Option Value) × (Option Value) × (Option Value) × xI × xJ) ⊕ (Unit × xI × xJ)} (h : f_X12_parts_10 x1 x2 z3 z4 z6 z7 I J = some t) (hC : (c_X12_parts_1 L xs d Q) t) : Rn L xs (d + 3) 192 67 [some (.ref 61), some (.int x1), some (.int x2), z3, z4, none, z6, z7] [] 94 (I, J, xrf) Q := by
  unfold f_X12_parts_10 at h
  refine Rn.go 2 (j' := 192) (pc' := 290) (ls' := [some (.ref 61), some (.int ((x1 + 1))), some (.int x2), z3, z4, none, z6, z7]) (st' := []) (n' := 94) (M' := (I, J, xrf)) (fun f => rfl) ?_
  exact p_X12_parts_51 ((x1 + 1)) x2 z3 z4 z6 z7 I J h hC
theorem p_X12_parts_50 {L : Nat} {xs : Nat → Int32} {d : Nat} {Q : xO → Prop} (x1 : Int32) (x2 : Int32) (z3 : Option Value) (z4 : Option Value) (z6 : Option Value) (z7 : Option Value) (s0 : Int32) (s1 : Int32) (I : xI) (J : xJ) {t : (Int32 × (Option Value) × (Option Value) × (Option Value) × (Option Value) × (Option Value) × xI × xJ) ⊕ (Unit × xI × xJ)} (h : f_X12_parts_50 x1 x2 z3 z4 z6 z7 s0 s1 I J = some t) (hC : (c_X12_parts_1 L xs d Q) t) : Rn L xs (d + 3) 192 288 [some (.ref 61), some (.int x1), some (.int x2), z3, z4, none, z6, z7] [.int s1, .int s0] 94 (I, J, xrf) Q := by
  unfold f_X12_parts_50 at h
  refine Rn.go 2 (j' := 192) (pc' := 290) (ls' := [some (.ref 61), some (.int ((s0 + s1))), some (.int x2), z3, z4, none, z6, z7]) (st' := []) (n' := 94) (M' := (I, J, xrf)) (fun f => rfl) ?_
  exact p_X12_parts_51 ((s0 + s1)) x2 z3 z4 z6 z7 I J h hC
theorem p_X12_parts_49 {L : Nat} {xs : Nat → Int32} {d : Nat} {Q : xO → Prop} (x1 : Int32) (x2 : Int32) (z3 : Option Value) (z4 : Option Value) (z6 : Option Value) (z7 : Option Value) (s0 : Int32) (s2 : Int32) (s3 : Int32) (s4 : Int32) (I : xI) (J : xJ) {t : (Int32 × (Option Value) × (Option Value) × (Option Value) × (Option Value) × (Option Value) × xI × xJ) ⊕ (Unit × xI × xJ)} (h : f_X12_parts_49 x1 x2 z3 z4 z6 z7 s0 s2 s3 s4 I J = some t) (hC : (c_X12_parts_1 L xs d Q) t) : Rn L xs (d + 3) 192 285 [some (.ref 61), some (.int x1), some (.int x2), z3, z4, none, z6, z7] [.int s4, .int s3, .int s2, .ref 61, .int s0] 94 (I, J, xrf) Q := by
  unfold f_X12_parts_49 at h
  obtain ⟨o, ho, h⟩ := Option.bind_eq_some_iff.mp h
  refine Rn.call (d1 := d + 2) (j1 := 193) (ls1 := [some (.ref 61), some (.int s2), some (.int s3), some (.int s4)]) (rest := [.int s0]) (fun f => rfl) ?_
  refine p_X12_sign (d := d + 0) s2 s3 s4 I J (t := o) ho ?_
  exact p_X12_parts_50 x1 x2 z3 z4 z6 z7 s0 o.1 o.2.1 o.2.2 h hC
theorem p_X12_parts_48 {L : Nat} {xs : Nat → Int32} {d : Nat} {Q : xO → Prop} (x1 : Int32) (x2 : Int32) (z3 : Option Value) (z4 : Option Value) (z6 : Option Value) (z7 : Option Value) (I : xI) (J : xJ) {t : (Int32 × (Option Value) × (Option Value) × (Option Value) × (Option Value) × (Option Value) × xI × xJ) ⊕ (Unit × xI × xJ)} (h : f_X12_parts_48 x1 x2 z3 z4 z6 z7 I J = some t) (hC : (c_X12_parts_1 L xs d Q) t) : Rn L xs (d + 3) 192 274 [some (.ref 61), some (.int x1), some (.int x2), z3, z4, none, z6, z7] [] 94 (I, J, xrf) Q := by
  unfold f_X12_parts_48 at h
  refine Rn.go 8 (j' := 192) (pc' := 282) (ls' := [some (.ref 61), some (.int x1), some (.int x2), z3, z4, none, z6, z7]) (st' := [.int ((x1 + 1)), .ref 61, .int x2, .int x1, .ref 61, .int x1]) (n' := 94) (M' := (I, J, xrf)) (fun f => rfl) ?_
  obtain ⟨o, ho, h⟩ := Option.bind_eq_some_iff.mp h
  refine Rn.call (d1 := d + 2) (j1 := 186) (ls1 := [some (.ref 61), some (.int ((x1 + 1)))]) (rest := [.int x2, .int x1, .ref 61, .int x1]) (fun f => rfl) ?_
  refine p_X12_byteAt (d := d + 1) ((x1 + 1)) I J (t := o) ho ?_
  exact p_X12_parts_49 x1 x2 z3 z4 z6 z7 x1 x1 x2 o.1 o.2.1 o.2.2 h hC
theorem p_X12_parts_47 {L : Nat} {xs : Nat → Int32} {d : Nat} {Q : xO → Prop} (x1 : Int32) (x2 : Int32) (x3 : Int32) (x4 : Int32) (z6 : Option Value) (z7 : Option Value) (I : xI) (J : xJ) {t : (Int32 × (Option Value) × (Option Value) × (Option Value) × (Option Value) × (Option Value) × xI × xJ) ⊕ (Unit × xI × xJ)} (h : f_X12_parts_47 x1 x2 x3 x4 z6 z7 I J = some t) (hC : (c_X12_parts_1 L xs d Q) t) : Rn L xs (d + 3) 192 267 [some (.ref 61), some (.int x1), some (.int x2), some (.int x3), some (.int x4), none, z6, z7] [] 94 (I, J, xrf) Q := by
  unfold f_X12_parts_47 at h
  refine Rn.go 5 (j' := 192) (pc' := 290) (ls' := [some (.ref 61), some (.int ((x1 + x3))), some (.int x2), some (.int x3), some (.int x4), none, z6, z7]) (st' := []) (n' := 94) (M' := (I, J, xrf)) (fun f => rfl) ?_
  exact p_X12_parts_51 ((x1 + x3)) x2 (some (.int x3)) (some (.int x4)) z6 z7 I J h hC
theorem p_X12_parts_46 {L : Nat} {xs : Nat → Int32} {d : Nat} {Q : xO → Prop} (x1 : Int32) (x2 : Int32) (x3 : Int32) (x4 : Int32) (z6 : Option Value) (z7 : Option Value) (s1 : Int32) (I : xI) (J : xJ) {t : (Int32 × (Option Value) × (Option Value) × (Option Value) × (Option Value) × (Option Value) × xI × xJ) ⊕ (Unit × xI × xJ)} (h : f_X12_parts_46 x1 x2 x3 x4 z6 z7 s1 I J = some t) (hC : (c_X12_parts_1 L xs d Q) t) : Rn L xs (d + 3) 192 260 [some (.ref 61), some (.int x1), some (.int x2), some (.int x3), some (.int x4), none, z6, z7] [.int s1, .ref 61] 94 (I, J, xrf) Q := by
  unfold f_X12_parts_46 at h
  refine Rn.go 3 (j' := 192) (pc' := 264) (ls' := [some (.ref 61), some (.int x1), some (.int x2), some (.int x3), some (.int x4), none, z6, z7]) (st' := [.long 0, .int x4, .int x1, .int s1, .ref 61]) (n' := 94) (M' := (I, J, xrf)) (fun f => rfl) ?_
  obtain ⟨o, ho, h⟩ := Option.bind_eq_some_iff.mp h
  refine Rn.call (d1 := d + 2) (j1 := 191) (ls1 := [some (.ref 61), some (.int s1), some (.int x1), some (.int x4), some (.long 0), none]) (rest := []) (fun f => rfl) ?_
  refine p_X12_token (d := d + 1) s1 x1 x4 0 I J (t := o) ho ?_
  exact p_X12_parts_47 x1 x2 x3 x4 z6 z7 o.2.1 o.2.2 h hC
theorem p_X12_parts_45 {L : Nat} {xs : Nat → Int32} {d : Nat} {Q : xO → Prop} (x1 : Int32) (x2 : Int32) (x3 : Int32) (x4 : Int32) (z6 : Option Value) (z7 : Option Value) (I : xI) (J : xJ) {t : (Int32 × (Option Value) × (Option Value) × (Option Value) × (Option Value) × (Option Value) × xI × xJ) ⊕ (Unit × xI × xJ)} (h : f_X12_parts_45 x1 x2 x3 x4 z6 z7 I J = some t) (hC : (c_X12_parts_1 L xs d Q) t) : Rn L xs (d + 3) 192 259 [some (.ref 61), some (.int x1), some (.int x2), some (.int x3), some (.int x4), none, z6, z7] [.ref 61] 94 (I, J, xrf) Q := by
  unfold f_X12_parts_45 at h
  refine Rn.go 1 (j' := 192) (pc' := 260) (ls' := [some (.ref 61), some (.int x1), some (.int x2), some (.int x3), some (.int x4), none, z6, z7]) (st' := [.int 2, .ref 61]) (n' := 94) (M' := (I, J, xrf)) (fun f => rfl) ?_
  exact p_X12_parts_46 x1 x2 x3 x4 z6 z7 2 I J h hC
theorem p_X12_parts_44 {L : Nat} {xs : Nat → Int32} {d : Nat} {Q : xO → Prop} (x1 : Int32) (x2 : Int32) (x3 : Int32) (x4 : Int32) (z6 : Option Value) (z7 : Option Value) (I : xI) (J : xJ) {t : (Int32 × (Option Value) × (Option Value) × (Option Value) × (Option Value) × (Option Value) × xI × xJ) ⊕ (Unit × xI × xJ)} (h : f_X12_parts_44 x1 x2 x3 x4 z6 z7 I J = some t) (hC : (c_X12_parts_1 L xs d Q) t) : Rn L xs (d + 3) 192 255 [some (.ref 61), some (.int x1), some (.int x2), some (.int x3), some (.int x4), none, z6, z7] [.ref 61] 94 (I, J, xrf) Q := by
  unfold f_X12_parts_44 at h
  refine Rn.go 2 (j' := 192) (pc' := 260) (ls' := [some (.ref 61), some (.int x1), some (.int x2), some (.int x3), some (.int x4), none, z6, z7]) (st' := [.int 3, .ref 61]) (n' := 94) (M' := (I, J, xrf)) (fun f => rfl) ?_
  exact p_X12_parts_46 x1 x2 x3 x4 z6 z7 3 I J h hC
theorem p_X12_parts_43 {L : Nat} {xs : Nat → Int32} {d : Nat} {Q : xO → Prop} (x1 : Int32) (x2 : Int32) (x3 : Int32) (x4 : Int32) (z6 : Option Value) (z7 : Option Value) (I : xI) (J : xJ) {t : (Int32 × (Option Value) × (Option Value) × (Option Value) × (Option Value) × (Option Value) × xI × xJ) ⊕ (Unit × xI × xJ)} (h : f_X12_parts_43 x1 x2 x3 x4 z6 z7 I J = some t) (hC : (c_X12_parts_1 L xs d Q) t) : Rn L xs (d + 3) 192 249 [some (.ref 61), some (.int x1), some (.int x2), some (.int x3), some (.int x4), none, z6, z7] [] 94 (I, J, xrf) Q := by
  unfold f_X12_parts_43 at h
  refine Rn.fi 4 (c := x3 ≤ 4) (p1 := 259) (l1 := [some (.ref 61), some (.int x1), some (.int x2), some (.int x3), some (.int x4), none, z6, z7]) (s1 := [.ref 61]) (n1 := 94) (M1 := (I, J, xrf)) (p2 := 255) (l2 := [some (.ref 61), some (.int x1), some (.int x2), some (.int x3), some (.int x4), none, z6, z7]) (s2 := [.ref 61]) (n2 := 94) (M2 := (I, J, xrf)) (fun f => rfl) (fun hc => ?_) (fun hc => ?_)
  · rw [if_pos hc] at h
    exact p_X12_parts_45 x1 x2 x3 x4 z6 z7 I J h hC
  · rw [if_neg hc] at h
    exact p_X12_parts_44 x1 x2 x3 x4 z6 z7 I J h hC
theorem p_X12_parts_42 {L : Nat} {xs : Nat → Int32} {d : Nat} {Q : xO → Prop} (x1 : Int32) (x2 : Int32) (x3 : Int32) (x4 : Int32) (z6 : Option Value) (z7 : Option Value) (I : xI) (J : xJ) {t : (Int32 × Int32 × Int32 × Int32 × (Option Value) × (Option Value) × xI × xJ) ⊕ ((Int32 × (Option Value) × (Option Value) × (Option Value) × (Option Value) × (Option Value) × xI × xJ) ⊕ (Unit × xI × xJ))} (h : f_X12_parts_42 x1 x2 x3 x4 z6 z7 I J = some t) (hC : (c_X12_parts_36 L xs d Q) t) : Rn L xs (d + 3) 192 243 [some (.ref 61), some (.int x1), some (.int x2), some (.int x3), some (.int x4), none, z6, z7] [] 94 (I, J, xrf) Q := by
  unfold f_X12_parts_42 at h
  refine Rn.go 2 (j' := 192) (pc' := 207) (ls' := [some (.ref 61), some (.int x1), some (.int x2), some (.int ((x3 + 1))), some (.int x4), none, z6, z7]) (st' := []) (n' := 94) (M' := (I, J, xrf)) (fun f => rfl) ?_
  cases h; exact hC
theorem p_X12_parts_41 {L : Nat} {xs : Nat → Int32} {d : Nat} {Q : xO → Prop} (x1 : Int32) (x2 : Int32) (x3 : Int32) (x4 : Int32) (z6 : Option Value) (z7 : Option Value) (s0 : Int32) (s1 : Int32) (I : xI) (J : xJ) {t : (Int32 × Int32 × Int32 × Int32 × (Option Value) × (Option Value) × xI × xJ) ⊕ ((Int32 × (Option Value) × (Option Value) × (Option Value) × (Option Value) × (Option Value) × xI × xJ) ⊕ (Unit × xI × xJ))} (h : f_X12_parts_41 x1 x2 x3 x4 z6 z7 s0 s1 I J = some t) (hC : (c_X12_parts_36 L xs d Q) t) : Rn L xs (d + 3) 192 237 [some (.ref 61), some (.int x1), some (.int x2), some (.int x3), some (.int x4), none, z6, z7] [.int s1, .int s0] 94 (I, J, xrf) Q := by
  unfold f_X12_parts_41 at h
  refine Rn.go 4 (j' := 192) (pc' := 243) (ls' := [some (.ref 61), some (.int x1), some (.int x2), some (.int x3), some (.int (((s0 + s1) - 48))), none, z6, z7]) (st' := []) (n' := 94) (M' := (I, J, xrf)) (fun f => rfl) ?_
  exact p_X12_parts_42 x1 x2 x3 (((s0 + s1) - 48)) z6 z7 I J h hC
theorem p_X12_parts_40 {L : Nat} {xs : Nat → Int32} {d : Nat} {Q : xO → Prop} (x1 : Int32) (x2 : Int32) (x3 : Int32) (x4 : Int32) (z6 : Option Value) (z7 : Option Value) (I : xI) (J : xJ) {t : (Int32 × Int32 × Int32 × Int32 × (Option Value) × (Option Value) × xI × xJ) ⊕ ((Int32 × (Option Value) × (Option Value) × (Option Value) × (Option Value) × (Option Value) × xI × xJ) ⊕ (Unit × xI × xJ))} (h : f_X12_parts_40 x1 x2 x3 x4 z6 z7 I J = some t) (hC : (c_X12_parts_36 L xs d Q) t) : Rn L xs (d + 3) 192 225 [some (.ref 61), some (.int x1), some (.int x2), some (.int x3), some (.int x4), none, z6, z7] [] 94 (I, J, xrf) Q := by
  unfold f_X12_parts_40 at h
  refine Rn.go 7 (j' := 192) (pc' := 234) (ls' := [some (.ref 61), some (.int x1), some (.int x2), some (.int x3), some (.int x4), none, z6, z7]) (st' := [.int ((x1 + x3)), .ref 61, .int ((10 * x4))]) (n' := 94) (M' := (I, J, xrf)) (fun f => rfl) ?_
  obtain ⟨o, ho, h⟩ := Option.bind_eq_some_iff.mp h
  refine Rn.call (d1 := d + 2) (j1 := 186) (ls1 := [some (.ref 61), some (.int ((x1 + x3)))]) (rest := [.int ((10 * x4))]) (fun f => rfl) ?_
  refine p_X12_byteAt (d := d + 1) ((x1 + x3)) I J (t := o) ho ?_
  exact p_X12_parts_41 x1 x2 x3 x4 z6 z7 ((10 * x4)) o.1 o.2.1 o.2.2 h hC
theorem p_X12_parts_39 {L : Nat} {xs : Nat → Int32} {d : Nat} {Q : xO → Prop} (x1 : Int32) (x2 : Int32) (x3 : Int32) (x4 : Int32) (z6 : Option Value) (z7 : Option Value) (I : xI) (J : xJ) {t : (Int32 × Int32 × Int32 × Int32 × (Option Value) × (Option Value) × xI × xJ) ⊕ ((Int32 × (Option Value) × (Option Value) × (Option Value) × (Option Value) × (Option Value) × xI × xJ) ⊕ (Unit × xI × xJ))} (h : f_X12_parts_39 x1 x2 x3 x4 z6 z7 I J = some t) (hC : (c_X12_parts_36 L xs d Q) t) : Rn L xs (d + 3) 192 220 [some (.ref 61), some (.int x1), some (.int x2), some (.int x3), some (.int x4), none, z6, z7] [] 94 (I, J, xrf) Q := by
  unfold f_X12_parts_39 at h
  refine Rn.fi 3 (c := 4 ≤ x3) (p1 := 243) (l1 := [some (.ref 61), some (.int x1), some (.int x2), some (.int x3), some (.int x4), none, z6, z7]) (s1 := []) (n1 := 94) (M1 := (I, J, xrf)) (p2 := 225) (l2 := [some (.ref 61), some (.int x1), some (.int x2), some (.int x3), some (.int x4), none, z6, z7]) (s2 := []) (n2 := 94) (M2 := (I, J, xrf)) (fun f => rfl) (fun hc => ?_) (fun hc => ?_)
  · rw [if_pos hc] at h
    exact p_X12_parts_42 x1 x2 x3 x4 z6 z7 I J h hC
  · rw [if_neg hc] at h
    exact p_X12_parts_40 x1 x2 x3 x4 z6 z7 I J h hC
theorem p_X12_parts_38 {L : Nat} {xs : Nat → Int32} {d : Nat} {Q : xO → Prop} (x1 : Int32) (x2 : Int32) (x3 : Int32) (x4 : Int32) (z6 : Option Value) (z7 : Option Value) (s0 : Int32) (I : xI) (J : xJ) {t : (Int32 × Int32 × Int32 × Int32 × (Option Value) × (Option Value) × xI × xJ) ⊕ ((Int32 × (Option Value) × (Option Value) × (Option Value) × (Option Value) × (Option Value) × xI × xJ) ⊕ (Unit × xI × xJ))} (h : f_X12_parts_38 x1 x2 x3 x4 z6 z7 s0 I J = some t) (hC : (c_X12_parts_36 L xs d Q) t) : Rn L xs (d + 3) 192 217 [some (.ref 61), some (.int x1), some (.int x2), some (.int x3), some (.int x4), none, z6, z7] [.int s0] 94 (I, J, xrf) Q := by
  unfold f_X12_parts_38 at h
  refine Rn.fi 1 (c := s0 = 0) (p1 := 249) (l1 := [some (.ref 61), some (.int x1), some (.int x2), some (.int x3), some (.int x4), none, z6, z7]) (s1 := []) (n1 := 94) (M1 := (I, J, xrf)) (p2 := 220) (l2 := [some (.ref 61), some (.int x1), some (.int x2), some (.int x3), some (.int x4), none, z6, z7]) (s2 := []) (n2 := 94) (M2 := (I, J, xrf)) (fun f => rfl) (fun hc => ?_) (fun hc => ?_)
  · rw [if_pos hc] at h
    obtain ⟨t0, h0, rfl⟩ := Option.map_eq_some_iff.mp h
    exact p_X12_parts_43 x1 x2 x3 x4 z6 z7 I J h0 hC
  · rw [if_neg hc] at h
    exact p_X12_parts_39 x1 x2 x3 x4 z6 z7 I J h hC
theorem p_X12_parts_37 {L : Nat} {xs : Nat → Int32} {d : Nat} {Q : xO → Prop} (x1 : Int32) (x2 : Int32) (x3 : Int32) (x4 : Int32) (z6 : Option Value) (z7 : Option Value) (s0 : Int32) (I : xI) (J : xJ) {t : (Int32 × Int32 × Int32 × Int32 × (Option Value) × (Option Value) × xI × xJ) ⊕ ((Int32 × (Option Value) × (Option Value) × (Option Value) × (Option Value) × (Option Value) × xI × xJ) ⊕ (Unit × xI × xJ))} (h : f_X12_parts_37 x1 x2 x3 x4 z6 z7 s0 I J = some t) (hC : (c_X12_parts_36 L xs d Q) t) : Rn L xs (d + 3) 192 214 [some (.ref 61), some (.int x1), some (.int x2), some (.int x3), some (.int x4), none, z6, z7] [.int s0] 94 (I, J, xrf) Q := by
  unfold f_X12_parts_37 at h
  obtain ⟨o, ho, h⟩ := Option.bind_eq_some_iff.mp h
  refine Rn.call (d1 := d + 2) (j1 := 187) (ls1 := [some (.int s0)]) (rest := []) (fun f => rfl) ?_
  refine p_X12_isDigit (d := d + 1) s0 I J (t := o) ho ?_
  exact p_X12_parts_38 x1 x2 x3 x4 z6 z7 o.1 o.2.1 o.2.2 h hC
theorem q_X12_parts_36 {L : Nat} {xs : Nat → Int32} {d : Nat} {Q : xO → Prop} (x1 : Int32) (x2 : Int32) (x3 : Int32) (x4 : Int32) (z6 : Option Value) (z7 : Option Value) (I : xI) (J : xJ) {t : (Int32 × Int32 × Int32 × Int32 × (Option Value) × (Option Value) × xI × xJ) ⊕ ((Int32 × (Option Value) × (Option Value) × (Option Value) × (Option Value) × (Option Value) × xI × xJ) ⊕ (Unit × xI × xJ))} (h : b_X12_parts_36 x1 x2 x3 x4 z6 z7 I J = some t) (hC : (c_X12_parts_36 L xs d Q) t) : Rn L xs (d + 3) 192 207 [some (.ref 61), some (.int x1), some (.int x2), some (.int x3), some (.int x4), none, z6, z7] [] 94 (I, J, xrf) Q := by
  unfold b_X12_parts_36 at h
  refine Rn.go 4 (j' := 192) (pc' := 211) (ls' := [some (.ref 61), some (.int x1), some (.int x2), some (.int x3), some (.int x4), none, z6, z7]) (st' := [.int ((x1 + x3)), .ref 61]) (n' := 94) (M' := (I, J, xrf)) (fun f => rfl) ?_
  obtain ⟨o, ho, h⟩ := Option.bind_eq_some_iff.mp h
  refine Rn.call (d1 := d + 2) (j1 := 186) (ls1 := [some (.ref 61), some (.int ((x1 + x3)))]) (rest := []) (fun f => rfl) ?_
  refine p_X12_byteAt (d := d + 1) ((x1 + x3)) I J (t := o) ho ?_
  exact p_X12_parts_37 x1 x2 x3 x4 z6 z7 o.1 o.2.1 o.2.2 h hC
theorem p_X12_parts_36 {L : Nat} {xs : Nat → Int32} {d : Nat} {Q : xO → Prop} (x1 : Int32) (x2 : Int32) (x3 : Int32) (x4 : Int32) (z6 : Option Value) (z7 : Option Value) (I : xI) (J : xJ) {t : (Int32 × (Option Value) × (Option Value) × (Option Value) × (Option Value) × (Option Value) × xI × xJ) ⊕ (Unit × xI × xJ)} (h : f_X12_parts_36 x1 x2 x3 x4 z6 z7 I J = some t) (hC : (c_X12_parts_1 L xs d Q) t) : Rn L xs (d + 3) 192 207 [some (.ref 61), some (.int x1), some (.int x2), some (.int x3), some (.int x4), none, z6, z7] [] 94 (I, J, xrf) Q := by
  unfold f_X12_parts_36 at h
  exact xloop_some (P := fun s : Int32 × Int32 × Int32 × Int32 × (Option Value) × (Option Value) × xI × xJ => Rn L xs (d + 3) 192 207 [some (.ref 61), some (.int s.1), some (.int s.2.1), some (.int s.2.2.1), some (.int s.2.2.2.1), none, s.2.2.2.2.1, s.2.2.2.2.2.1] [] 94 (s.2.2.2.2.2.2.1, s.2.2.2.2.2.2.2, xrf) Q) t (fun s ⟨s', hb, hp⟩ => q_X12_parts_36 s.1 s.2.1 s.2.2.1 s.2.2.2.1 s.2.2.2.2.1 s.2.2.2.2.2.1 s.2.2.2.2.2.2.1 s.2.2.2.2.2.2.2 hb hp) (fun s hb => q_X12_parts_36 s.1 s.2.1 s.2.2.1 s.2.2.2.1 s.2.2.2.2.1 s.2.2.2.2.2.1 s.2.2.2.2.2.2.1 s.2.2.2.2.2.2.2 hb hC) _ _ h
theorem p_X12_parts_35 {L : Nat} {xs : Nat → Int32} {d : Nat} {Q : xO → Prop} (x1 : Int32) (x2 : Int32) (z3 : Option Value) (z4 : Option Value) (z6 : Option Value) (z7 : Option Value) (I : xI) (J : xJ) {t : (Int32 × (Option Value) × (Option Value) × (Option Value) × (Option Value) × (Option Value) × xI × xJ) ⊕ (Unit × xI × xJ)} (h : f_X12_parts_35 x1 x2 z3 z4 z6 z7 I J = some t) (hC : (c_X12_parts_1 L xs d Q) t) : Rn L xs (d + 3) 192 202 [some (.ref 61), some (.int x1), some (.int x2), z3, z4, none, z6, z7] [] 94 (I, J, xrf) Q := by
  unfold f_X12_parts_35 at h
  refine Rn.go 4 (j' := 192) (pc' := 207) (ls' := [some (.ref 61), some (.int x1), some (.int x2), some (.int 0), some (.int 0), none, z6, z7]) (st' := []) (n' := 94) (M' := (I, J, xrf)) (fun f => rfl) ?_
  exact p_X12_parts_36 x1 x2 0 0 z6 z7 I J h hC
theorem p_X12_parts_34 {L : Nat} {xs : Nat → Int32} {d : Nat} {Q : xO → Prop} (x1 : Int32) (x2 : Int32) (z3 : Option Value) (z4 : Option Value) (z6 : Option Value) (z7 : Option Value) (s0 : Int32) (I : xI) (J : xJ) {t : (Int32 × (Option Value) × (Option Value) × (Option Value) × (Option Value) × (Option Value) × xI × xJ) ⊕ (Unit × xI × xJ)} (h : f_X12_parts_34 x1 x2 z3 z4 z6 z7 s0 I J = some t) (hC : (c_X12_parts_1 L xs d Q) t) : Rn L xs (d + 3) 192 199 [some (.ref 61), some (.int x1), some (.int x2), z3, z4, none, z6, z7] [.int s0] 94 (I, J, xrf) Q := by
  unfold f_X12_parts_34 at h
  refine Rn.fi 1 (c := s0 = 0) (p1 := 274) (l1 := [some (.ref 61), some (.int x1), some (.int x2), z3, z4, none, z6, z7]) (s1 := []) (n1 := 94) (M1 := (I, J, xrf)) (p2 := 202) (l2 := [some (.ref 61), some (.int x1), some (.int x2), z3, z4, none, z6, z7]) (s2 := []) (n2 := 94) (M2 := (I, J, xrf)) (fun f => rfl) (fun hc => ?_) (fun hc => ?_)
  · rw [if_pos hc] at h
    exact p_X12_parts_48 x1 x2 z3 z4 z6 z7 I J h hC
  · rw [if_neg hc] at h
    exact p_X12_parts_35 x1 x2 z3 z4 z6 z7 I J h hC
theorem p_X12_parts_33 {L : Nat} {xs : Nat → Int32} {d : Nat} {Q : xO → Prop} (x1 : Int32) (x2 : Int32) (z3 : Option Value) (z4 : Option Value) (z6 : Option Value) (z7 : Option Value) (I : xI) (J : xJ) {t : (Int32 × (Option Value) × (Option Value) × (Option Value) × (Option Value) × (Option Value) × xI × xJ) ⊕ (Unit × xI × xJ)} (h : f_X12_parts_33 x1 x2 z3 z4 z6 z7 I J = some t) (hC : (c_X12_parts_1 L xs d Q) t) : Rn L xs (d + 3) 192 195 [some (.ref 61), some (.int x1), some (.int x2), z3, z4, none, z6, z7] [] 94 (I, J, xrf) Q := by
  unfold f_X12_parts_33 at h
  refine Rn.go 1 (j' := 192) (pc' := 196) (ls' := [some (.ref 61), some (.int x1), some (.int x2), z3, z4, none, z6, z7]) (st' := [.int x2]) (n' := 94) (M' := (I, J, xrf)) (fun f => rfl) ?_
  obtain ⟨o, ho, h⟩ := Option.bind_eq_some_iff.mp h
  refine Rn.call (d1 := d + 2) (j1 := 187) (ls1 := [some (.int x2)]) (rest := []) (fun f => rfl) ?_
  refine p_X12_isDigit (d := d + 1) x2 I J (t := o) ho ?_
  exact p_X12_parts_34 x1 x2 z3 z4 z6 z7 o.1 o.2.1 o.2.2 h hC
theorem p_X12_parts_32 {L : Nat} {xs : Nat → Int32} {d : Nat} {Q : xO → Prop} (x1 : Int32) (x2 : Int32) (x3 : Int32) (y4 : Int64) (x6 : Int32) (z7 : Option Value) (I : xI) (J : xJ) {t : (Int32 × (Option Value) × (Option Value) × (Option Value) × (Option Value) × (Option Value) × xI × xJ) ⊕ (Unit × xI × xJ)} (h : f_X12_parts_32 x1 x2 x3 y4 x6 z7 I J = some t) (hC : (c_X12_parts_1 L xs d Q) t) : Rn L xs (d + 3) 192 188 [some (.ref 61), some (.int x1), some (.int x2), some (.int x3), some (.long y4), none, some (.int x6), z7] [] 94 (I, J, xrf) Q := by
  unfold f_X12_parts_32 at h
  refine Rn.go 5 (j' := 192) (pc' := 290) (ls' := [some (.ref 61), some (.int ((x1 + x3))), some (.int x2), some (.int x3), some (.long y4), none, some (.int x6), z7]) (st' := []) (n' := 94) (M' := (I, J, xrf)) (fun f => rfl) ?_
  exact p_X12_parts_51 ((x1 + x3)) x2 (some (.int x3)) (some (.long y4)) (some (.int x6)) z7 I J h hC
theorem p_X12_parts_31 {L : Nat} {xs : Nat → Int32} {d : Nat} {Q : xO → Prop} (x1 : Int32) (x2 : Int32) (x3 : Int32) (y4 : Int64) (x6 : Int32) (z7 : Option Value) (I : xI) (J : xJ) {t : (Int32 × (Option Value) × (Option Value) × (Option Value) × (Option Value) × (Option Value) × xI × xJ) ⊕ (Unit × xI × xJ)} (h : f_X12_parts_31 x1 x2 x3 y4 x6 z7 I J = some t) (hC : (c_X12_parts_1 L xs d Q) t) : Rn L xs (d + 3) 192 178 [some (.ref 61), some (.int x1), some (.int x2), some (.int x3), some (.long y4), none, some (.int x6), z7] [] 94 (I, J, xrf) Q := by
  unfold f_X12_parts_31 at h
  refine Rn.go 5 (j' := 192) (pc' := 185) (ls' := [some (.ref 61), some (.int x1), some (.int x2), some (.int x3), some (.long y4), none, some (.int x6), z7]) (st' := [.long y4, .int 0, .int x1, .int x6, .ref 61]) (n' := 94) (M' := (I, J, xrf)) (fun f => rfl) ?_
  obtain ⟨o, ho, h⟩ := Option.bind_eq_some_iff.mp h
  refine Rn.call (d1 := d + 2) (j1 := 191) (ls1 := [some (.ref 61), some (.int x6), some (.int x1), some (.int 0), some (.long y4), none]) (rest := []) (fun f => rfl) ?_
  refine p_X12_token (d := d + 1) x6 x1 0 y4 I J (t := o) ho ?_
  exact p_X12_parts_32 x1 x2 x3 y4 x6 z7 o.2.1 o.2.2 h hC
theorem p_X12_parts_30 {L : Nat} {xs : Nat → Int32} {d : Nat} {Q : xO → Prop} (x1 : Int32) (x2 : Int32) (x3 : Int32) (y4 : Int64) (x6 : Int32) (x7 : Int32) (I : xI) (J : xJ) {t : (Int32 × Int32 × Int32 × Int64 × Int32 × Int32 × xI × xJ) ⊕ ((Int32 × (Option Value) × (Option Value) × (Option Value) × (Option Value) × (Option Value) × xI × xJ) ⊕ (Unit × xI × xJ))} (h : f_X12_parts_30 x1 x2 x3 y4 x6 x7 I J = some t) (hC : (c_X12_parts_27 L xs d Q) t) : Rn L xs (d + 3) 192 172 [some (.ref 61), some (.int x1), some (.int x2), some (.int x3), some (.long y4), none, some (.int x6), some (.int x7)] [] 94 (I, J, xrf) Q := by
  unfold f_X12_parts_30 at h
  refine Rn.go 2 (j' := 192) (pc' := 146) (ls' := [some (.ref 61), some (.int x1), some (.int x2), some (.int x3), some (.long y4), none, some (.int x6), some (.int ((x7 + 1)))]) (st' := []) (n' := 94) (M' := (I, J, xrf)) (fun f => rfl) ?_
  cases h; exact hC
theorem p_X12_parts_29 {L : Nat} {xs : Nat → Int32} {d : Nat} {Q : xO → Prop} (x1 : Int32) (x2 : Int32) (x3 : Int32) (y4 : Int64) (x6 : Int32) (x7 : Int32) (I : xI) (J : xJ) {t : (Int32 × Int32 × Int32 × Int64 × Int32 × Int32 × xI × xJ) ⊕ ((Int32 × (Option Value) × (Option Value) × (Option Value) × (Option Value) × (Option Value) × xI × xJ) ⊕ (Unit × xI × xJ))} (h : f_X12_parts_29 x1 x2 x3 y4 x6 x7 I J = some t) (hC : (c_X12_parts_27 L xs d Q) t) : Rn L xs (d + 3) 192 165 [some (.ref 61), some (.int x1), some (.int x2), some (.int x3), some (.long y4), none, some (.int x6), some (.int x7)] [] 94 (I, J, xrf) Q := by
  unfold f_X12_parts_29 at h
  refine Rn.go 4 (j' := 192) (pc' := 172) (ls' := [some (.ref 61), some (.int x1), some (.int x2), some (.int x3), some (.long y4), none, some (.int ((20 + x7))), some (.int x7)]) (st' := []) (n' := 94) (M' := (I, J, xrf)) (fun f => rfl) ?_
  exact p_X12_parts_30 x1 x2 x3 y4 ((20 + x7)) x7 I J h hC
theorem p_X12_parts_28 {L : Nat} {xs : Nat → Int32} {d : Nat} {Q : xO → Prop} (x1 : Int32) (x2 : Int32) (x3 : Int32) (y4 : Int64) (x6 : Int32) (x7 : Int32) (I : xI) (J : xJ) {t : (Int32 × Int32 × Int32 × Int64 × Int32 × Int32 × xI × xJ) ⊕ ((Int32 × (Option Value) × (Option Value) × (Option Value) × (Option Value) × (Option Value) × xI × xJ) ⊕ (Unit × xI × xJ))} (h : f_X12_parts_28 x1 x2 x3 y4 x6 x7 I J = some t) (hC : (c_X12_parts_27 L xs d Q) t) : Rn L xs (d + 3) 192 152 [some (.ref 61), some (.int x1), some (.int x2), some (.int x3), some (.long y4), none, some (.int x6), some (.int x7)] [] 94 (I, J, xrf) Q := by
  unfold f_X12_parts_28 at h
  obtain ⟨hc, h⟩ := xif h
  refine Rn.ok 4 (c := x7 < 0 ∨ 5 ≤ x7.toNatClampNeg) (p1 := 159) (l1 := [some (.ref 61), some (.int x1), some (.int x2), some (.int x3), some (.long y4), none, some (.int x6), some (.int x7)]) (s1 := [.long ((J 68 x7.toNatClampNeg))]) (n1 := 94) (M1 := (I, J, xrf)) (fun f => rfl) hc ?_
  refine Rn.fi 3 (c := (lg_cmp ((J 68 x7.toNatClampNeg)) y4) = 0) (p1 := 165) (l1 := [some (.ref 61), some (.int x1), some (.int x2), some (.int x3), some (.long y4), none, some (.int x6), some (.int x7)]) (s1 := []) (n1 := 94) (M1 := (I, J, xrf)) (p2 := 172) (l2 := [some (.ref 61), some (.int x1), some (.int x2), some (.int x3), some (.long y4), none, some (.int x6), some (.int x7)]) (s2 := []) (n2 := 94) (M2 := (I, J, xrf)) (fun f => rfl) (fun hc => ?_) (fun hc => ?_)
  · rw [if_pos hc] at h
    exact p_X12_parts_29 x1 x2 x3 y4 x6 x7 I J h hC
  · rw [if_neg hc] at h
    exact p_X12_parts_30 x1 x2 x3 y4 x6 x7 I J h hC
theorem q_X12_parts_27 {L : Nat} {xs : Nat → Int32} {d : Nat} {Q : xO → Prop} (x1 : Int32) (x2 : Int32) (x3 : Int32) (y4 : Int64) (x6 : Int32) (x7 : Int32) (I : xI) (J : xJ) {t : (Int32 × Int32 × Int32 × Int64 × Int32 × Int32 × xI × xJ) ⊕ ((Int32 × (Option Value) × (Option Value) × (Option Value) × (Option Value) × (Option Value) × xI × xJ) ⊕ (Unit × xI × xJ))} (h : b_X12_parts_27 x1 x2 x3 y4 x6 x7 I J = some t) (hC : (c_X12_parts_27 L xs d Q) t) : Rn L xs (d + 3) 192 146 [some (.ref 61), some (.int x1), some (.int x2), some (.int x3), some (.long y4), none, some (.int x6), some (.int x7)] [] 94 (I, J, xrf) Q := by
  unfold b_X12_parts_27 at h
  refine Rn.fi 3 (c := 5 ≤ x7) (p1 := 178) (l1 := [some (.ref 61), some (.int x1), some (.int x2), some (.int x3), some (.long y4), none, some (.int x6), some (.int x7)]) (s1 := []) (n1 := 94) (M1 := (I, J, xrf)) (p2 := 152) (l2 := [some (.ref 61), some (.int x1), some (.int x2), some (.int x3), some (.long y4), none, some (.int x6), some (.int x7)]) (s2 := []) (n2 := 94) (M2 := (I, J, xrf)) (fun f => rfl) (fun hc => ?_) (fun hc => ?_)
  · rw [if_pos hc] at h
    obtain ⟨t0, h0, rfl⟩ := Option.map_eq_some_iff.mp h
    exact p_X12_parts_31 x1 x2 x3 y4 x6 (some (.int x7)) I J h0 hC
  · rw [if_neg hc] at h
    exact p_X12_parts_28 x1 x2 x3 y4 x6 x7 I J h hC
theorem p_X12_parts_27 {L : Nat} {xs : Nat → Int32} {d : Nat} {Q : xO → Prop} (x1 : Int32) (x2 : Int32) (x3 : Int32) (y4 : Int64) (x6 : Int32) (x7 : Int32) (I : xI) (J : xJ) {t : (Int32 × (Option Value) × (Option Value) × (Option Value) × (Option Value) × (Option Value) × xI × xJ) ⊕ (Unit × xI × xJ)} (h : f_X12_parts_27 x1 x2 x3 y4 x6 x7 I J = some t) (hC : (c_X12_parts_1 L xs d Q) t) : Rn L xs (d + 3) 192 146 [some (.ref 61), some (.int x1), some (.int x2), some (.int x3), some (.long y4), none, some (.int x6), some (.int x7)] [] 94 (I, J, xrf) Q := by
  unfold f_X12_parts_27 at h
  exact xloop_some (P := fun s : Int32 × Int32 × Int32 × Int64 × Int32 × Int32 × xI × xJ => Rn L xs (d + 3) 192 146 [some (.ref 61), some (.int s.1), some (.int s.2.1), some (.int s.2.2.1), some (.long s.2.2.2.1), none, some (.int s.2.2.2.2.1), some (.int s.2.2.2.2.2.1)] [] 94 (s.2.2.2.2.2.2.1, s.2.2.2.2.2.2.2, xrf) Q) t (fun s ⟨s', hb, hp⟩ => q_X12_parts_27 s.1 s.2.1 s.2.2.1 s.2.2.2.1 s.2.2.2.2.1 s.2.2.2.2.2.1 s.2.2.2.2.2.2.1 s.2.2.2.2.2.2.2 hb hp) (fun s hb => q_X12_parts_27 s.1 s.2.1 s.2.2.1 s.2.2.2.1 s.2.2.2.2.1 s.2.2.2.2.2.1 s.2.2.2.2.2.2.1 s.2.2.2.2.2.2.2 hb hC) _ _ h
theorem p_X12_parts_26 {L : Nat} {xs : Nat → Int32} {d : Nat} {Q : xO → Prop} (x1 : Int32) (x2 : Int32) (x3 : Int32) (y4 : Int64) (x6 : Int32) (z7 : Option Value) (I : xI) (J : xJ) {t : (Int32 × (Option Value) × (Option Value) × (Option Value) × (Option Value) × (Option Value) × xI × xJ) ⊕ (Unit × xI × xJ)} (h : f_X12_parts_26 x1 x2 x3 y4 x6 z7 I J = some t) (hC : (c_X12_parts_1 L xs d Q) t) : Rn L xs (d + 3) 192 143 [some (.ref 61), some (.int x1), some (.int x2), some (.int x3), some (.long y4), none, some (.int x6), z7] [] 94 (I, J, xrf) Q := by
  unfold f_X12_parts_26 at h
  refine Rn.go 2 (j' := 192) (pc' := 146) (ls' := [some (.ref 61), some (.int x1), some (.int x2), some (.int x3), some (.long y4), none, some (.int x6), some (.int 0)]) (st' := []) (n' := 94) (M' := (I, J, xrf)) (fun f => rfl) ?_
  exact p_X12_parts_27 x1 x2 x3 y4 x6 0 I J h hC
theorem p_X12_parts_25 {L : Nat} {xs : Nat → Int32} {d : Nat} {Q : xO → Prop} (x1 : Int32) (x2 : Int32) (x3 : Int32) (y4 : Int64) (z6 : Option Value) (z7 : Option Value) (s0 : Int32) (I : xI) (J : xJ) {t : (Int32 × (Option Value) × (Option Value) × (Option Value) × (Option Value) × (Option Value) × xI × xJ) ⊕ (Unit × xI × xJ)} (h : f_X12_parts_25 x1 x2 x3 y4 z6 z7 s0 I J = some t) (hC : (c_X12_parts_1 L xs d Q) t) : Rn L xs (d + 3) 192 135 [some (.ref 61), some (.int x1), some (.int x2), some (.int x3), some (.long y4), none, z6, z7] [.int s0] 94 (I, J, xrf) Q := by
  unfold f_X12_parts_25 at h
  refine Rn.fi 4 (c := 8 < x3) (p1 := 178) (l1 := [some (.ref 61), some (.int x1), some (.int x2), some (.int x3), some (.long y4), none, some (.int s0), z7]) (s1 := []) (n1 := 94) (M1 := (I, J, xrf)) (p2 := 143) (l2 := [some (.ref 61), some (.int x1), some (.int x2), some (.int x3), some (.long y4), none, some (.int s0), z7]) (s2 := []) (n2 := 94) (M2 := (I, J, xrf)) (fun f => rfl) (fun hc => ?_) (fun hc => ?_)
  · rw [if_pos hc] at h
    exact p_X12_parts_31 x1 x2 x3 y4 s0 z7 I J h hC
  · rw [if_neg hc] at h
    exact p_X12_parts_26 x1 x2 x3 y4 s0 z7 I J h hC
theorem p_X12_parts_24 {L : Nat} {xs : Nat → Int32} {d : Nat} {Q : xO → Prop} (x1 : Int32) (x2 : Int32) (x3 : Int32) (y4 : Int64) (z6 : Option Value) (z7 : Option Value) (I : xI) (J : xJ) {t : (Int32 × (Option Value) × (Option Value) × (Option Value) × (Option Value) × (Option Value) × xI × xJ) ⊕ (Unit × xI × xJ)} (h : f_X12_parts_24 x1 x2 x3 y4 z6 z7 I J = some t) (hC : (c_X12_parts_1 L xs d Q) t) : Rn L xs (d + 3) 192 134 [some (.ref 61), some (.int x1), some (.int x2), some (.int x3), some (.long y4), none, z6, z7] [] 94 (I, J, xrf) Q := by
  unfold f_X12_parts_24 at h
  refine Rn.go 1 (j' := 192) (pc' := 135) (ls' := [some (.ref 61), some (.int x1), some (.int x2), some (.int x3), some (.long y4), none, z6, z7]) (st' := [.int 1]) (n' := 94) (M' := (I, J, xrf)) (fun f => rfl) ?_
  exact p_X12_parts_25 x1 x2 x3 y4 z6 z7 1 I J h hC
theorem p_X12_parts_23 {L : Nat} {xs : Nat → Int32} {d : Nat} {Q : xO → Prop} (x1 : Int32) (x2 : Int32) (x3 : Int32) (y4 : Int64) (z6 : Option Value) (z7 : Option Value) (I : xI) (J : xJ) {t : (Int32 × (Option Value) × (Option Value) × (Option Value) × (Option Value) × (Option Value) × xI × xJ) ⊕ (Unit × xI × xJ)} (h : f_X12_parts_23 x1 x2 x3 y4 z6 z7 I J = some t) (hC : (c_X12_parts_1 L xs d Q) t) : Rn L xs (d + 3) 192 130 [some (.ref 61), some (.int x1), some (.int x2), some (.int x3), some (.long y4), none, z6, z7] [] 94 (I, J, xrf) Q := by
  unfold f_X12_parts_23 at h
  refine Rn.go 2 (j' := 192) (pc' := 135) (ls' := [some (.ref 61), some (.int x1), some (.int x2), some (.int x3), some (.long y4), none, z6, z7]) (st' := [.int 3]) (n' := 94) (M' := (I, J, xrf)) (fun f => rfl) ?_
  exact p_X12_parts_25 x1 x2 x3 y4 z6 z7 3 I J h hC
theorem p_X12_parts_22 {L : Nat} {xs : Nat → Int32} {d : Nat} {Q : xO → Prop} (x1 : Int32) (x2 : Int32) (x3 : Int32) (y4 : Int64) (z6 : Option Value) (z7 : Option Value) (I : xI) (J : xJ) {t : (Int32 × (Option Value) × (Option Value) × (Option Value) × (Option Value) × (Option Value) × xI × xJ) ⊕ (Unit × xI × xJ)} (h : f_X12_parts_22 x1 x2 x3 y4 z6 z7 I J = some t) (hC : (c_X12_parts_1 L xs d Q) t) : Rn L xs (d + 3) 192 124 [some (.ref 61), some (.int x1), some (.int x2), some (.int x3), some (.long y4), none, z6, z7] [] 94 (I, J, xrf) Q := by
  unfold f_X12_parts_22 at h
  refine Rn.fi 3 (c := x3 ≤ 8) (p1 := 134) (l1 := [some (.ref 61), some (.int x1), some (.int x2), some (.int x3), some (.long y4), none, z6, z7]) (s1 := []) (n1 := 94) (M1 := (I, J, xrf)) (p2 := 130) (l2 := [some (.ref 61), some (.int x1), some (.int x2), some (.int x3), some (.long y4), none, z6, z7]) (s2 := []) (n2 := 94) (M2 := (I, J, xrf)) (fun f => rfl) (fun hc => ?_) (fun hc => ?_)
  · rw [if_pos hc] at h
    exact p_X12_parts_24 x1 x2 x3 y4 z6 z7 I J h hC
  · rw [if_neg hc] at h
    exact p_X12_parts_23 x1 x2 x3 y4 z6 z7 I J h hC
theorem p_X12_parts_21 {L : Nat} {xs : Nat → Int32} {d : Nat} {Q : xO → Prop} (x1 : Int32) (x2 : Int32) (x3 : Int32) (y4 : Int64) (z6 : Option Value) (z7 : Option Value) (I : xI) (J : xJ) {t : (Int32 × Int32 × Int32 × Int64 × (Option Value) × (Option Value) × xI × xJ) ⊕ ((Int32 × (Option Value) × (Option Value) × (Option Value) × (Option Value) × (Option Value) × xI × xJ) ⊕ (Unit × xI × xJ))} (h : f_X12_parts_21 x1 x2 x3 y4 z6 z7 I J = some t) (hC : (c_X12_parts_14 L xs d Q) t) : Rn L xs (d + 3) 192 118 [some (.ref 61), some (.int x1), some (.int x2), some (.int x3), some (.long y4), none, z6, z7] [] 94 (I, J, xrf) Q := by
  unfold f_X12_parts_21 at h
  refine Rn.go 2 (j' := 192) (pc' := 85) (ls' := [some (.ref 61), some (.int x1), some (.int x2), some (.int ((x3 + 1))), some (.long y4), none, z6, z7]) (st' := []) (n' := 94) (M' := (I, J, xrf)) (fun f => rfl) ?_
  cases h; exact hC
theorem p_X12_parts_20 {L : Nat} {xs : Nat → Int32} {d : Nat} {Q : xO → Prop} (x1 : Int32) (x2 : Int32) (x3 : Int32) (y4 : Int64) (z6 : Option Value) (z7 : Option Value) (t0 : Int64) (I : xI) (J : xJ) {t : (Int32 × Int32 × Int32 × Int64 × (Option Value) × (Option Value) × xI × xJ) ⊕ ((Int32 × (Option Value) × (Option Value) × (Option Value) × (Option Value) × (Option Value) × xI × xJ) ⊕ (Unit × xI × xJ))} (h : f_X12_parts_20 x1 x2 x3 y4 z6 z7 t0 I J = some t) (hC : (c_X12_parts_14 L xs d Q) t) : Rn L xs (d + 3) 192 116 [some (.ref 61), some (.int x1), some (.int x2), some (.int x3), some (.long y4), none, z6, z7] [.long t0] 94 (I, J, xrf) Q := by
  unfold f_X12_parts_20 at h
  refine Rn.go 1 (j' := 192) (pc' := 118) (ls' := [some (.ref 61), some (.int x1), some (.int x2), some (.int x3), some (.long t0), none, z6, z7]) (st' := []) (n' := 94) (M' := (I, J, xrf)) (fun f => rfl) ?_
  exact p_X12_parts_21 x1 x2 x3 t0 z6 z7 I J h hC
theorem p_X12_parts_19 {L : Nat} {xs : Nat → Int32} {d : Nat} {Q : xO → Prop} (x1 : Int32) (x2 : Int32) (x3 : Int32) (y4 : Int64) (z6 : Option Value) (z7 : Option Value) (t0 : Int64) (s1 : Int32) (I : xI) (J : xJ) {t : (Int32 × Int32 × Int32 × Int64 × (Option Value) × (Option Value) × xI × xJ) ⊕ ((Int32 × (Option Value) × (Option Value) × (Option Value) × (Option Value) × (Option Value) × xI × xJ) ⊕ (Unit × xI × xJ))} (h : f_X12_parts_19 x1 x2 x3 y4 z6 z7 t0 s1 I J = some t) (hC : (c_X12_parts_14 L xs d Q) t) : Rn L xs (d + 3) 192 113 [some (.ref 61), some (.int x1), some (.int x2), some (.int x3), some (.long y4), none, z6, z7] [.int s1, .long t0] 94 (I, J, xrf) Q := by
  unfold f_X12_parts_19 at h
  obtain ⟨o, ho, h⟩ := Option.bind_eq_some_iff.mp h
  refine Rn.call (d1 := d + 2) (j1 := 189) (ls1 := [some (.long t0), none, some (.int s1)]) (rest := []) (fun f => rfl) ?_
  refine p_X12_appends (d := d + 1) t0 s1 I J (t := o) ho ?_
  exact p_X12_parts_20 x1 x2 x3 y4 z6 z7 o.1 o.2.1 o.2.2 h hC
theorem p_X12_parts_18 {L : Nat} {xs : Nat → Int32} {d : Nat} {Q : xO → Prop} (x1 : Int32) (x2 : Int32) (x3 : Int32) (y4 : Int64) (z6 : Option Value) (z7 : Option Value) (I : xI) (J : xJ) {t : (Int32 × Int32 × Int32 × Int64 × (Option Value) × (Option Value) × xI × xJ) ⊕ ((Int32 × (Option Value) × (Option Value) × (Option Value) × (Option Value) × (Option Value) × xI × xJ) ⊕ (Unit × xI × xJ))} (h : f_X12_parts_18 x1 x2 x3 y4 z6 z7 I J = some t) (hC : (c_X12_parts_14 L xs d Q) t) : Rn L xs (d + 3) 192 104 [some (.ref 61), some (.int x1), some (.int x2), some (.int x3), some (.long y4), none, z6, z7] [] 94 (I, J, xrf) Q := by
  unfold f_X12_parts_18 at h
  refine Rn.go 5 (j' := 192) (pc' := 110) (ls' := [some (.ref 61), some (.int x1), some (.int x2), some (.int x3), some (.long y4), none, z6, z7]) (st' := [.int ((x1 + x3)), .ref 61, .long y4]) (n' := 94) (M' := (I, J, xrf)) (fun f => rfl) ?_
  obtain ⟨o, ho, h⟩ := Option.bind_eq_some_iff.mp h
  refine Rn.call (d1 := d + 2) (j1 := 186) (ls1 := [some (.ref 61), some (.int ((x1 + x3)))]) (rest := [.long y4]) (fun f => rfl) ?_
  refine p_X12_byteAt (d := d + 1) ((x1 + x3)) I J (t := o) ho ?_
  exact p_X12_parts_19 x1 x2 x3 y4 z6 z7 y4 o.1 o.2.1 o.2.2 h hC
theorem p_X12_parts_17 {L : Nat} {xs : Nat → Int32} {d : Nat} {Q : xO → Prop} (x1 : Int32) (x2 : Int32) (x3 : Int32) (y4 : Int64) (z6 : Option Value) (z7 : Option Value) (I : xI) (J : xJ) {t : (Int32 × Int32 × Int32 × Int64 × (Option Value) × (Option Value) × xI × xJ) ⊕ ((Int32 × (Option Value) × (Option Value) × (Option Value) × (Option Value) × (Option Value) × xI × xJ) ⊕ (Unit × xI × xJ))} (h : f_X12_parts_17 x1 x2 x3 y4 z6 z7 I J = some t) (hC : (c_X12_parts_14 L xs d Q) t) : Rn L xs (d + 3) 192 98 [some (.ref 61), some (.int x1), some (.int x2), some (.int x3), some (.long y4), none, z6, z7] [] 94 (I, J, xrf) Q := by
  unfold f_X12_parts_17 at h
  refine Rn.fi 3 (c := 8 ≤ x3) (p1 := 118) (l1 := [some (.ref 61), some (.int x1), some (.int x2), some (.int x3), some (.long y4), none, z6, z7]) (s1 := []) (n1 := 94) (M1 := (I, J, xrf)) (p2 := 104) (l2 := [some (.ref 61), some (.int x1), some (.int x2), some (.int x3), some (.long y4), none, z6, z7]) (s2 := []) (n2 := 94) (M2 := (I, J, xrf)) (fun f => rfl) (fun hc => ?_) (fun hc => ?_)
  · rw [if_pos hc] at h
    exact p_X12_parts_21 x1 x2 x3 y4 z6 z7 I J h hC
  · rw [if_neg hc] at h
    exact p_X12_parts_18 x1 x2 x3 y4 z6 z7 I J h hC
theorem p_X12_parts_16 {L : Nat} {xs : Nat → Int32} {d : Nat} {Q : xO → Prop} (x1 : Int32) (x2 : Int32) (x3 : Int32) (y4 : Int64) (z6 : Option Value) (z7 : Option Value) (s0 : Int32) (I : xI) (J : xJ) {t : (Int32 × Int32 × Int32 × Int64 × (Option Value) × (Option Value) × xI × xJ) ⊕ ((Int32 × (Option Value) × (Option Value) × (Option Value) × (Option Value) × (Option Value) × xI × xJ) ⊕ (Unit × xI × xJ))} (h : f_X12_parts_16 x1 x2 x3 y4 z6 z7 s0 I J = some t) (hC : (c_X12_parts_14 L xs d Q) t) : Rn L xs (d + 3) 192 95 [some (.ref 61), some (.int x1), some (.int x2), some (.int x3), some (.long y4), none, z6, z7] [.int s0] 94 (I, J, xrf) Q := by
  unfold f_X12_parts_16 at h
  refine Rn.fi 1 (c := s0 = 0) (p1 := 124) (l1 := [some (.ref 61), some (.int x1), some (.int x2), some (.int x3), some (.long y4), none, z6, z7]) (s1 := []) (n1 := 94) (M1 := (I, J, xrf)) (p2 := 98) (l2 := [some (.ref 61), some (.int x1), some (.int x2), some (.int x3), some (.long y4), none, z6, z7]) (s2 := []) (n2 := 94) (M2 := (I, J, xrf)) (fun f => rfl) (fun hc => ?_) (fun hc => ?_)
  · rw [if_pos hc] at h
    obtain ⟨t0, h0, rfl⟩ := Option.map_eq_some_iff.mp h
    exact p_X12_parts_22 x1 x2 x3 y4 z6 z7 I J h0 hC
  · rw [if_neg hc] at h
    exact p_X12_parts_17 x1 x2 x3 y4 z6 z7 I J h hC
theorem p_X12_parts_15 {L : Nat} {xs : Nat → Int32} {d : Nat} {Q : xO → Prop} (x1 : Int32) (x2 : Int32) (x3 : Int32) (y4 : Int64) (z6 : Option Value) (z7 : Option Value) (s0 : Int32) (I : xI) (J : xJ) {t : (Int32 × Int32 × Int32 × Int64 × (Option Value) × (Option Value) × xI × xJ) ⊕ ((Int32 × (Option Value) × (Option Value) × (Option Value) × (Option Value) × (Option Value) × xI × xJ) ⊕ (Unit × xI × xJ))} (h : f_X12_parts_15 x1 x2 x3 y4 z6 z7 s0 I J = some t) (hC : (c_X12_parts_14 L xs d Q) t) : Rn L xs (d + 3) 192 92 [some (.ref 61), some (.int x1), some (.int x2), some (.int x3), some (.long y4), none, z6, z7] [.int s0] 94 (I, J, xrf) Q := by
  unfold f_X12_parts_15 at h
  obtain ⟨o, ho, h⟩ := Option.bind_eq_some_iff.mp h
  refine Rn.call (d1 := d + 2) (j1 := 188) (ls1 := [some (.int s0)]) (rest := []) (fun f => rfl) ?_
  refine p_X12_isLetter (d := d + 1) s0 I J (t := o) ho ?_
  exact p_X12_parts_16 x1 x2 x3 y4 z6 z7 o.1 o.2.1 o.2.2 h hC
theorem q_X12_parts_14 {L : Nat} {xs : Nat → Int32} {d : Nat} {Q : xO → Prop} (x1 : Int32) (x2 : Int32) (x3 : Int32) (y4 : Int64) (z6 : Option Value) (z7 : Option Value) (I : xI) (J : xJ) {t : (Int32 × Int32 × Int32 × Int64 × (Option Value) × (Option Value) × xI × xJ) ⊕ ((Int32 × (Option Value) × (Option Value) × (Option Value) × (Option Value) × (Option Value) × xI × xJ) ⊕ (Unit × xI × xJ))} (h : b_X12_parts_14 x1 x2 x3 y4 z6 z7 I J = some t) (hC : (c_X12_parts_14 L xs d Q) t) : Rn L xs (d + 3) 192 85 [some (.ref 61), some (.int x1), some (.int x2), some (.int x3), some (.long y4), none, z6, z7] [] 94 (I, J, xrf) Q := by
  unfold b_X12_parts_14 at h
  refine Rn.go 4 (j' := 192) (pc' := 89) (ls' := [some (.ref 61), some (.int x1), some (.int x2), some (.int x3), some (.long y4), none, z6, z7]) (st' := [.int ((x1 + x3)), .ref 61]) (n' := 94) (M' := (I, J, xrf)) (fun f => rfl) ?_
  obtain ⟨o, ho, h⟩ := Option.bind_eq_some_iff.mp h
  refine Rn.call (d1 := d + 2) (j1 := 186) (ls1 := [some (.ref 61), some (.int ((x1 + x3)))]) (rest := []) (fun f => rfl) ?_
  refine p_X12_byteAt (d := d + 1) ((x1 + x3)) I J (t := o) ho ?_
  exact p_X12_parts_15 x1 x2 x3 y4 z6 z7 o.1 o.2.1 o.2.2 h hC
theorem p_X12_parts_14 {L : Nat} {xs : Nat → Int32} {d : Nat} {Q : xO → Prop} (x1 : Int32) (x2 : Int32) (x3 : Int32) (y4 : Int64) (z6 : Option Value) (z7 : Option Value) (I : xI) (J : xJ) {t : (Int32 × (Option Value) × (Option Value) × (Option Value) × (Option Value) × (Option Value) × xI × xJ) ⊕ (Unit × xI × xJ)} (h : f_X12_parts_14 x1 x2 x3 y4 z6 z7 I J = some t) (hC : (c_X12_parts_1 L xs d Q) t) : Rn L xs (d + 3) 192 85 [some (.ref 61), some (.int x1), some (.int x2), some (.int x3), some (.long y4), none, z6, z7] [] 94 (I, J, xrf) Q := by
  unfold f_X12_parts_14 at h
  exact xloop_some (P := fun s : Int32 × Int32 × Int32 × Int64 × (Option Value) × (Option Value) × xI × xJ => Rn L xs (d + 3) 192 85 [some (.ref 61), some (.int s.1), some (.int s.2.1), some (.int s.2.2.1), some (.long s.2.2.2.1), none, s.2.2.2.2.1, s.2.2.2.2.2.1] [] 94 (s.2.2.2.2.2.2.1, s.2.2.2.2.2.2.2, xrf) Q) t (fun s ⟨s', hb, hp⟩ => q_X12_parts_14 s.1 s.2.1 s.2.2.1 s.2.2.2.1 s.2.2.2.2.1 s.2.2.2.2.2.1 s.2.2.2.2.2.2.1 s.2.2.2.2.2.2.2 hb hp) (fun s hb => q_X12_parts_14 s.1 s.2.1 s.2.2.1 s.2.2.2.1 s.2.2.2.2.1 s.2.2.2.2.2.1 s.2.2.2.2.2.2.1 s.2.2.2.2.2.2.2 hb hC) _ _ h
theorem p_X12_parts_13 {L : Nat} {xs : Nat → Int32} {d : Nat} {Q : xO → Prop} (x1 : Int32) (x2 : Int32) (z3 : Option Value) (z4 : Option Value) (z6 : Option Value) (z7 : Option Value) (I : xI) (J : xJ) {t : (Int32 × (Option Value) × (Option Value) × (Option Value) × (Option Value) × (Option Value) × xI × xJ) ⊕ (Unit × xI × xJ)} (h : f_X12_parts_13 x1 x2 z3 z4 z6 z7 I J = some t) (hC : (c_X12_parts_1 L xs d Q) t) : Rn L xs (d + 3) 192 80 [some (.ref 61), some (.int x1), some (.int x2), z3, z4, none, z6, z7] [] 94 (I, J, xrf) Q := by
  unfold f_X12_parts_13 at h
  refine Rn.go 4 (j' := 192) (pc' := 85) (ls' := [some (.ref 61), some (.int x1), some (.int x2), some (.int 0), some (.long 0), none, z6, z7]) (st' := []) (n' := 94) (M' := (I, J, xrf)) (fun f => rfl) ?_
  exact p_X12_parts_14 x1 x2 0 0 z6 z7 I J h hC
theorem p_X12_parts_12 {L : Nat} {xs : Nat → Int32} {d : Nat} {Q : xO → Prop} (x1 : Int32) (x2 : Int32) (z3 : Option Value) (z4 : Option Value) (z6 : Option Value) (z7 : Option Value) (s0 : Int32) (I : xI) (J : xJ) {t : (Int32 × (Option Value) × (Option Value) × (Option Value) × (Option Value) × (Option Value) × xI × xJ) ⊕ (Unit × xI × xJ)} (h : f_X12_parts_12 x1 x2 z3 z4 z6 z7 s0 I J = some t) (hC : (c_X12_parts_1 L xs d Q) t) : Rn L xs (d + 3) 192 77 [some (.ref 61), some (.int x1), some (.int x2), z3, z4, none, z6, z7] [.int s0] 94 (I, J, xrf) Q := by
  unfold f_X12_parts_12 at h
  refine Rn.fi 1 (c := s0 = 0) (p1 := 195) (l1 := [some (.ref 61), some (.int x1), some (.int x2), z3, z4, none, z6, z7]) (s1 := []) (n1 := 94) (M1 := (I, J, xrf)) (p2 := 80) (l2 := [some (.ref 61), some (.int x1), some (.int x2), z3, z4, none, z6, z7]) (s2 := []) (n2 := 94) (M2 := (I, J, xrf)) (fun f => rfl) (fun hc => ?_) (fun hc => ?_)
  · rw [if_pos hc] at h
    exact p_X12_parts_33 x1 x2 z3 z4 z6 z7 I J h hC
  · rw [if_neg hc] at h
    exact p_X12_parts_13 x1 x2 z3 z4 z6 z7 I J h hC
theorem p_X12_parts_11 {L : Nat} {xs : Nat → Int32} {d : Nat} {Q : xO → Prop} (x1 : Int32) (x2 : Int32) (z3 : Option Value) (z4 : Option Value) (z6 : Option Value) (z7 : Option Value) (I : xI) (J : xJ) {t : (Int32 × (Option Value) × (Option Value) × (Option Value) × (Option Value) × (Option Value) × xI × xJ) ⊕ (Unit × xI × xJ)} (h : f_X12_parts_11 x1 x2 z3 z4 z6 z7 I J = some t) (hC : (c_X12_parts_1 L xs d Q) t) : Rn L xs (d + 3) 192 73 [some (.ref 61), some (.int x1), some (.int x2), z3, z4, none, z6, z7] [] 94 (I, J, xrf) Q := by
  unfold f_X12_parts_11 at h
  refine Rn.go 1 (j' := 192) (pc' := 74) (ls' := [some (.ref 61), some (.int x1), some (.int x2), z3, z4, none, z6, z7]) (st' := [.int x2]) (n' := 94) (M' := (I, J, xrf)) (fun f => rfl) ?_
  obtain ⟨o, ho, h⟩ := Option.bind_eq_some_iff.mp h
  refine Rn.call (d1 := d + 2) (j1 := 188) (ls1 := [some (.int x2)]) (rest := []) (fun f => rfl) ?_
  refine p_X12_isLetter (d := d + 1) x2 I J (t := o) ho ?_
  exact p_X12_parts_12 x1 x2 z3 z4 z6 z7 o.1 o.2.1 o.2.2 h hC
theorem p_X12_parts_9 {L : Nat} {xs : Nat → Int32} {d : Nat} {Q : xO → Prop} (x1 : Int32) (x2 : Int32) (z3 : Option Value) (z4 : Option Value) (z6 : Option Value) (z7 : Option Value) (I : xI) (J : xJ) {t : (Int32 × (Option Value) × (Option Value) × (Option Value) × (Option Value) × (Option Value) × xI × xJ) ⊕ (Unit × xI × xJ)} (h : f_X12_parts_9 x1 x2 z3 z4 z6 z7 I J = some t) (hC : (c_X12_parts_1 L xs d Q) t) : Rn L xs (d + 3) 192 61 [some (.ref 61), some (.int x1), some (.int x2), z3, z4, none, z6, z7] [] 94 (I, J, xrf) Q := by
  unfold f_X12_parts_9 at h
  refine Rn.fi 3 (c := x2 = 32) (p1 := 67) (l1 := [some (.ref 61), some (.int x1), some (.int x2), z3, z4, none, z6, z7]) (s1 := []) (n1 := 94) (M1 := (I, J, xrf)) (p2 := 73) (l2 := [some (.ref 61), some (.int x1), some (.int x2), z3, z4, none, z6, z7]) (s2 := []) (n2 := 94) (M2 := (I, J, xrf)) (fun f => rfl) (fun hc => ?_) (fun hc => ?_)
  · rw [if_pos hc] at h
    exact p_X12_parts_10 x1 x2 z3 z4 z6 z7 I J h hC
  · rw [if_neg hc] at h
    exact p_X12_parts_11 x1 x2 z3 z4 z6 z7 I J h hC
theorem p_X12_parts_8 {L : Nat} {xs : Nat → Int32} {d : Nat} {Q : xO → Prop} (x1 : Int32) (x2 : Int32) (z3 : Option Value) (z4 : Option Value) (z6 : Option Value) (z7 : Option Value) (I : xI) (J : xJ) {t : (Int32 × (Option Value) × (Option Value) × (Option Value) × (Option Value) × (Option Value) × xI × xJ) ⊕ (Unit × xI × xJ)} (h : f_X12_parts_8 x1 x2 z3 z4 z6 z7 I J = some t) (hC : (c_X12_parts_1 L xs d Q) t) : Rn L xs (d + 3) 192 55 [some (.ref 61), some (.int x1), some (.int x2), z3, z4, none, z6, z7] [] 94 (I, J, xrf) Q := by
  unfold f_X12_parts_8 at h
  refine Rn.fi 3 (c := x2 = 13) (p1 := 67) (l1 := [some (.ref 61), some (.int x1), some (.int x2), z3, z4, none, z6, z7]) (s1 := []) (n1 := 94) (M1 := (I, J, xrf)) (p2 := 61) (l2 := [some (.ref 61), some (.int x1), some (.int x2), z3, z4, none, z6, z7]) (s2 := []) (n2 := 94) (M2 := (I, J, xrf)) (fun f => rfl) (fun hc => ?_) (fun hc => ?_)
  · rw [if_pos hc] at h
    exact p_X12_parts_10 x1 x2 z3 z4 z6 z7 I J h hC
  · rw [if_neg hc] at h
    exact p_X12_parts_9 x1 x2 z3 z4 z6 z7 I J h hC
theorem p_X12_parts_7 {L : Nat} {xs : Nat → Int32} {d : Nat} {Q : xO → Prop} (x1 : Int32) (x2 : Int32) (z3 : Option Value) (z4 : Option Value) (z6 : Option Value) (z7 : Option Value) (I : xI) (J : xJ) {t : (Int32 × (Option Value) × (Option Value) × (Option Value) × (Option Value) × (Option Value) × xI × xJ) ⊕ (Unit × xI × xJ)} (h : f_X12_parts_7 x1 x2 z3 z4 z6 z7 I J = some t) (hC : (c_X12_parts_1 L xs d Q) t) : Rn L xs (d + 3) 192 49 [some (.ref 61), some (.int x1), some (.int x2), z3, z4, none, z6, z7] [] 94 (I, J, xrf) Q := by
  unfold f_X12_parts_7 at h
  refine Rn.fi 3 (c := x2 = 10) (p1 := 67) (l1 := [some (.ref 61), some (.int x1), some (.int x2), z3, z4, none, z6, z7]) (s1 := []) (n1 := 94) (M1 := (I, J, xrf)) (p2 := 55) (l2 := [some (.ref 61), some (.int x1), some (.int x2), z3, z4, none, z6, z7]) (s2 := []) (n2 := 94) (M2 := (I, J, xrf)) (fun f => rfl) (fun hc => ?_) (fun hc => ?_)
  · rw [if_pos hc] at h
    exact p_X12_parts_10 x1 x2 z3 z4 z6 z7 I J h hC
  · rw [if_neg hc] at h
    exact p_X12_parts_8 x1 x2 z3 z4 z6 z7 I J h hC
theorem p_X12_parts_6 {L : Nat} {xs : Nat → Int32} {d : Nat} {Q : xO → Prop} (x1 : Int32) (x2 : Int32) (z3 : Option Value) (z4 : Option Value) (z6 : Option Value) (z7 : Option Value) (I : xI) (J : xJ) {t : (Int32 × (Option Value) × (Option Value) × (Option Value) × (Option Value) × (Option Value) × xI × xJ) ⊕ (Unit × xI × xJ)} (h : f_X12_parts_6 x1 x2 z3 z4 z6 z7 I J = some t) (hC : (c_X12_parts_1 L xs d Q) t) : Rn L xs (d + 3) 192 43 [some (.ref 61), some (.int x1), some (.int x2), z3, z4, none, z6, z7] [] 94 (I, J, xrf) Q := by
  unfold f_X12_parts_6 at h
  refine Rn.fi 3 (c := x2 = 9) (p1 := 67) (l1 := [some (.ref 61), some (.int x1), some (.int x2), z3, z4, none, z6, z7]) (s1 := []) (n1 := 94) (M1 := (I, J, xrf)) (p2 := 49) (l2 := [some (.ref 61), some (.int x1), some (.int x2), z3, z4, none, z6, z7]) (s2 := []) (n2 := 94) (M2 := (I, J, xrf)) (fun f => rfl) (fun hc => ?_) (fun hc => ?_)
  · rw [if_pos hc] at h
    exact p_X12_parts_10 x1 x2 z3 z4 z6 z7 I J h hC
  · rw [if_neg hc] at h
    exact p_X12_parts_7 x1 x2 z3 z4 z6 z7 I J h hC
theorem p_X12_parts_5 {L : Nat} {xs : Nat → Int32} {d : Nat} {Q : xO → Prop} (x1 : Int32) (x2 : Int32) (z3 : Option Value) (z4 : Option Value) (z6 : Option Value) (z7 : Option Value) (I : xI) (J : xJ) {t : Unit × xI × xJ} (h : f_X12_parts_5 x1 x2 z3 z4 z6 z7 I J = some t) (hC : (c_X12_parts Q) t) : Rn L xs (d + 3) 192 42 [some (.ref 61), some (.int x1), some (.int x2), z3, z4, none, z6, z7] [] 94 (I, J, xrf) Q := by
  unfold f_X12_parts_5 at h
  cases h
  exact Rn.ret 1 (o := (none, 94, (I, J, xrf))) (fun f => rfl) hC
theorem p_X12_parts_4 {L : Nat} {xs : Nat → Int32} {d : Nat} {Q : xO → Prop} (x1 : Int32) (x2 : Int32) (z3 : Option Value) (z4 : Option Value) (z6 : Option Value) (z7 : Option Value) (I : xI) (J : xJ) {t : Unit × xI × xJ} (h : f_X12_parts_4 x1 x2 z3 z4 z6 z7 I J = some t) (hC : (c_X12_parts Q) t) : Rn L xs (d + 3) 192 31 [some (.ref 61), some (.int x1), some (.int x2), z3, z4, none, z6, z7] [] 94 (I, J, xrf) Q := by
  unfold f_X12_parts_4 at h
  refine Rn.go 6 (j' := 192) (pc' := 39) (ls' := [some (.ref 61), some (.int x1), some (.int x2), z3, z4, none, z6, z7]) (st' := [.long 0, .int 0, .int ((I 61 4)), .int 0, .ref 61]) (n' := 94) (M' := (I, J, xrf)) (fun f => rfl) ?_
  obtain ⟨o, ho, h⟩ := Option.bind_eq_some_iff.mp h
  refine Rn.call (d1 := d + 2) (j1 := 191) (ls1 := [some (.ref 61), some (.int 0), some (.int ((I 61 4))), some (.int 0), some (.long 0), none]) (rest := []) (fun f => rfl) ?_
  refine p_X12_token (d := d + 1) 0 ((I 61 4)) 0 0 I J (t := o) ho ?_
  exact p_X12_parts_5 x1 x2 z3 z4 z6 z7 o.2.1 o.2.2 h hC
theorem p_X12_parts_3 {L : Nat} {xs : Nat → Int32} {d : Nat} {Q : xO → Prop} (x1 : Int32) (z2 : Option Value) (z3 : Option Value) (z4 : Option Value) (z6 : Option Value) (z7 : Option Value) (s0 : Int32) (I : xI) (J : xJ) {t : (Int32 × (Option Value) × (Option Value) × (Option Value) × (Option Value) × (Option Value) × xI × xJ) ⊕ (Unit × xI × xJ)} (h : f_X12_parts_3 x1 z2 z3 z4 z6 z7 s0 I J = some t) (hC : (c_X12_parts_1 L xs d Q) t) : Rn L xs (d + 3) 192 22 [some (.ref 61), some (.int x1), z2, z3, z4, none, z6, z7] [.int s0] 94 (I, J, xrf) Q := by
  unfold f_X12_parts_3 at h
  refine Rn.fi 5 (c := x1 < (I 61 4)) (p1 := 43) (l1 := [some (.ref 61), some (.int x1), some (.int s0), z3, z4, none, z6, z7]) (s1 := []) (n1 := 94) (M1 := (I, J, xrf)) (p2 := 31) (l2 := [some (.ref 61), some (.int x1), some (.int s0), z3, z4, none, z6, z7]) (s2 := []) (n2 := 94) (M2 := (I, J, xrf)) (fun f => rfl) (fun hc => ?_) (fun hc => ?_)
  · rw [if_pos hc] at h
    exact p_X12_parts_6 x1 s0 z3 z4 z6 z7 I J h hC
  · rw [if_neg hc] at h
    obtain ⟨t0, h0, rfl⟩ := Option.map_eq_some_iff.mp h
    exact p_X12_parts_4 x1 s0 z3 z4 z6 z7 I J h0 hC
theorem p_X12_parts_2 {L : Nat} {xs : Nat → Int32} {d : Nat} {Q : xO → Prop} (x1 : Int32) (z2 : Option Value) (z3 : Option Value) (z4 : Option Value) (z6 : Option Value) (z7 : Option Value) (I : xI) (J : xJ) {t : (Int32 × (Option Value) × (Option Value) × (Option Value) × (Option Value) × (Option Value) × xI × xJ) ⊕ (Unit × xI × xJ)} (h : f_X12_parts_2 x1 z2 z3 z4 z6 z7 I J = some t) (hC : (c_X12_parts_1 L xs d Q) t) : Rn L xs (d + 3) 192 17 [some (.ref 61), some (.int x1), z2, z3, z4, none, z6, z7] [] 94 (I, J, xrf) Q := by
  unfold f_X12_parts_2 at h
  refine Rn.go 2 (j' := 192) (pc' := 19) (ls' := [some (.ref 61), some (.int x1), z2, z3, z4, none, z6, z7]) (st' := [.int x1, .ref 61]) (n' := 94) (M' := (I, J, xrf)) (fun f => rfl) ?_
  obtain ⟨o, ho, h⟩ := Option.bind_eq_some_iff.mp h
  refine Rn.call (d1 := d + 2) (j1 := 186) (ls1 := [some (.ref 61), some (.int x1)]) (rest := []) (fun f => rfl) ?_
  refine p_X12_byteAt (d := d + 1) x1 I J (t := o) ho ?_
  exact p_X12_parts_3 x1 z2 z3 z4 z6 z7 o.1 o.2.1 o.2.2 h hC
theorem q_X12_parts_1 {L : Nat} {xs : Nat → Int32} {d : Nat} {Q : xO → Prop} (x1 : Int32) (z2 : Option Value) (z3 : Option Value) (z4 : Option Value) (z6 : Option Value) (z7 : Option Value) (I : xI) (J : xJ) {t : (Int32 × (Option Value) × (Option Value) × (Option Value) × (Option Value) × (Option Value) × xI × xJ) ⊕ (Unit × xI × xJ)} (h : b_X12_parts_1 x1 z2 z3 z4 z6 z7 I J = some t) (hC : (c_X12_parts_1 L xs d Q) t) : Rn L xs (d + 3) 192 7 [some (.ref 61), some (.int x1), z2, z3, z4, none, z6, z7] [] 94 (I, J, xrf) Q := by
  unfold b_X12_parts_1 at h
  refine Rn.fi 4 (c := 400 < (I 61 10)) (p1 := 293) (l1 := [some (.ref 61), some (.int x1), z2, z3, z4, none, z6, z7]) (s1 := []) (n1 := 94) (M1 := (I, J, xrf)) (p2 := 17) (l2 := [some (.ref 61), some (.int x1), z2, z3, z4, none, z6, z7]) (s2 := []) (n2 := 94) (M2 := (I, J, xrf)) (fun f => rfl) (fun hc => ?_) (fun hc => ?_)
  · rw [if_pos hc] at h
    obtain ⟨t0, h0, rfl⟩ := Option.map_eq_some_iff.mp h
    exact p_X12_parts_52 x1 z2 z3 z4 z6 z7 I J h0 hC
  · rw [if_neg hc] at h
    exact p_X12_parts_2 x1 z2 z3 z4 z6 z7 I J h hC
theorem p_X12_parts_1 {L : Nat} {xs : Nat → Int32} {d : Nat} {Q : xO → Prop} (x1 : Int32) (z2 : Option Value) (z3 : Option Value) (z4 : Option Value) (z6 : Option Value) (z7 : Option Value) (I : xI) (J : xJ) {t : Unit × xI × xJ} (h : f_X12_parts_1 x1 z2 z3 z4 z6 z7 I J = some t) (hC : (c_X12_parts Q) t) : Rn L xs (d + 3) 192 7 [some (.ref 61), some (.int x1), z2, z3, z4, none, z6, z7] [] 94 (I, J, xrf) Q := by
  unfold f_X12_parts_1 at h
  exact xloop_some (P := fun s : Int32 × (Option Value) × (Option Value) × (Option Value) × (Option Value) × (Option Value) × xI × xJ => Rn L xs (d + 3) 192 7 [some (.ref 61), some (.int s.1), s.2.1, s.2.2.1, s.2.2.2.1, none, s.2.2.2.2.1, s.2.2.2.2.2.1] [] 94 (s.2.2.2.2.2.2.1, s.2.2.2.2.2.2.2, xrf) Q) t (fun s ⟨s', hb, hp⟩ => q_X12_parts_1 s.1 s.2.1 s.2.2.1 s.2.2.2.1 s.2.2.2.2.1 s.2.2.2.2.2.1 s.2.2.2.2.2.2.1 s.2.2.2.2.2.2.2 hb hp) (fun s hb => q_X12_parts_1 s.1 s.2.1 s.2.2.1 s.2.2.2.1 s.2.2.2.2.1 s.2.2.2.2.2.1 s.2.2.2.2.2.2.1 s.2.2.2.2.2.2.2 hb hC) _ _ h
theorem p_X12_parts_0 {L : Nat} {xs : Nat → Int32} {d : Nat} {Q : xO → Prop} (I : xI) (J : xJ) {t : Unit × xI × xJ} (h : f_X12_parts_0 I J = some t) (hC : (c_X12_parts Q) t) : Rn L xs (d + 3) 192 0 [some (.ref 61), none, none, none, none, none, none, none] [] 94 (I, J, xrf) Q := by
  unfold f_X12_parts_0 at h
  refine Rn.go 5 (j' := 192) (pc' := 7) (ls' := [some (.ref 61), some (.int 0), none, none, none, none, none, none]) (st' := []) (n' := 94) (M' := ((xup I 61 10 0), J, xrf)) (fun f => rfl) ?_
  exact p_X12_parts_1 0 none none none none none ((xup I 61 10 0)) J h hC
theorem p_X12_parts {L : Nat} {xs : Nat → Int32} {d : Nat} {Q : xO → Prop} (I : xI) (J : xJ) {t : Unit × xI × xJ} (h : f_X12_parts I J = some t) (hC : Q (none, 94, (t.2.1, t.2.2, xrf))) : Rn L xs (d + 3) 192 0 [some (.ref 61), none, none, none, none, none, none, none] [] 94 (I, J, xrf) Q := p_X12_parts_0 I J h hC
/-! X12_is -/
def c_X12_is (Q : xO → Prop) (t : Int32 × xI × xJ) : Prop := Q ((some (.int t.1)), 94, (t.2.1, t.2.2, xrf))
def f_X12_is_4 (x1 : Int32) (s0 : Int32) (I : xI) (J : xJ) : Option (Int32 × xI × xJ) := if s0 = 0 ∨ s0 = 1 then some (s0, I, J) else none
def f_X12_is_3 (x1 : Int32) (I : xI) (J : xJ) : Option (Int32 × xI × xJ) := f_X12_is_4 x1 0 I J
def f_X12_is_2 (x1 : Int32) (I : xI) (J : xJ) : Option (Int32 × xI × xJ) := f_X12_is_4 x1 1 I J
def f_X12_is_1 (x1 : Int32) (I : xI) (J : xJ) : Option (Int32 × xI × xJ) := if (I 61 11) < 0 ∨ 403 ≤ ((I 61 11)).toNatClampNeg then none else if (I 64 ((I 61 11)).toNatClampNeg) = x1 then f_X12_is_2 x1 I J else f_X12_is_3 x1 I J
def f_X12_is_0 (x1 : Int32) (I : xI) (J : xJ) : Option (Int32 × xI × xJ) := if (I 61 12) = 0 then f_X12_is_1 x1 I J else f_X12_is_3 x1 I J
def f_X12_is (x1 : Int32) (I : xI) (J : xJ) : Option (Int32 × xI × xJ) := f_X12_is_0 x1 I J
theorem p_X12_is_4 {L : Nat} {xs : Nat → Int32} {d : Nat} {Q : xO → Prop} (x1 : Int32) (s0 : Int32) (I : xI) (J : xJ) {t : Int32 × xI × xJ} (h : f_X12_is_4 x1 s0 I J = some t) (hC : (c_X12_is Q) t) : Rn L xs (d + 1) 194 25 [some (.ref 61), some (.int x1)] [.int s0] 94 (I, J, xrf) Q := by
  unfold f_X12_is_4 at h
  obtain ⟨hc, h⟩ := xifT h
  cases h
  exact Rn.retT 1 (c := s0 = 0 ∨ s0 = 1) (o := ((some (.int s0)), 94, (I, J, xrf))) (fun f => rfl) hc hC
theorem p_X12_is_3 {L : Nat} {xs : Nat → Int32} {d : Nat} {Q : xO → Prop} (x1 : Int32) (I : xI) (J : xJ) {t : Int32 × xI × xJ} (h : f_X12_is_3 x1 I J = some t) (hC : (c_X12_is Q) t) : Rn L xs (d + 1) 194 24 [some (.ref 61), some (.int x1)] [] 94 (I, J, xrf) Q := by
  unfold f_X12_is_3 at h
  refine Rn.go 1 (j' := 194) (pc' := 25) (ls' := [some (.ref 61), some (.int x1)]) (st' := [.int 0]) (n' := 94) (M' := (I, J, xrf)) (fun f => rfl) ?_
  exact p_X12_is_4 x1 0 I J h hC
theorem p_X12_is_2 {L : Nat} {xs : Nat → Int32} {d : Nat} {Q : xO → Prop} (x1 : Int32) (I : xI) (J : xJ) {t : Int32 × xI × xJ} (h : f_X12_is_2 x1 I J = some t) (hC : (c_X12_is Q) t) : Rn L xs (d + 1) 194 20 [some (.ref 61), some (.int x1)] [] 94 (I, J, xrf) Q := by
  unfold f_X12_is_2 at h
  refine Rn.go 2 (j' := 194) (pc' := 25) (ls' := [some (.ref 61), some (.int x1)]) (st' := [.int 1]) (n' := 94) (M' := (I, J, xrf)) (fun f => rfl) ?_
  exact p_X12_is_4 x1 1 I J h hC
theorem p_X12_is_1 {L : Nat} {xs : Nat → Int32} {d : Nat} {Q : xO → Prop} (x1 : Int32) (I : xI) (J : xJ) {t : Int32 × xI × xJ} (h : f_X12_is_1 x1 I J = some t) (hC : (c_X12_is Q) t) : Rn L xs (d + 1) 194 7 [some (.ref 61), some (.int x1)] [] 94 (I, J, xrf) Q := by
  unfold f_X12_is_1 at h
  obtain ⟨hc, h⟩ := xif h
  refine Rn.ok 5 (c := (I 61 11) < 0 ∨ 403 ≤ ((I 61 11)).toNatClampNeg) (p1 := 16) (l1 := [some (.ref 61), some (.int x1)]) (s1 := [.int ((I 64 ((I 61 11)).toNatClampNeg))]) (n1 := 94) (M1 := (I, J, xrf)) (fun f => rfl) hc ?_
  refine Rn.fi 2 (c := (I 64 ((I 61 11)).toNatClampNeg) = x1) (p1 := 20) (l1 := [some (.ref 61), some (.int x1)]) (s1 := []) (n1 := 94) (M1 := (I, J, xrf)) (p2 := 24) (l2 := [some (.ref 61), some (.int x1)]) (s2 := []) (n2 := 94) (M2 := (I, J, xrf)) (fun f => rfl) (fun hc => ?_) (fun hc => ?_)
  · rw [if_pos hc] at h
    exact p_X12_is_2 x1 I J h hC
  · rw [if_neg hc] at h
    exact p_X12_is_3 x1 I J h hC
theorem p_X12_is_0 {L : Nat} {xs : Nat → Int32} {d : Nat} {Q : xO → Prop} (x1 : Int32) (I : xI) (J : xJ) {t : Int32 × xI × xJ} (h : f_X12_is_0 x1 I J = some t) (hC : (c_X12_is Q) t) : Rn L xs (d + 1) 194 0 [some (.ref 61), some (.int x1)] [] 94 (I, J, xrf) Q := by
  unfold f_X12_is_0 at h
  refine Rn.fi 3 (c := (I 61 12) = 0) (p1 := 7) (l1 := [some (.ref 61), some (.int x1)]) (s1 := []) (n1 := 94) (M1 := (I, J, xrf)) (p2 := 24) (l2 := [some (.ref 61), some (.int x1)]) (s2 := []) (n2 := 94) (M2 := (I, J, xrf)) (fun f => rfl) (fun hc => ?_) (fun hc => ?_)
  · rw [if_pos hc] at h
    exact p_X12_is_1 x1 I J h hC
  · rw [if_neg hc] at h
    exact p_X12_is_3 x1 I J h hC
theorem p_X12_is {L : Nat} {xs : Nat → Int32} {d : Nat} {Q : xO → Prop} (x1 : Int32) (I : xI) (J : xJ) {t : Int32 × xI × xJ} (h : f_X12_is x1 I J = some t) (hC : Q ((some (.int t.1)), 94, (t.2.1, t.2.2, xrf))) : Rn L xs (d + 1) 194 0 [some (.ref 61), some (.int x1)] [] 94 (I, J, xrf) Q := p_X12_is_0 x1 I J h hC
/-! X12_fail -/
def c_X12_fail (Q : xO → Prop) (t : Unit × xI × xJ) : Prop := Q (none, 94, (t.2.1, t.2.2, xrf))
def f_X12_fail_2 (x1 : Int32) (I : xI) (J : xJ) : Option (Unit × xI × xJ) := if (((xup I 61 12 x1)) 61 11) < 0 ∨ 403 ≤ ((((xup I 61 12 x1)) 61 11)).toNatClampNeg then none else some ((), (xup ((xup I 61 12 x1)) 61 13 ((((xup I 61 12 x1)) 65 ((((xup I 61 12 x1)) 61 11)).toNatClampNeg))), J)
def f_X12_fail_1 (x1 : Int32) (I : xI) (J : xJ) : Option (Unit × xI × xJ) := some ((), I, J)
def f_X12_fail_0 (x1 : Int32) (I : xI) (J : xJ) : Option (Unit × xI × xJ) := if (I 61 12) ≤ 0 then f_X12_fail_2 x1 I J else f_X12_fail_1 x1 I J
def f_X12_fail (x1 : Int32) (I : xI) (J : xJ) : Option (Unit × xI × xJ) := f_X12_fail_0 x1 I J
theorem p_X12_fail_2 {L : Nat} {xs : Nat → Int32} {d : Nat} {Q : xO → Prop} (x1 : Int32) (I : xI) (J : xJ) {t : Unit × xI × xJ} (h : f_X12_fail_2 x1 I J = some t) (hC : (c_X12_fail Q) t) : Rn L xs (d + 1) 195 8 [some (.ref 61), some (.int x1)] [] 94 (I, J, xrf) Q := by
  unfold f_X12_fail_2 at h
  obtain ⟨hc, h⟩ := xif h
  refine Rn.ok 9 (c := (((xup I 61 12 x1)) 61 11) < 0 ∨ 403 ≤ ((((xup I 61 12 x1)) 61 11)).toNatClampNeg) (p1 := 23) (l1 := [some (.ref 61), some (.int x1)]) (s1 := [.int ((((xup I 61 12 x1)) 65 ((((xup I 61 12 x1)) 61 11)).toNatClampNeg)), .ref 61]) (n1 := 94) (M1 := ((xup I 61 12 x1), J, xrf)) (fun f => rfl) hc ?_
  cases h
  exact Rn.ret 2 (o := (none, 94, ((xup ((xup I 61 12 x1)) 61 13 ((((xup I 61 12 x1)) 65 ((((xup I 61 12 x1)) 61 11)).toNatClampNeg))), J, xrf))) (fun f => rfl) hC
theorem p_X12_fail_1 {L : Nat} {xs : Nat → Int32} {d : Nat} {Q : xO → Prop} (x1 : Int32) (I : xI) (J : xJ) {t : Unit × xI × xJ} (h : f_X12_fail_1 x1 I J = some t) (hC : (c_X12_fail Q) t) : Rn L xs (d + 1) 195 7 [some (.ref 61), some (.int x1)] [] 94 (I, J, xrf) Q := by
  unfold f_X12_fail_1 at h
  cases h
  exact Rn.ret 1 (o := (none, 94, (I, J, xrf))) (fun f => rfl) hC
theorem p_X12_fail_0 {L : Nat} {xs : Nat → Int32} {d : Nat} {Q : xO → Prop} (x1 : Int32) (I : xI) (J : xJ) {t : Unit × xI × xJ} (h : f_X12_fail_0 x1 I J = some t) (hC : (c_X12_fail Q) t) : Rn L xs (d + 1) 195 0 [some (.ref 61), some (.int x1)] [] 94 (I, J, xrf) Q := by
  unfold f_X12_fail_0 at h
  refine Rn.fi 3 (c := (I 61 12) ≤ 0) (p1 := 8) (l1 := [some (.ref 61), some (.int x1)]) (s1 := []) (n1 := 94) (M1 := (I, J, xrf)) (p2 := 7) (l2 := [some (.ref 61), some (.int x1)]) (s2 := []) (n2 := 94) (M2 := (I, J, xrf)) (fun f => rfl) (fun hc => ?_) (fun hc => ?_)
  · rw [if_pos hc] at h
    exact p_X12_fail_2 x1 I J h hC
  · rw [if_neg hc] at h
    exact p_X12_fail_1 x1 I J h hC
theorem p_X12_fail {L : Nat} {xs : Nat → Int32} {d : Nat} {Q : xO → Prop} (x1 : Int32) (I : xI) (J : xJ) {t : Unit × xI × xJ} (h : f_X12_fail x1 I J = some t) (hC : Q (none, 94, (t.2.1, t.2.2, xrf))) : Rn L xs (d + 1) 195 0 [some (.ref 61), some (.int x1)] [] 94 (I, J, xrf) Q := p_X12_fail_0 x1 I J h hC
/-! X12_passes -/
def c_X12_passes (Q : xO → Prop) (t : Unit × xI × xJ) : Prop := Q (none, 94, (t.2.1, t.2.2, xrf))
def f_X12_passes_4 (I : xI) (J : xJ) : Option (Unit × xI × xJ) := some ((), I, J)
def f_X12_passes_3 (I : xI) (J : xJ) : Option (Unit × xI × xJ) := f_X12_passes_4 ((xup I 61 11 (((I 61 11) + 1)))) J
def f_X12_passes_2 (I : xI) (J : xJ) : Option (Unit × xI × xJ) := f_X12_passes_4 I J
def f_X12_passes_1 (I : xI) (J : xJ) : Option (Unit × xI × xJ) := (f_X12_fail 2 I J).bind fun o => f_X12_passes_2 o.2.1 o.2.2
def f_X12_passes_0 (I : xI) (J : xJ) : Option (Unit × xI × xJ) := if (I 61 11) = 400 then f_X12_passes_1 I J else f_X12_passes_3 I J
def f_X12_passes (I : xI) (J : xJ) : Option (Unit × xI × xJ) := f_X12_passes_0 I J
theorem p_X12_passes_4 {L : Nat} {xs : Nat → Int32} {d : Nat} {Q : xO → Prop} (I : xI) (J : xJ) {t : Unit × xI × xJ} (h : f_X12_passes_4 I J = some t) (hC : (c_X12_passes Q) t) : Rn L xs (d + 2) 197 28 [some (.ref 61)] [] 94 (I, J, xrf) Q := by
  unfold f_X12_passes_4 at h
  cases h
  exact Rn.ret 1 (o := (none, 94, (I, J, xrf))) (fun f => rfl) hC
theorem p_X12_passes_3 {L : Nat} {xs : Nat → Int32} {d : Nat} {Q : xO → Prop} (I : xI) (J : xJ) {t : Unit × xI × xJ} (h : f_X12_passes_3 I J = some t) (hC : (c_X12_passes Q) t) : Rn L xs (d + 2) 197 18 [some (.ref 61)] [] 94 (I, J, xrf) Q := by
  unfold f_X12_passes_3 at h
  refine Rn.go 6 (j' := 197) (pc' := 28) (ls' := [some (.ref 61)]) (st' := []) (n' := 94) (M' := ((xup I 61 11 (((I 61 11) + 1))), J, xrf)) (fun f => rfl) ?_
  exact p_X12_passes_4 ((xup I 61 11 (((I 61 11) + 1)))) J h hC
theorem p_X12_passes_2 {L : Nat} {xs : Nat → Int32} {d : Nat} {Q : xO → Prop} (I : xI) (J : xJ) {t : Unit × xI × xJ} (h : f_X12_passes_2 I J = some t) (hC : (c_X12_passes Q) t) : Rn L xs (d + 2) 197 15 [some (.ref 61)] [] 94 (I, J, xrf) Q := by
  unfold f_X12_passes_2 at h
  refine Rn.go 1 (j' := 197) (pc' := 28) (ls' := [some (.ref 61)]) (st' := []) (n' := 94) (M' := (I, J, xrf)) (fun f => rfl) ?_
  exact p_X12_passes_4 I J h hC
theorem p_X12_passes_1 {L : Nat} {xs : Nat → Int32} {d : Nat} {Q : xO → Prop} (I : xI) (J : xJ) {t : Unit × xI × xJ} (h : f_X12_passes_1 I J = some t) (hC : (c_X12_passes Q) t) : Rn L xs (d + 2) 197 10 [some (.ref 61)] [] 94 (I, J, xrf) Q := by
  unfold f_X12_passes_1 at h
  refine Rn.go 2 (j' := 197) (pc' := 12) (ls' := [some (.ref 61)]) (st' := [.int 2, .ref 61]) (n' := 94) (M' := (I, J, xrf)) (fun f => rfl) ?_
  obtain ⟨o, ho, h⟩ := Option.bind_eq_some_iff.mp h
  refine Rn.call (d1 := d + 1) (j1 := 195) (ls1 := [some (.ref 61), some (.int 2)]) (rest := []) (fun f => rfl) ?_
  refine p_X12_fail (d := d + 0) 2 I J (t := o) ho ?_
  exact p_X12_passes_2 o.2.1 o.2.2 h hC
theorem p_X12_passes_0 {L : Nat} {xs : Nat → Int32} {d : Nat} {Q : xO → Prop} (I : xI) (J : xJ) {t : Unit × xI × xJ} (h : f_X12_passes_0 I J = some t) (hC : (c_X12_passes Q) t) : Rn L xs (d + 2) 197 0 [some (.ref 61)] [] 94 (I, J, xrf) Q := by
  unfold f_X12_passes_0 at h
  refine Rn.fi 4 (c := (I 61 11) = 400) (p1 := 10) (l1 := [some (.ref 61)]) (s1 := []) (n1 := 94) (M1 := (I, J, xrf)) (p2 := 18) (l2 := [some (.ref 61)]) (s2 := []) (n2 := 94) (M2 := (I, J, xrf)) (fun f => rfl) (fun hc => ?_) (fun hc => ?_)
  · rw [if_pos hc] at h
    exact p_X12_passes_1 I J h hC
  · rw [if_neg hc] at h
    exact p_X12_passes_3 I J h hC
theorem p_X12_passes {L : Nat} {xs : Nat → Int32} {d : Nat} {Q : xO → Prop} (I : xI) (J : xJ) {t : Unit × xI × xJ} (h : f_X12_passes I J = some t) (hC : Q (none, 94, (t.2.1, t.2.2, xrf))) : Rn L xs (d + 2) 197 0 [some (.ref 61)] [] 94 (I, J, xrf) Q := p_X12_passes_0 I J h hC
/-! X12_must -/
def c_X12_must (Q : xO → Prop) (t : Unit × xI × xJ) : Prop := Q (none, 94, (t.2.1, t.2.2, xrf))
def f_X12_must_5 (x1 : Int32) (I : xI) (J : xJ) : Option (Unit × xI × xJ) := some ((), I, J)
def f_X12_must_4 (x1 : Int32) (I : xI) (J : xJ) : Option (Unit × xI × xJ) := (f_X12_fail 1 I J).bind fun o => f_X12_must_5 x1 o.2.1 o.2.2
def f_X12_must_3 (x1 : Int32) (I : xI) (J : xJ) : Option (Unit × xI × xJ) := f_X12_must_5 x1 I J
def f_X12_must_2 (x1 : Int32) (I : xI) (J : xJ) : Option (Unit × xI × xJ) := (f_X12_passes I J).bind fun o => f_X12_must_3 x1 o.2.1 o.2.2
def f_X12_must_1 (x1 : Int32) (s0 : Int32) (I : xI) (J : xJ) : Option (Unit × xI × xJ) := if s0 = 0 then f_X12_must_4 x1 I J else f_X12_must_2 x1 I J
def f_X12_must_0 (x1 : Int32) (I : xI) (J : xJ) : Option (Unit × xI × xJ) := (f_X12_is x1 I J).bind fun o => f_X12_must_1 x1 o.1 o.2.1 o.2.2
def f_X12_must (x1 : Int32) (I : xI) (J : xJ) : Option (Unit × xI × xJ) := f_X12_must_0 x1 I J
theorem p_X12_must_5 {L : Nat} {xs : Nat → Int32} {d : Nat} {Q : xO → Prop} (x1 : Int32) (I : xI) (J : xJ) {t : Unit × xI × xJ} (h : f_X12_must_5 x1 I J = some t) (hC : (c_X12_must Q) t) : Rn L xs (d + 3) 198 20 [some (.ref 61), some (.int x1)] [] 94 (I, J, xrf) Q := by
  unfold f_X12_must_5 at h
  cases h
  exact Rn.ret 1 (o := (none, 94, (I, J, xrf))) (fun f => rfl) hC
theorem p_X12_must_4 {L : Nat} {xs : Nat → Int32} {d : Nat} {Q : xO → Prop} (x1 : Int32) (I : xI) (J : xJ) {t : Unit × xI × xJ} (h : f_X12_must_4 x1 I J = some t) (hC : (c_X12_must Q) t) : Rn L xs (d + 3) 198 15 [some (.ref 61), some (.int x1)] [] 94 (I, J, xrf) Q := by
  unfold f_X12_must_4 at h
  refine Rn.go 2 (j' := 198) (pc' := 17) (ls' := [some (.ref 61), some (.int x1)]) (st' := [.int 1, .ref 61]) (n' := 94) (M' := (I, J, xrf)) (fun f => rfl) ?_
  obtain ⟨o, ho, h⟩ := Option.bind_eq_some_iff.mp h
  refine Rn.call (d1 := d + 2) (j1 := 195) (ls1 := [some (.ref 61), some (.int 1)]) (rest := []) (fun f => rfl) ?_
  refine p_X12_fail (d := d + 1) 1 I J (t := o) ho ?_
  exact p_X12_must_5 x1 o.2.1 o.2.2 h hC
theorem p_X12_must_3 {L : Nat} {xs : Nat → Int32} {d : Nat} {Q : xO → Prop} (x1 : Int32) (I : xI) (J : xJ) {t : Unit × xI × xJ} (h : f_X12_must_3 x1 I J = some t) (hC : (c_X12_must Q) t) : Rn L xs (d + 3) 198 12 [some (.ref 61), some (.int x1)] [] 94 (I, J, xrf) Q := by
  unfold f_X12_must_3 at h
  refine Rn.go 1 (j' := 198) (pc' := 20) (ls' := [some (.ref 61), some (.int x1)]) (st' := []) (n' := 94) (M' := (I, J, xrf)) (fun f => rfl) ?_
  exact p_X12_must_5 x1 I J h hC
theorem p_X12_must_2 {L : Nat} {xs : Nat → Int32} {d : Nat} {Q : xO → Prop} (x1 : Int32) (I : xI) (J : xJ) {t : Unit × xI × xJ} (h : f_X12_must_2 x1 I J = some t) (hC : (c_X12_must Q) t) : Rn L xs (d + 3) 198 8 [some (.ref 61), some (.int x1)] [] 94 (I, J, xrf) Q := by
  unfold f_X12_must_2 at h
  refine Rn.go 1 (j' := 198) (pc' := 9) (ls' := [some (.ref 61), some (.int x1)]) (st' := [.ref 61]) (n' := 94) (M' := (I, J, xrf)) (fun f => rfl) ?_
  obtain ⟨o, ho, h⟩ := Option.bind_eq_some_iff.mp h
  refine Rn.call (d1 := d + 2) (j1 := 197) (ls1 := [some (.ref 61)]) (rest := []) (fun f => rfl) ?_
  refine p_X12_passes (d := d + 0) I J (t := o) ho ?_
  exact p_X12_must_3 x1 o.2.1 o.2.2 h hC
theorem p_X12_must_1 {L : Nat} {xs : Nat → Int32} {d : Nat} {Q : xO → Prop} (x1 : Int32) (s0 : Int32) (I : xI) (J : xJ) {t : Unit × xI × xJ} (h : f_X12_must_1 x1 s0 I J = some t) (hC : (c_X12_must Q) t) : Rn L xs (d + 3) 198 5 [some (.ref 61), some (.int x1)] [.int s0] 94 (I, J, xrf) Q := by
  unfold f_X12_must_1 at h
  refine Rn.fi 1 (c := s0 = 0) (p1 := 15) (l1 := [some (.ref 61), some (.int x1)]) (s1 := []) (n1 := 94) (M1 := (I, J, xrf)) (p2 := 8) (l2 := [some (.ref 61), some (.int x1)]) (s2 := []) (n2 := 94) (M2 := (I, J, xrf)) (fun f => rfl) (fun hc => ?_) (fun hc => ?_)
  · rw [if_pos hc] at h
    exact p_X12_must_4 x1 I J h hC
  · rw [if_neg hc] at h
    exact p_X12_must_2 x1 I J h hC
theorem p_X12_must_0 {L : Nat} {xs : Nat → Int32} {d : Nat} {Q : xO → Prop} (x1 : Int32) (I : xI) (J : xJ) {t : Unit × xI × xJ} (h : f_X12_must_0 x1 I J = some t) (hC : (c_X12_must Q) t) : Rn L xs (d + 3) 198 0 [some (.ref 61), some (.int x1)] [] 94 (I, J, xrf) Q := by
  unfold f_X12_must_0 at h
  refine Rn.go 2 (j' := 198) (pc' := 2) (ls' := [some (.ref 61), some (.int x1)]) (st' := [.int x1, .ref 61]) (n' := 94) (M' := (I, J, xrf)) (fun f => rfl) ?_
  obtain ⟨o, ho, h⟩ := Option.bind_eq_some_iff.mp h
  refine Rn.call (d1 := d + 2) (j1 := 194) (ls1 := [some (.ref 61), some (.int x1)]) (rest := []) (fun f => rfl) ?_
  refine p_X12_is (d := d + 1) x1 I J (t := o) ho ?_
  exact p_X12_must_1 x1 o.1 o.2.1 o.2.2 h hC
theorem p_X12_must {L : Nat} {xs : Nat → Int32} {d : Nat} {Q : xO → Prop} (x1 : Int32) (I : xI) (J : xJ) {t : Unit × xI × xJ} (h : f_X12_must x1 I J = some t) (hC : Q (none, 94, (t.2.1, t.2.2, xrf))) : Rn L xs (d + 3) 198 0 [some (.ref 61), some (.int x1)] [] 94 (I, J, xrf) Q := p_X12_must_0 x1 I J h hC
/-! X12_in -/
def c_X12_in (Q : xO → Prop) (t : Int32 × xI × xJ) : Prop := Q ((some (.int t.1)), 94, (t.2.1, t.2.2, xrf))
def f_X12_in_4 (x0 : Int32) (x1 : Int32) (x2 : Int32) (s0 : Int32) (I : xI) (J : xJ) : Option (Int32 × xI × xJ) := if s0 = 0 ∨ s0 = 1 then some (s0, I, J) else none
def f_X12_in_3 (x0 : Int32) (x1 : Int32) (x2 : Int32) (I : xI) (J : xJ) : Option (Int32 × xI × xJ) := f_X12_in_4 x0 x1 x2 0 I J
def f_X12_in_2 (x0 : Int32) (x1 : Int32) (x2 : Int32) (I : xI) (J : xJ) : Option (Int32 × xI × xJ) := f_X12_in_4 x0 x1 x2 1 I J
def f_X12_in_1 (x0 : Int32) (x1 : Int32) (x2 : Int32) (I : xI) (J : xJ) : Option (Int32 × xI × xJ) := if x2 < x0 then f_X12_in_3 x0 x1 x2 I J else f_X12_in_2 x0 x1 x2 I J
def f_X12_in_0 (x0 : Int32) (x1 : Int32) (x2 : Int32) (I : xI) (J : xJ) : Option (Int32 × xI × xJ) := if x0 < x1 then f_X12_in_3 x0 x1 x2 I J else f_X12_in_1 x0 x1 x2 I J
def f_X12_in (x0 : Int32) (x1 : Int32) (x2 : Int32) (I : xI) (J : xJ) : Option (Int32 × xI × xJ) := f_X12_in_0 x0 x1 x2 I J
theorem p_X12_in_4 {L : Nat} {xs : Nat → Int32} {d : Nat} {Q : xO → Prop} (x0 : Int32) (x1 : Int32) (x2 : Int32) (s0 : Int32) (I : xI) (J : xJ) {t : Int32 × xI × xJ} (h : f_X12_in_4 x0 x1 x2 s0 I J = some t) (hC : (c_X12_in Q) t) : Rn L xs (d + 1) 206 15 [some (.int x0), some (.int x1), some (.int x2)] [.int s0] 94 (I, J, xrf) Q := by
  unfold f_X12_in_4 at h
  obtain ⟨hc, h⟩ := xifT h
  cases h
  exact Rn.retT 1 (c := s0 = 0 ∨ s0 = 1) (o := ((some (.int s0)), 94, (I, J, xrf))) (fun f => rfl) hc hC
theorem p_X12_in_3 {L : Nat} {xs : Nat → Int32} {d : Nat} {Q : xO → Prop} (x0 : Int32) (x1 : Int32) (x2 : Int32) (I : xI) (J : xJ) {t : Int32 × xI × xJ} (h : f_X12_in_3 x0 x1 x2 I J = some t) (hC : (c_X12_in Q) t) : Rn L xs (d + 1) 206 14 [some (.int x0), some (.int x1), some (.int x2)] [] 94 (I, J, xrf) Q := by
  unfold f_X12_in_3 at h
  refine Rn.go 1 (j' := 206) (pc' := 15) (ls' := [some (.int x0), some (.int x1), some (.int x2)]) (st' := [.int 0]) (n' := 94) (M' := (I, J, xrf)) (fun f => rfl) ?_
  exact p_X12_in_4 x0 x1 x2 0 I J h hC
theorem p_X12_in_2 {L : Nat} {xs : Nat → Int32} {d : Nat} {Q : xO → Prop} (x0 : Int32) (x1 : Int32) (x2 : Int32) (I : xI) (J : xJ) {t : Int32 × xI × xJ} (h : f_X12_in_2 x0 x1 x2 I J = some t) (hC : (c_X12_in Q) t) : Rn L xs (d + 1) 206 10 [some (.int x0), some (.int x1), some (.int x2)] [] 94 (I, J, xrf) Q := by
  unfold f_X12_in_2 at h
  refine Rn.go 2 (j' := 206) (pc' := 15) (ls' := [some (.int x0), some (.int x1), some (.int x2)]) (st' := [.int 1]) (n' := 94) (M' := (I, J, xrf)) (fun f => rfl) ?_
  exact p_X12_in_4 x0 x1 x2 1 I J h hC
theorem p_X12_in_1 {L : Nat} {xs : Nat → Int32} {d : Nat} {Q : xO → Prop} (x0 : Int32) (x1 : Int32) (x2 : Int32) (I : xI) (J : xJ) {t : Int32 × xI × xJ} (h : f_X12_in_1 x0 x1 x2 I J = some t) (hC : (c_X12_in Q) t) : Rn L xs (d + 1) 206 5 [some (.int x0), some (.int x1), some (.int x2)] [] 94 (I, J, xrf) Q := by
  unfold f_X12_in_1 at h
  refine Rn.fi 3 (c := x2 < x0) (p1 := 14) (l1 := [some (.int x0), some (.int x1), some (.int x2)]) (s1 := []) (n1 := 94) (M1 := (I, J, xrf)) (p2 := 10) (l2 := [some (.int x0), some (.int x1), some (.int x2)]) (s2 := []) (n2 := 94) (M2 := (I, J, xrf)) (fun f => rfl) (fun hc => ?_) (fun hc => ?_)
  · rw [if_pos hc] at h
    exact p_X12_in_3 x0 x1 x2 I J h hC
  · rw [if_neg hc] at h
    exact p_X12_in_2 x0 x1 x2 I J h hC
theorem p_X12_in_0 {L : Nat} {xs : Nat → Int32} {d : Nat} {Q : xO → Prop} (x0 : Int32) (x1 : Int32) (x2 : Int32) (I : xI) (J : xJ) {t : Int32 × xI × xJ} (h : f_X12_in_0 x0 x1 x2 I J = some t) (hC : (c_X12_in Q) t) : Rn L xs (d + 1) 206 0 [some (.int x0), some (.int x1), some (.int x2)] [] 94 (I, J, xrf) Q := by
  unfold f_X12_in_0 at h
  refine Rn.fi 3 (c := x0 < x1) (p1 := 14) (l1 := [some (.int x0), some (.int x1), some (.int x2)]) (s1 := []) (n1 := 94) (M1 := (I, J, xrf)) (p2 := 5) (l2 := [some (.int x0), some (.int x1), some (.int x2)]) (s2 := []) (n2 := 94) (M2 := (I, J, xrf)) (fun f => rfl) (fun hc => ?_) (fun hc => ?_)
  · rw [if_pos hc] at h
    exact p_X12_in_3 x0 x1 x2 I J h hC
  · rw [if_neg hc] at h
    exact p_X12_in_1 x0 x1 x2 I J h hC
theorem p_X12_in {L : Nat} {xs : Nat → Int32} {d : Nat} {Q : xO → Prop} (x0 : Int32) (x1 : Int32) (x2 : Int32) (I : xI) (J : xJ) {t : Int32 × xI × xJ} (h : f_X12_in x0 x1 x2 I J = some t) (hC : Q ((some (.int t.1)), 94, (t.2.1, t.2.2, xrf))) : Rn L xs (d + 1) 206 0 [some (.int x0), some (.int x1), some (.int x2)] [] 94 (I, J, xrf) Q := p_X12_in_0 x0 x1 x2 I J h hC
/-! X12_either -/
def c_X12_either (Q : xO → Prop) (t : Unit × xI × xJ) : Prop := Q (none, 94, (t.2.1, t.2.2, xrf))
def f_X12_either_7 (x1 : Int32) (x2 : Int32) (I : xI) (J : xJ) : Option (Unit × xI × xJ) := some ((), I, J)
def f_X12_either_5 (x1 : Int32) (x2 : Int32) (I : xI) (J : xJ) : Option (Unit × xI × xJ) := f_X12_either_7 x1 x2 I J
def f_X12_either_4 (x1 : Int32) (x2 : Int32) (I : xI) (J : xJ) : Option (Unit × xI × xJ) := (f_X12_passes I J).bind fun o => f_X12_either_5 x1 x2 o.2.1 o.2.2
def f_X12_either_6 (x1 : Int32) (x2 : Int32) (I : xI) (J : xJ) : Option (Unit × xI × xJ) := (f_X12_fail 1 I J).bind fun o => f_X12_either_7 x1 x2 o.2.1 o.2.2
def f_X12_either_3 (x1 : Int32) (x2 : Int32) (s0 : Int32) (I : xI) (J : xJ) : Option (Unit × xI × xJ) := if s0 = 0 then f_X12_either_6 x1 x2 I J else f_X12_either_4 x1 x2 I J
def f_X12_either_2 (x1 : Int32) (x2 : Int32) (I : xI) (J : xJ) : Option (Unit × xI × xJ) := (f_X12_is x2 I J).bind fun o => f_X12_either_3 x1 x2 o.1 o.2.1 o.2.2
def f_X12_either_1 (x1 : Int32) (x2 : Int32) (s0 : Int32) (I : xI) (J : xJ) : Option (Unit × xI × xJ) := if s0 = 0 then f_X12_either_2 x1 x2 I J else f_X12_either_4 x1 x2 I J
def f_X12_either_0 (x1 : Int32) (x2 : Int32) (I : xI) (J : xJ) : Option (Unit × xI × xJ) := (f_X12_is x1 I J).bind fun o => f_X12_either_1 x1 x2 o.1 o.2.1 o.2.2
def f_X12_either (x1 : Int32) (x2 : Int32) (I : xI) (J : xJ) : Option (Unit × xI × xJ) := f_X12_either_0 x1 x2 I J
theorem p_X12_either_7 {L : Nat} {xs : Nat → Int32} {d : Nat} {Q : xO → Prop} (x1 : Int32) (x2 : Int32) (I : xI) (J : xJ) {t : Unit × xI × xJ} (h : f_X12_either_7 x1 x2 I J = some t) (hC : (c_X12_either Q) t) : Rn L xs (d + 3) 201 28 [some (.ref 61), some (.int x1), some (.int x2)] [] 94 (I, J, xrf) Q := by
  unfold f_X12_either_7 at h
  cases h
  exact Rn.ret 1 (o := (none, 94, (I, J, xrf))) (fun f => rfl) hC
theorem p_X12_either_5 {L : Nat} {xs : Nat → Int32} {d : Nat} {Q : xO → Prop} (x1 : Int32) (x2 : Int32) (I : xI) (J : xJ) {t : Unit × xI × xJ} (h : f_X12_either_5 x1 x2 I J = some t) (hC : (c_X12_either Q) t) : Rn L xs (d + 3) 201 20 [some (.ref 61), some (.int x1), some (.int x2)] [] 94 (I, J, xrf) Q := by
  unfold f_X12_either_5 at h
  refine Rn.go 1 (j' := 201) (pc' := 28) (ls' := [some (.ref 61), some (.int x1), some (.int x2)]) (st' := []) (n' := 94) (M' := (I, J, xrf)) (fun f => rfl) ?_
  exact p_X12_either_7 x1 x2 I J h hC
theorem p_X12_either_4 {L : Nat} {xs : Nat → Int32} {d : Nat} {Q : xO → Prop} (x1 : Int32) (x2 : Int32) (I : xI) (J : xJ) {t : Unit × xI × xJ} (h : f_X12_either_4 x1 x2 I J = some t) (hC : (c_X12_either Q) t) : Rn L xs (d + 3) 201 16 [some (.ref 61), some (.int x1), some (.int x2)] [] 94 (I, J, xrf) Q := by
  unfold f_X12_either_4 at h
  refine Rn.go 1 (j' := 201) (pc' := 17) (ls' := [some (.ref 61), some (.int x1), some (.int x2)]) (st' := [.ref 61]) (n' := 94) (M' := (I, J, xrf)) (fun f => rfl) ?_
  obtain ⟨o, ho, h⟩ := Option.bind_eq_some_iff.mp h
  refine Rn.call (d1 := d + 2) (j1 := 197) (ls1 := [some (.ref 61)]) (rest := []) (fun f => rfl) ?_
  refine p_X12_passes (d := d + 0) I J (t := o) ho ?_
  exact p_X12_either_5 x1 x2 o.2.1 o.2.2 h hC
theorem p_X12_either_6 {L : Nat} {xs : Nat → Int32} {d : Nat} {Q : xO → Prop} (x1 : Int32) (x2 : Int32) (I : xI) (J : xJ) {t : Unit × xI × xJ} (h : f_X12_either_6 x1 x2 I J = some t) (hC : (c_X12_either Q) t) : Rn L xs (d + 3) 201 23 [some (.ref 61), some (.int x1), some (.int x2)] [] 94 (I, J, xrf) Q := by
  unfold f_X12_either_6 at h
  refine Rn.go 2 (j' := 201) (pc' := 25) (ls' := [some (.ref 61), some (.int x1), some (.int x2)]) (st' := [.int 1, .ref 61]) (n' := 94) (M' := (I, J, xrf)) (fun f => rfl) ?_
  obtain ⟨o, ho, h⟩ := Option.bind_eq_some_iff.mp h
  refine Rn.call (d1 := d + 2) (j1 := 195) (ls1 := [some (.ref 61), some (.int 1)]) (rest := []) (fun f => rfl) ?_
  refine p_X12_fail (d := d + 1) 1 I J (t := o) ho ?_
  exact p_X12_either_7 x1 x2 o.2.1 o.2.2 h hC
theorem p_X12_either_3 {L : Nat} {xs : Nat → Int32} {d : Nat} {Q : xO → Prop} (x1 : Int32) (x2 : Int32) (s0 : Int32) (I : xI) (J : xJ) {t : Unit × xI × xJ} (h : f_X12_either_3 x1 x2 s0 I J = some t) (hC : (c_X12_either Q) t) : Rn L xs (d + 3) 201 13 [some (.ref 61), some (.int x1), some (.int x2)] [.int s0] 94 (I, J, xrf) Q := by
  unfold f_X12_either_3 at h
  refine Rn.fi 1 (c := s0 = 0) (p1 := 23) (l1 := [some (.ref 61), some (.int x1), some (.int x2)]) (s1 := []) (n1 := 94) (M1 := (I, J, xrf)) (p2 := 16) (l2 := [some (.ref 61), some (.int x1), some (.int x2)]) (s2 := []) (n2 := 94) (M2 := (I, J, xrf)) (fun f => rfl) (fun hc => ?_) (fun hc => ?_)
  · rw [if_pos hc] at h
    exact p_X12_either_6 x1 x2 I J h hC
  · rw [if_neg hc] at h
    exact p_X12_either_4 x1 x2 I J h hC
theorem p_X12_either_2 {L : Nat} {xs : Nat → Int32} {d : Nat} {Q : xO → Prop} (x1 : Int32) (x2 : Int32) (I : xI) (J : xJ) {t : Unit × xI × xJ} (h : f_X12_either_2 x1 x2 I J = some t) (hC : (c_X12_either Q) t) : Rn L xs (d + 3) 201 8 [some (.ref 61), some (.int x1), some (.int x2)] [] 94 (I, J, xrf) Q := by
  unfold f_X12_either_2 at h
  refine Rn.go 2 (j' := 201) (pc' := 10) (ls' := [some (.ref 61), some (.int x1), some (.int x2)]) (st' := [.int x2, .ref 61]) (n' := 94) (M' := (I, J, xrf)) (fun f => rfl) ?_
  obtain ⟨o, ho, h⟩ := Option.bind_eq_some_iff.mp h
  refine Rn.call (d1 := d + 2) (j1 := 194) (ls1 := [some (.ref 61), some (.int x2)]) (rest := []) (fun f => rfl) ?_
  refine p_X12_is (d := d + 1) x2 I J (t := o) ho ?_
  exact p_X12_either_3 x1 x2 o.1 o.2.1 o.2.2 h hC
theorem p_X12_either_1 {L : Nat} {xs : Nat → Int32} {d : Nat} {Q : xO → Prop} (x1 : Int32) (x2 : Int32) (s0 : Int32) (I : xI) (J : xJ) {t : Unit × xI × xJ} (h : f_X12_either_1 x1 x2 s0 I J = some t) (hC : (c_X12_either Q) t) : Rn L xs (d + 3) 201 5 [some (.ref 61), some (.int x1), some (.int x2)] [.int s0] 94 (I, J, xrf) Q := by
  unfold f_X12_either_1 at h
  refine Rn.fi 1 (c := s0 = 0) (p1 := 8) (l1 := [some (.ref 61), some (.int x1), some (.int x2)]) (s1 := []) (n1 := 94) (M1 := (I, J, xrf)) (p2 := 16) (l2 := [some (.ref 61), some (.int x1), some (.int x2)]) (s2 := []) (n2 := 94) (M2 := (I, J, xrf)) (fun f => rfl) (fun hc => ?_) (fun hc => ?_)
  · rw [if_pos hc] at h
    exact p_X12_either_2 x1 x2 I J h hC
  · rw [if_neg hc] at h
    exact p_X12_either_4 x1 x2 I J h hC
theorem p_X12_either_0 {L : Nat} {xs : Nat → Int32} {d : Nat} {Q : xO → Prop} (x1 : Int32) (x2 : Int32) (I : xI) (J : xJ) {t : Unit × xI × xJ} (h : f_X12_either_0 x1 x2 I J = some t) (hC : (c_X12_either Q) t) : Rn L xs (d + 3) 201 0 [some (.ref 61), some (.int x1), some (.int x2)] [] 94 (I, J, xrf) Q := by
  unfold f_X12_either_0 at h
  refine Rn.go 2 (j' := 201) (pc' := 2) (ls' := [some (.ref 61), some (.int x1), some (.int x2)]) (st' := [.int x1, .ref 61]) (n' := 94) (M' := (I, J, xrf)) (fun f => rfl) ?_
  obtain ⟨o, ho, h⟩ := Option.bind_eq_some_iff.mp h
  refine Rn.call (d1 := d + 2) (j1 := 194) (ls1 := [some (.ref 61), some (.int x1)]) (rest := []) (fun f => rfl) ?_
  refine p_X12_is (d := d + 1) x1 I J (t := o) ho ?_
  exact p_X12_either_1 x1 x2 o.1 o.2.1 o.2.2 h hC
theorem p_X12_either {L : Nat} {xs : Nat → Int32} {d : Nat} {Q : xO → Prop} (x1 : Int32) (x2 : Int32) (I : xI) (J : xJ) {t : Unit × xI × xJ} (h : f_X12_either x1 x2 I J = some t) (hC : Q (none, 94, (t.2.1, t.2.2, xrf))) : Rn L xs (d + 3) 201 0 [some (.ref 61), some (.int x1), some (.int x2)] [] 94 (I, J, xrf) Q := p_X12_either_0 x1 x2 I J h hC
