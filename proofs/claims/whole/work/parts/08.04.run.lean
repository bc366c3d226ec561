/-! X1_homeOf -/
def c_X1_homeOf (Q : xO → Prop) (t : Int32 × xI × xJ) : Prop := Q ((some (.int t.1)), 94, (t.2.1, t.2.2, xrf))
def f_X1_homeOf_1 (x1 : Int32) (s0 : Int32) (I : xI) (J : xJ) : Option (Int32 × xI × xJ) := some (s0, I, J)
def f_X1_homeOf_0 (x1 : Int32) (I : xI) (J : xJ) : Option (Int32 × xI × xJ) := (f_X1_firstHolding ((1 <<< (x1 &&& 31))) I J).bind fun o => f_X1_homeOf_1 x1 o.1 o.2.1 o.2.2
def f_X1_homeOf (x1 : Int32) (I : xI) (J : xJ) : Option (Int32 × xI × xJ) := f_X1_homeOf_0 x1 I J
theorem p_X1_homeOf_1 {L : Nat} {xs : Nat → Int32} {d : Nat} {Q : xO → Prop} (x1 : Int32) (s0 : Int32) (I : xI) (J : xJ) {t : Int32 × xI × xJ} (h : f_X1_homeOf_1 x1 s0 I J = some t) (hC : (c_X1_homeOf Q) t) : Rn L xs (d + 2) 21 7 [some (.ref 36), some (.int x1)] [.int s0] 94 (I, J, xrf) Q := by
  unfold f_X1_homeOf_1 at h
  cases h
  exact Rn.ret 1 (o := ((some (.int s0)), 94, (I, J, xrf))) (fun f => rfl) hC
theorem p_X1_homeOf_0 {L : Nat} {xs : Nat → Int32} {d : Nat} {Q : xO → Prop} (x1 : Int32) (I : xI) (J : xJ) {t : Int32 × xI × xJ} (h : f_X1_homeOf_0 x1 I J = some t) (hC : (c_X1_homeOf Q) t) : Rn L xs (d + 2) 21 0 [some (.ref 36), some (.int x1)] [] 94 (I, J, xrf) Q := by
  unfold f_X1_homeOf_0 at h
  refine Rn.go 4 (j' := 21) (pc' := 4) (ls' := [some (.ref 36), some (.int x1)]) (st' := [.int ((1 <<< (x1 &&& 31))), .ref 36]) (n' := 94) (M' := (I, J, xrf)) (fun f => rfl) ?_
  obtain ⟨o, ho, h⟩ := Option.bind_eq_some_iff.mp h
  refine Rn.call (d1 := d + 1) (j1 := 19) (ls1 := [some (.ref 36), some (.int ((1 <<< (x1 &&& 31)))), none]) (rest := []) (fun f => rfl) ?_
  refine p_X1_firstHolding (d := d + 0) ((1 <<< (x1 &&& 31))) I J (t := o) ho ?_
  exact p_X1_homeOf_1 x1 o.1 o.2.1 o.2.2 h hC
theorem p_X1_homeOf {L : Nat} {xs : Nat → Int32} {d : Nat} {Q : xO → Prop} (x1 : Int32) (I : xI) (J : xJ) {t : Int32 × xI × xJ} (h : f_X1_homeOf x1 I J = some t) (hC : Q ((some (.int t.1)), 94, (t.2.1, t.2.2, xrf))) : Rn L xs (d + 2) 21 0 [some (.ref 36), some (.int x1)] [] 94 (I, J, xrf) Q := p_X1_homeOf_0 x1 I J h hC
/-! X11_home -/
def c_X11_home (Q : xO → Prop) (t : Int32 × xI × xJ) : Prop := Q ((some (.int t.1)), 94, (t.2.1, t.2.2, xrf))
def f_X11_home_6 (x1 : Int32) (s0 : Int32) (I : xI) (J : xJ) : Option (Int32 × xI × xJ) := some (s0, I, J)
def f_X11_home_5 (x1 : Int32) (I : xI) (J : xJ) : Option (Int32 × xI × xJ) := f_X11_home_6 x1 ((-1)) I J
def f_X11_home_4 (x1 : Int32) (s0 : Int32) (I : xI) (J : xJ) : Option (Int32 × xI × xJ) := f_X11_home_6 x1 s0 I J
def f_X11_home_3 (x1 : Int32) (I : xI) (J : xJ) : Option (Int32 × xI × xJ) := (f_X1_homeOf x1 I J).bind fun o => f_X11_home_4 x1 o.1 o.2.1 o.2.2
def f_X11_home_2 (x1 : Int32) (I : xI) (J : xJ) : Option (Int32 × xI × xJ) := (f_X11_fewestNow I J).bind fun o => f_X11_home_3 x1 o.2.1 o.2.2
def f_X11_home_1 (x1 : Int32) (s0 : Int32) (I : xI) (J : xJ) : Option (Int32 × xI × xJ) := if s0 = 0 then f_X11_home_5 x1 I J else f_X11_home_2 x1 I J
def f_X11_home_0 (x1 : Int32) (I : xI) (J : xJ) : Option (Int32 × xI × xJ) := (f_X5_hasState x1 I J).bind fun o => f_X11_home_1 x1 o.1 o.2.1 o.2.2
def f_X11_home (x1 : Int32) (I : xI) (J : xJ) : Option (Int32 × xI × xJ) := f_X11_home_0 x1 I J
theorem p_X11_home_6 {L : Nat} {xs : Nat → Int32} {d : Nat} {Q : xO → Prop} (x1 : Int32) (s0 : Int32) (I : xI) (J : xJ) {t : Int32 × xI × xJ} (h : f_X11_home_6 x1 s0 I J = some t) (hC : (c_X11_home Q) t) : Rn L xs (d + 18) 155 23 [some (.ref 0), some (.int x1)] [.int s0] 94 (I, J, xrf) Q := by
  unfold f_X11_home_6 at h
  cases h
  exact Rn.ret 1 (o := ((some (.int s0)), 94, (I, J, xrf))) (fun f => rfl) hC
theorem p_X11_home_5 {L : Nat} {xs : Nat → Int32} {d : Nat} {Q : xO → Prop} (x1 : Int32) (I : xI) (J : xJ) {t : Int32 × xI × xJ} (h : f_X11_home_5 x1 I J = some t) (hC : (c_X11_home Q) t) : Rn L xs (d + 18) 155 22 [some (.ref 0), some (.int x1)] [] 94 (I, J, xrf) Q := by
  unfold f_X11_home_5 at h
  refine Rn.go 1 (j' := 155) (pc' := 23) (ls' := [some (.ref 0), some (.int x1)]) (st' := [.int ((-1))]) (n' := 94) (M' := (I, J, xrf)) (fun f => rfl) ?_
  exact p_X11_home_6 x1 ((-1)) I J h hC
theorem p_X11_home_4 {L : Nat} {xs : Nat → Int32} {d : Nat} {Q : xO → Prop} (x1 : Int32) (s0 : Int32) (I : xI) (J : xJ) {t : Int32 × xI × xJ} (h : f_X11_home_4 x1 s0 I J = some t) (hC : (c_X11_home Q) t) : Rn L xs (d + 18) 155 19 [some (.ref 0), some (.int x1)] [.int s0] 94 (I, J, xrf) Q := by
  unfold f_X11_home_4 at h
  refine Rn.go 1 (j' := 155) (pc' := 23) (ls' := [some (.ref 0), some (.int x1)]) (st' := [.int s0]) (n' := 94) (M' := (I, J, xrf)) (fun f => rfl) ?_
  exact p_X11_home_6 x1 s0 I J h hC
theorem p_X11_home_3 {L : Nat} {xs : Nat → Int32} {d : Nat} {Q : xO → Prop} (x1 : Int32) (I : xI) (J : xJ) {t : Int32 × xI × xJ} (h : f_X11_home_3 x1 I J = some t) (hC : (c_X11_home Q) t) : Rn L xs (d + 18) 155 15 [some (.ref 0), some (.int x1)] [.ref 36] 94 (I, J, xrf) Q := by
  unfold f_X11_home_3 at h
  refine Rn.go 1 (j' := 155) (pc' := 16) (ls' := [some (.ref 0), some (.int x1)]) (st' := [.int x1, .ref 36]) (n' := 94) (M' := (I, J, xrf)) (fun f => rfl) ?_
  obtain ⟨o, ho, h⟩ := Option.bind_eq_some_iff.mp h
  refine Rn.call (d1 := d + 17) (j1 := 21) (ls1 := [some (.ref 36), some (.int x1)]) (rest := []) (fun f => rfl) ?_
  refine p_X1_homeOf (d := d + 15) x1 I J (t := o) ho ?_
  exact p_X11_home_4 x1 o.1 o.2.1 o.2.2 h hC
theorem p_X11_home_2 {L : Nat} {xs : Nat → Int32} {d : Nat} {Q : xO → Prop} (x1 : Int32) (I : xI) (J : xJ) {t : Int32 × xI × xJ} (h : f_X11_home_2 x1 I J = some t) (hC : (c_X11_home Q) t) : Rn L xs (d + 18) 155 11 [some (.ref 0), some (.int x1)] [] 94 (I, J, xrf) Q := by
  unfold f_X11_home_2 at h
  refine Rn.go 1 (j' := 155) (pc' := 12) (ls' := [some (.ref 0), some (.int x1)]) (st' := [.ref 0]) (n' := 94) (M' := (I, J, xrf)) (fun f => rfl) ?_
  obtain ⟨o, ho, h⟩ := Option.bind_eq_some_iff.mp h
  refine Rn.call (d1 := d + 17) (j1 := 178) (ls1 := [some (.ref 0)]) (rest := []) (fun f => rfl) ?_
  refine p_X11_fewestNow (d := d + 0) I J (t := o) ho ?_
  exact p_X11_home_3 x1 o.2.1 o.2.2 h hC
theorem p_X11_home_1 {L : Nat} {xs : Nat → Int32} {d : Nat} {Q : xO → Prop} (x1 : Int32) (s0 : Int32) (I : xI) (J : xJ) {t : Int32 × xI × xJ} (h : f_X11_home_1 x1 s0 I J = some t) (hC : (c_X11_home Q) t) : Rn L xs (d + 18) 155 8 [some (.ref 0), some (.int x1)] [.int s0] 94 (I, J, xrf) Q := by
  unfold f_X11_home_1 at h
  refine Rn.fi 1 (c := s0 = 0) (p1 := 22) (l1 := [some (.ref 0), some (.int x1)]) (s1 := []) (n1 := 94) (M1 := (I, J, xrf)) (p2 := 11) (l2 := [some (.ref 0), some (.int x1)]) (s2 := []) (n2 := 94) (M2 := (I, J, xrf)) (fun f => rfl) (fun hc => ?_) (fun hc => ?_)
  · rw [if_pos hc] at h
    exact p_X11_home_5 x1 I J h hC
  · rw [if_neg hc] at h
    exact p_X11_home_2 x1 I J h hC
theorem p_X11_home_0 {L : Nat} {xs : Nat → Int32} {d : Nat} {Q : xO → Prop} (x1 : Int32) (I : xI) (J : xJ) {t : Int32 × xI × xJ} (h : f_X11_home_0 x1 I J = some t) (hC : (c_X11_home Q) t) : Rn L xs (d + 18) 155 0 [some (.ref 0), some (.int x1)] [] 94 (I, J, xrf) Q := by
  unfold f_X11_home_0 at h
  refine Rn.go 3 (j' := 155) (pc' := 5) (ls' := [some (.ref 0), some (.int x1)]) (st' := [.int x1, .ref 1]) (n' := 94) (M' := (I, J, xrf)) (fun f => rfl) ?_
  obtain ⟨o, ho, h⟩ := Option.bind_eq_some_iff.mp h
  refine Rn.call (d1 := d + 17) (j1 := 51) (ls1 := [some (.ref 1), some (.int x1)]) (rest := []) (fun f => rfl) ?_
  refine p_X5_hasState (d := d + 16) x1 I J (t := o) ho ?_
  exact p_X11_home_1 x1 o.1 o.2.1 o.2.2 h hC
theorem p_X11_home {L : Nat} {xs : Nat → Int32} {d : Nat} {Q : xO → Prop} (x1 : Int32) (I : xI) (J : xJ) {t : Int32 × xI × xJ} (h : f_X11_home x1 I J = some t) (hC : Q ((some (.int t.1)), 94, (t.2.1, t.2.2, xrf))) : Rn L xs (d + 18) 155 0 [some (.ref 0), some (.int x1)] [] 94 (I, J, xrf) Q := p_X11_home_0 x1 I J h hC
/-! X1_metBy -/
def c_X1_metBy (Q : xO → Prop) (t : Int32 × xI × xJ) : Prop := Q ((some (.int t.1)), 94, (t.2.1, t.2.2, xrf))
def c_X1_metBy_1 (L : Nat) (xs : Nat → Int32) (d : Nat) (Q : xO → Prop) (t : (Int32 × Int32 × Int32 × xI × xJ) ⊕ (Int32 × xI × xJ)) : Prop := match t with
  | .inl s => Rn L xs (d + 1) 22 4 [some (.ref 36), some (.int s.1), some (.int s.2.1), some (.int s.2.2.1)] [] 94 (s.2.2.2.1, s.2.2.2.2, xrf) Q
  | .inr t => (c_X1_metBy Q) t
def f_X1_metBy_3 (x1 : Int32) (x2 : Int32) (x3 : Int32) (I : xI) (J : xJ) : Option (Int32 × xI × xJ) := some (x2, I, J)
def f_X1_metBy_2 (x1 : Int32) (x2 : Int32) (x3 : Int32) (I : xI) (J : xJ) : Option ((Int32 × Int32 × Int32 × xI × xJ) ⊕ (Int32 × xI × xJ)) := if x3 < 0 ∨ 6 ≤ x3.toNatClampNeg then none else some (.inl (x1, ((x2 ||| ((((I 42 x3.toNatClampNeg) >>> (x1 &&& 31)) &&& 1) <<< (x3 &&& 31)))), ((x3 + 1)), I, J))
def b_X1_metBy_1 (x1 : Int32) (x2 : Int32) (x3 : Int32) (I : xI) (J : xJ) : Option ((Int32 × Int32 × Int32 × xI × xJ) ⊕ (Int32 × xI × xJ)) := if (I 36 12) ≤ x3 then ((f_X1_metBy_3 x1 x2 x3 I J)).map .inr else f_X1_metBy_2 x1 x2 x3 I J
def f_X1_metBy_1 (x1 : Int32) (x2 : Int32) (x3 : Int32) (I : xI) (J : xJ) : Option (Int32 × xI × xJ) := xloop (fun s : Int32 × Int32 × Int32 × xI × xJ => b_X1_metBy_1 s.1 s.2.1 s.2.2.1 s.2.2.2.1 s.2.2.2.2) 5000 (x1, x2, x3, I, J)
def f_X1_metBy_0 (x1 : Int32) (I : xI) (J : xJ) : Option (Int32 × xI × xJ) := f_X1_metBy_1 x1 0 0 I J
def f_X1_metBy (x1 : Int32) (I : xI) (J : xJ) : Option (Int32 × xI × xJ) := f_X1_metBy_0 x1 I J
theorem p_X1_metBy_3 {L : Nat} {xs : Nat → Int32} {d : Nat} {Q : xO → Prop} (x1 : Int32) (x2 : Int32) (x3 : Int32) (I : xI) (J : xJ) {t : Int32 × xI × xJ} (h : f_X1_metBy_3 x1 x2 x3 I J = some t) (hC : (c_X1_metBy Q) t) : Rn L xs (d + 1) 22 33 [some (.ref 36), some (.int x1), some (.int x2), some (.int x3)] [] 94 (I, J, xrf) Q := by
  unfold f_X1_metBy_3 at h
  cases h
  exact Rn.ret 2 (o := ((some (.int x2)), 94, (I, J, xrf))) (fun f => rfl) hC
theorem p_X1_metBy_2 {L : Nat} {xs : Nat → Int32} {d : Nat} {Q : xO → Prop} (x1 : Int32) (x2 : Int32) (x3 : Int32) (I : xI) (J : xJ) {t : (Int32 × Int32 × Int32 × xI × xJ) ⊕ (Int32 × xI × xJ)} (h : f_X1_metBy_2 x1 x2 x3 I J = some t) (hC : (c_X1_metBy_1 L xs d Q) t) : Rn L xs (d + 1) 22 12 [some (.ref 36), some (.int x1), some (.int x2), some (.int x3)] [] 94 (I, J, xrf) Q := by
  unfold f_X1_metBy_2 at h
  obtain ⟨hc, h⟩ := xif h
  refine Rn.ok 5 (c := x3 < 0 ∨ 6 ≤ x3.toNatClampNeg) (p1 := 19) (l1 := [some (.ref 36), some (.int x1), some (.int x2), some (.int x3)]) (s1 := [.int ((I 42 x3.toNatClampNeg)), .int x2]) (n1 := 94) (M1 := (I, J, xrf)) (fun f => rfl) hc ?_
  refine Rn.go 10 (j' := 22) (pc' := 4) (ls' := [some (.ref 36), some (.int x1), some (.int ((x2 ||| ((((I 42 x3.toNatClampNeg) >>> (x1 &&& 31)) &&& 1) <<< (x3 &&& 31))))), some (.int ((x3 + 1)))]) (st' := []) (n' := 94) (M' := (I, J, xrf)) (fun f => rfl) ?_
  cases h; exact hC
theorem q_X1_metBy_1 {L : Nat} {xs : Nat → Int32} {d : Nat} {Q : xO → Prop} (x1 : Int32) (x2 : Int32) (x3 : Int32) (I : xI) (J : xJ) {t : (Int32 × Int32 × Int32 × xI × xJ) ⊕ (Int32 × xI × xJ)} (h : b_X1_metBy_1 x1 x2 x3 I J = some t) (hC : (c_X1_metBy_1 L xs d Q) t) : Rn L xs (d + 1) 22 4 [some (.ref 36), some (.int x1), some (.int x2), some (.int x3)] [] 94 (I, J, xrf) Q := by
  unfold b_X1_metBy_1 at h
  refine Rn.fi 4 (c := (I 36 12) ≤ x3) (p1 := 33) (l1 := [some (.ref 36), some (.int x1), some (.int x2), some (.int x3)]) (s1 := []) (n1 := 94) (M1 := (I, J, xrf)) (p2 := 12) (l2 := [some (.ref 36), some (.int x1), some (.int x2), some (.int x3)]) (s2 := []) (n2 := 94) (M2 := (I, J, xrf)) (fun f => rfl) (fun hc => ?_) (fun hc => ?_)
  · rw [if_pos hc] at h
    obtain ⟨t0, h0, rfl⟩ := Option.map_eq_some_iff.mp h
    exact p_X1_metBy_3 x1 x2 x3 I J h0 hC
  · rw [if_neg hc] at h
    exact p_X1_metBy_2 x1 x2 x3 I J h hC
theorem p_X1_metBy_1 {L : Nat} {xs : Nat → Int32} {d : Nat} {Q : xO → Prop} (x1 : Int32) (x2 : Int32) (x3 : Int32) (I : xI) (J : xJ) {t : Int32 × xI × xJ} (h : f_X1_metBy_1 x1 x2 x3 I J = some t) (hC : (c_X1_metBy Q) t) : Rn L xs (d + 1) 22 4 [some (.ref 36), some (.int x1), some (.int x2), some (.int x3)] [] 94 (I, J, xrf) Q := by
  unfold f_X1_metBy_1 at h
  exact xloop_some (P := fun s : Int32 × Int32 × Int32 × xI × xJ => Rn L xs (d + 1) 22 4 [some (.ref 36), some (.int s.1), some (.int s.2.1), some (.int s.2.2.1)] [] 94 (s.2.2.2.1, s.2.2.2.2, xrf) Q) t (fun s ⟨s', hb, hp⟩ => q_X1_metBy_1 s.1 s.2.1 s.2.2.1 s.2.2.2.1 s.2.2.2.2 hb hp) (fun s hb => q_X1_metBy_1 s.1 s.2.1 s.2.2.1 s.2.2.2.1 s.2.2.2.2 hb hC) _ _ h
theorem p_X1_metBy_0 {L : Nat} {xs : Nat → Int32} {d : Nat} {Q : xO → Prop} (x1 : Int32) (I : xI) (J : xJ) {t : Int32 × xI × xJ} (h : f_X1_metBy_0 x1 I J = some t) (hC : (c_X1_metBy Q) t) : Rn L xs (d + 1) 22 0 [some (.ref 36), some (.int x1), none, none] [] 94 (I, J, xrf) Q := by
  unfold f_X1_metBy_0 at h
  refine Rn.go 4 (j' := 22) (pc' := 4) (ls' := [some (.ref 36), some (.int x1), some (.int 0), some (.int 0)]) (st' := []) (n' := 94) (M' := (I, J, xrf)) (fun f => rfl) ?_
  exact p_X1_metBy_1 x1 0 0 I J h hC
theorem p_X1_metBy {L : Nat} {xs : Nat → Int32} {d : Nat} {Q : xO → Prop} (x1 : Int32) (I : xI) (J : xJ) {t : Int32 × xI × xJ} (h : f_X1_metBy x1 I J = some t) (hC : Q ((some (.int t.1)), 94, (t.2.1, t.2.2, xrf))) : Rn L xs (d + 1) 22 0 [some (.ref 36), some (.int x1), none, none] [] 94 (I, J, xrf) Q := p_X1_metBy_0 x1 I J h hC
/-! X11_met -/
def c_X11_met (Q : xO → Prop) (t : Int32 × xI × xJ) : Prop := Q ((some (.int t.1)), 94, (t.2.1, t.2.2, xrf))
def f_X11_met_6 (x1 : Int32) (s0 : Int32) (I : xI) (J : xJ) : Option (Int32 × xI × xJ) := some (s0, I, J)
def f_X11_met_5 (x1 : Int32) (I : xI) (J : xJ) : Option (Int32 × xI × xJ) := f_X11_met_6 x1 ((-1)) I J
def f_X11_met_4 (x1 : Int32) (s0 : Int32) (I : xI) (J : xJ) : Option (Int32 × xI × xJ) := f_X11_met_6 x1 s0 I J
def f_X11_met_3 (x1 : Int32) (I : xI) (J : xJ) : Option (Int32 × xI × xJ) := (f_X1_metBy x1 I J).bind fun o => f_X11_met_4 x1 o.1 o.2.1 o.2.2
def f_X11_met_2 (x1 : Int32) (I : xI) (J : xJ) : Option (Int32 × xI × xJ) := (f_X11_fewestNow I J).bind fun o => f_X11_met_3 x1 o.2.1 o.2.2
def f_X11_met_1 (x1 : Int32) (s0 : Int32) (I : xI) (J : xJ) : Option (Int32 × xI × xJ) := if s0 = 0 then f_X11_met_5 x1 I J else f_X11_met_2 x1 I J
def f_X11_met_0 (x1 : Int32) (I : xI) (J : xJ) : Option (Int32 × xI × xJ) := (f_X5_hasState x1 I J).bind fun o => f_X11_met_1 x1 o.1 o.2.1 o.2.2
def f_X11_met (x1 : Int32) (I : xI) (J : xJ) : Option (Int32 × xI × xJ) := f_X11_met_0 x1 I J
theorem p_X11_met_6 {L : Nat} {xs : Nat → Int32} {d : Nat} {Q : xO → Prop} (x1 : Int32) (s0 : Int32) (I : xI) (J : xJ) {t : Int32 × xI × xJ} (h : f_X11_met_6 x1 s0 I J = some t) (hC : (c_X11_met Q) t) : Rn L xs (d + 18) 156 23 [some (.ref 0), some (.int x1)] [.int s0] 94 (I, J, xrf) Q := by
  unfold f_X11_met_6 at h
  cases h
  exact Rn.ret 1 (o := ((some (.int s0)), 94, (I, J, xrf))) (fun f => rfl) hC
theorem p_X11_met_5 {L : Nat} {xs : Nat → Int32} {d : Nat} {Q : xO → Prop} (x1 : Int32) (I : xI) (J : xJ) {t : Int32 × xI × xJ} (h : f_X11_met_5 x1 I J = some t) (hC : (c_X11_met Q) t) : Rn L xs (d + 18) 156 22 [some (.ref 0), some (.int x1)] [] 94 (I, J, xrf) Q := by
  unfold f_X11_met_5 at h
  refine Rn.go 1 (j' := 156) (pc' := 23) (ls' := [some (.ref 0), some (.int x1)]) (st' := [.int ((-1))]) (n' := 94) (M' := (I, J, xrf)) (fun f => rfl) ?_
  exact p_X11_met_6 x1 ((-1)) I J h hC
theorem p_X11_met_4 {L : Nat} {xs : Nat → Int32} {d : Nat} {Q : xO → Prop} (x1 : Int32) (s0 : Int32) (I : xI) (J : xJ) {t : Int32 × xI × xJ} (h : f_X11_met_4 x1 s0 I J = some t) (hC : (c_X11_met Q) t) : Rn L xs (d + 18) 156 19 [some (.ref 0), some (.int x1)] [.int s0] 94 (I, J, xrf) Q := by
  unfold f_X11_met_4 at h
  refine Rn.go 1 (j' := 156) (pc' := 23) (ls' := [some (.ref 0), some (.int x1)]) (st' := [.int s0]) (n' := 94) (M' := (I, J, xrf)) (fun f => rfl) ?_
  exact p_X11_met_6 x1 s0 I J h hC
theorem p_X11_met_3 {L : Nat} {xs : Nat → Int32} {d : Nat} {Q : xO → Prop} (x1 : Int32) (I : xI) (J : xJ) {t : Int32 × xI × xJ} (h : f_X11_met_3 x1 I J = some t) (hC : (c_X11_met Q) t) : Rn L xs (d + 18) 156 15 [some (.ref 0), some (.int x1)] [.ref 36] 94 (I, J, xrf) Q := by
  unfold f_X11_met_3 at h
  refine Rn.go 1 (j' := 156) (pc' := 16) (ls' := [some (.ref 0), some (.int x1)]) (st' := [.int x1, .ref 36]) (n' := 94) (M' := (I, J, xrf)) (fun f => rfl) ?_
  obtain ⟨o, ho, h⟩ := Option.bind_eq_some_iff.mp h
  refine Rn.call (d1 := d + 17) (j1 := 22) (ls1 := [some (.ref 36), some (.int x1), none, none]) (rest := []) (fun f => rfl) ?_
  refine p_X1_metBy (d := d + 16) x1 I J (t := o) ho ?_
  exact p_X11_met_4 x1 o.1 o.2.1 o.2.2 h hC
theorem p_X11_met_2 {L : Nat} {xs : Nat → Int32} {d : Nat} {Q : xO → Prop} (x1 : Int32) (I : xI) (J : xJ) {t : Int32 × xI × xJ} (h : f_X11_met_2 x1 I J = some t) (hC : (c_X11_met Q) t) : Rn L xs (d + 18) 156 11 [some (.ref 0), some (.int x1)] [] 94 (I, J, xrf) Q := by
  unfold f_X11_met_2 at h
  refine Rn.go 1 (j' := 156) (pc' := 12) (ls' := [some (.ref 0), some (.int x1)]) (st' := [.ref 0]) (n' := 94) (M' := (I, J, xrf)) (fun f => rfl) ?_
  obtain ⟨o, ho, h⟩ := Option.bind_eq_some_iff.mp h
  refine Rn.call (d1 := d + 17) (j1 := 178) (ls1 := [some (.ref 0)]) (rest := []) (fun f => rfl) ?_
  refine p_X11_fewestNow (d := d + 0) I J (t := o) ho ?_
  exact p_X11_met_3 x1 o.2.1 o.2.2 h hC
theorem p_X11_met_1 {L : Nat} {xs : Nat → Int32} {d : Nat} {Q : xO → Prop} (x1 : Int32) (s0 : Int32) (I : xI) (J : xJ) {t : Int32 × xI × xJ} (h : f_X11_met_1 x1 s0 I J = some t) (hC : (c_X11_met Q) t) : Rn L xs (d + 18) 156 8 [some (.ref 0), some (.int x1)] [.int s0] 94 (I, J, xrf) Q := by
  unfold f_X11_met_1 at h
  refine Rn.fi 1 (c := s0 = 0) (p1 := 22) (l1 := [some (.ref 0), some (.int x1)]) (s1 := []) (n1 := 94) (M1 := (I, J, xrf)) (p2 := 11) (l2 := [some (.ref 0), some (.int x1)]) (s2 := []) (n2 := 94) (M2 := (I, J, xrf)) (fun f => rfl) (fun hc => ?_) (fun hc => ?_)
  · rw [if_pos hc] at h
    exact p_X11_met_5 x1 I J h hC
  · rw [if_neg hc] at h
    exact p_X11_met_2 x1 I J h hC
theorem p_X11_met_0 {L : Nat} {xs : Nat → Int32} {d : Nat} {Q : xO → Prop} (x1 : Int32) (I : xI) (J : xJ) {t : Int32 × xI × xJ} (h : f_X11_met_0 x1 I J = some t) (hC : (c_X11_met Q) t) : Rn L xs (d + 18) 156 0 [some (.ref 0), some (.int x1)] [] 94 (I, J, xrf) Q := by
  unfold f_X11_met_0 at h
  refine Rn.go 3 (j' := 156) (pc' := 5) (ls' := [some (.ref 0), some (.int x1)]) (st' := [.int x1, .ref 1]) (n' := 94) (M' := (I, J, xrf)) (fun f => rfl) ?_
  obtain ⟨o, ho, h⟩ := Option.bind_eq_some_iff.mp h
  refine Rn.call (d1 := d + 17) (j1 := 51) (ls1 := [some (.ref 1), some (.int x1)]) (rest := []) (fun f => rfl) ?_
  refine p_X5_hasState (d := d + 16) x1 I J (t := o) ho ?_
  exact p_X11_met_1 x1 o.1 o.2.1 o.2.2 h hC
theorem p_X11_met {L : Nat} {xs : Nat → Int32} {d : Nat} {Q : xO → Prop} (x1 : Int32) (I : xI) (J : xJ) {t : Int32 × xI × xJ} (h : f_X11_met x1 I J = some t) (hC : Q ((some (.int t.1)), 94, (t.2.1, t.2.2, xrf))) : Rn L xs (d + 18) 156 0 [some (.ref 0), some (.int x1)] [] 94 (I, J, xrf) Q := p_X11_met_0 x1 I J h hC
/-! X5_digitOf -/
def c_X5_digitOf (Q : xO → Prop) (t : Int32 × xI × xJ) : Prop := Q ((some (.int t.1)), 94, (t.2.1, t.2.2, xrf))
def f_X5_digitOf_0 (x0 : Int32) (x1 : Int32) (x2 : Int32) (I : xI) (J : xJ) : Option (Int32 × xI × xJ) := some (((x0 >>> ((2 * ((x1 - 1) - x2)) &&& 31)) &&& 3), I, J)
def f_X5_digitOf (x0 : Int32) (x1 : Int32) (x2 : Int32) (I : xI) (J : xJ) : Option (Int32 × xI × xJ) := f_X5_digitOf_0 x0 x1 x2 I J
theorem p_X5_digitOf_0 {L : Nat} {xs : Nat → Int32} {d : Nat} {Q : xO → Prop} (x0 : Int32) (x1 : Int32) (x2 : Int32) (I : xI) (J : xJ) {t : Int32 × xI × xJ} (h : f_X5_digitOf_0 x0 x1 x2 I J = some t) (hC : (c_X5_digitOf Q) t) : Rn L xs (d + 1) 56 0 [some (.int x0), some (.int x1), some (.int x2)] [] 94 (I, J, xrf) Q := by
  unfold f_X5_digitOf_0 at h
  cases h
  exact Rn.ret 12 (o := ((some (.int (((x0 >>> ((2 * ((x1 - 1) - x2)) &&& 31)) &&& 3)))), 94, (I, J, xrf))) (fun f => rfl) hC
theorem p_X5_digitOf {L : Nat} {xs : Nat → Int32} {d : Nat} {Q : xO → Prop} (x0 : Int32) (x1 : Int32) (x2 : Int32) (I : xI) (J : xJ) {t : Int32 × xI × xJ} (h : f_X5_digitOf x0 x1 x2 I J = some t) (hC : Q ((some (.int t.1)), 94, (t.2.1, t.2.2, xrf))) : Rn L xs (d + 1) 56 0 [some (.int x0), some (.int x1), some (.int x2)] [] 94 (I, J, xrf) Q := p_X5_digitOf_0 x0 x1 x2 I J h hC
/-! X5_hasWord -/
def c_X5_hasWord (Q : xO → Prop) (t : Int32 × xI × xJ) : Prop := Q ((some (.int t.1)), 94, (t.2.1, t.2.2, xrf))
def c_X5_hasWord_6 (L : Nat) (xs : Nat → Int32) (d : Nat) (Q : xO → Prop) (t : (Int32 × Int32 × Int32 × xI × xJ) ⊕ (Int32 × xI × xJ)) : Prop := match t with
  | .inl s => Rn L xs (d + 2) 55 26 [some (.ref 1), some (.int s.1), some (.int s.2.1), some (.int s.2.2.1)] [] 94 (s.2.2.2.1, s.2.2.2.2, xrf) Q
  | .inr t => (c_X5_hasWord Q) t
def f_X5_hasWord_4 (x1 : Int32) (x2 : Int32) (I : xI) (J : xJ) : Option (Int32 × xI × xJ) := some (0, I, J)
def f_X5_hasWord_12 (x1 : Int32) (x2 : Int32) (x3 : Int32) (I : xI) (J : xJ) : Option (Int32 × xI × xJ) := some (1, I, J)
def f_X5_hasWord_11 (x1 : Int32) (x2 : Int32) (x3 : Int32) (I : xI) (J : xJ) : Option ((Int32 × Int32 × Int32 × xI × xJ) ⊕ (Int32 × xI × xJ)) := some (.inl (x1, x2, ((x3 + 1)), I, J))
def f_X5_hasWord_10 (x1 : Int32) (x2 : Int32) (x3 : Int32) (I : xI) (J : xJ) : Option (Int32 × xI × xJ) := some (0, I, J)
def f_X5_hasWord_9 (x1 : Int32) (x2 : Int32) (x3 : Int32) (s0 : Int32) (I : xI) (J : xJ) : Option ((Int32 × Int32 × Int32 × xI × xJ) ⊕ (Int32 × xI × xJ)) := if s0 = 0 then ((f_X5_hasWord_10 x1 x2 x3 I J)).map .inr else f_X5_hasWord_11 x1 x2 x3 I J
def f_X5_hasWord_8 (x1 : Int32) (x2 : Int32) (x3 : Int32) (s1 : Int32) (I : xI) (J : xJ) : Option ((Int32 × Int32 × Int32 × xI × xJ) ⊕ (Int32 × xI × xJ)) := (f_X5_hasInput s1 I J).bind fun o => f_X5_hasWord_9 x1 x2 x3 o.1 o.2.1 o.2.2
def f_X5_hasWord_7 (x1 : Int32) (x2 : Int32) (x3 : Int32) (I : xI) (J : xJ) : Option ((Int32 × Int32 × Int32 × xI × xJ) ⊕ (Int32 × xI × xJ)) := (f_X5_digitOf x1 x2 x3 I J).bind fun o => f_X5_hasWord_8 x1 x2 x3 o.1 o.2.1 o.2.2
def b_X5_hasWord_6 (x1 : Int32) (x2 : Int32) (x3 : Int32) (I : xI) (J : xJ) : Option ((Int32 × Int32 × Int32 × xI × xJ) ⊕ (Int32 × xI × xJ)) := if x2 ≤ x3 then ((f_X5_hasWord_12 x1 x2 x3 I J)).map .inr else f_X5_hasWord_7 x1 x2 x3 I J
def f_X5_hasWord_6 (x1 : Int32) (x2 : Int32) (x3 : Int32) (I : xI) (J : xJ) : Option (Int32 × xI × xJ) := xloop (fun s : Int32 × Int32 × Int32 × xI × xJ => b_X5_hasWord_6 s.1 s.2.1 s.2.2.1 s.2.2.2.1 s.2.2.2.2) 5000 (x1, x2, x3, I, J)
def f_X5_hasWord_5 (x1 : Int32) (x2 : Int32) (I : xI) (J : xJ) : Option (Int32 × xI × xJ) := f_X5_hasWord_6 x1 x2 0 I J
def f_X5_hasWord_3 (x1 : Int32) (x2 : Int32) (I : xI) (J : xJ) : Option (Int32 × xI × xJ) := if (x1 >>> ((2 * x2) &&& 31)) = 0 then f_X5_hasWord_5 x1 x2 I J else f_X5_hasWord_4 x1 x2 I J
def f_X5_hasWord_2 (x1 : Int32) (x2 : Int32) (I : xI) (J : xJ) : Option (Int32 × xI × xJ) := if x1 < 0 then f_X5_hasWord_4 x1 x2 I J else f_X5_hasWord_3 x1 x2 I J
def f_X5_hasWord_1 (x1 : Int32) (x2 : Int32) (I : xI) (J : xJ) : Option (Int32 × xI × xJ) := if 8 < x2 then f_X5_hasWord_4 x1 x2 I J else f_X5_hasWord_2 x1 x2 I J
def f_X5_hasWord_0 (x1 : Int32) (x2 : Int32) (I : xI) (J : xJ) : Option (Int32 × xI × xJ) := if x2 < 0 then f_X5_hasWord_4 x1 x2 I J else f_X5_hasWord_1 x1 x2 I J
def f_X5_hasWord (x1 : Int32) (x2 : Int32) (I : xI) (J : xJ) : Option (Int32 × xI × xJ) := f_X5_hasWord_0 x1 x2 I J
theorem p_X5_hasWord_4 {L : Nat} {xs : Nat → Int32} {d : Nat} {Q : xO → Prop} (x1 : Int32) (x2 : Int32) (I : xI) (J : xJ) {t : Int32 × xI × xJ} (h : f_X5_hasWord_4 x1 x2 I J = some t) (hC : (c_X5_hasWord Q) t) : Rn L xs (d + 2) 55 22 [some (.ref 1), some (.int x1), some (.int x2), none] [] 94 (I, J, xrf) Q := by
  unfold f_X5_hasWord_4 at h
  cases h
  exact Rn.ret 2 (o := ((some (.int 0)), 94, (I, J, xrf))) (fun f => rfl) hC
theorem p_X5_hasWord_12 {L : Nat} {xs : Nat → Int32} {d : Nat} {Q : xO → Prop} (x1 : Int32) (x2 : Int32) (x3 : Int32) (I : xI) (J : xJ) {t : Int32 × xI × xJ} (h : f_X5_hasWord_12 x1 x2 x3 I J = some t) (hC : (c_X5_hasWord Q) t) : Rn L xs (d + 2) 55 52 [some (.ref 1), some (.int x1), some (.int x2), some (.int x3)] [] 94 (I, J, xrf) Q := by
  unfold f_X5_hasWord_12 at h
  cases h
  exact Rn.ret 2 (o := ((some (.int 1)), 94, (I, J, xrf))) (fun f => rfl) hC
theorem p_X5_hasWord_11 {L : Nat} {xs : Nat → Int32} {d : Nat} {Q : xO → Prop} (x1 : Int32) (x2 : Int32) (x3 : Int32) (I : xI) (J : xJ) {t : (Int32 × Int32 × Int32 × xI × xJ) ⊕ (Int32 × xI × xJ)} (h : f_X5_hasWord_11 x1 x2 x3 I J = some t) (hC : (c_X5_hasWord_6 L xs d Q) t) : Rn L xs (d + 2) 55 46 [some (.ref 1), some (.int x1), some (.int x2), some (.int x3)] [] 94 (I, J, xrf) Q := by
  unfold f_X5_hasWord_11 at h
  refine Rn.go 2 (j' := 55) (pc' := 26) (ls' := [some (.ref 1), some (.int x1), some (.int x2), some (.int ((x3 + 1)))]) (st' := []) (n' := 94) (M' := (I, J, xrf)) (fun f => rfl) ?_
  cases h; exact hC
theorem p_X5_hasWord_10 {L : Nat} {xs : Nat → Int32} {d : Nat} {Q : xO → Prop} (x1 : Int32) (x2 : Int32) (x3 : Int32) (I : xI) (J : xJ) {t : Int32 × xI × xJ} (h : f_X5_hasWord_10 x1 x2 x3 I J = some t) (hC : (c_X5_hasWord Q) t) : Rn L xs (d + 2) 55 44 [some (.ref 1), some (.int x1), some (.int x2), some (.int x3)] [] 94 (I, J, xrf) Q := by
  unfold f_X5_hasWord_10 at h
  cases h
  exact Rn.ret 2 (o := ((some (.int 0)), 94, (I, J, xrf))) (fun f => rfl) hC
theorem p_X5_hasWord_9 {L : Nat} {xs : Nat → Int32} {d : Nat} {Q : xO → Prop} (x1 : Int32) (x2 : Int32) (x3 : Int32) (s0 : Int32) (I : xI) (J : xJ) {t : (Int32 × Int32 × Int32 × xI × xJ) ⊕ (Int32 × xI × xJ)} (h : f_X5_hasWord_9 x1 x2 x3 s0 I J = some t) (hC : (c_X5_hasWord_6 L xs d Q) t) : Rn L xs (d + 2) 55 41 [some (.ref 1), some (.int x1), some (.int x2), some (.int x3)] [.int s0] 94 (I, J, xrf) Q := by
  unfold f_X5_hasWord_9 at h
  refine Rn.fi 1 (c := s0 = 0) (p1 := 44) (l1 := [some (.ref 1), some (.int x1), some (.int x2), some (.int x3)]) (s1 := []) (n1 := 94) (M1 := (I, J, xrf)) (p2 := 46) (l2 := [some (.ref 1), some (.int x1), some (.int x2), some (.int x3)]) (s2 := []) (n2 := 94) (M2 := (I, J, xrf)) (fun f => rfl) (fun hc => ?_) (fun hc => ?_)
  · rw [if_pos hc] at h
    obtain ⟨t0, h0, rfl⟩ := Option.map_eq_some_iff.mp h
    exact p_X5_hasWord_10 x1 x2 x3 I J h0 hC
  · rw [if_neg hc] at h
    exact p_X5_hasWord_11 x1 x2 x3 I J h hC
theorem p_X5_hasWord_8 {L : Nat} {xs : Nat → Int32} {d : Nat} {Q : xO → Prop} (x1 : Int32) (x2 : Int32) (x3 : Int32) (s1 : Int32) (I : xI) (J : xJ) {t : (Int32 × Int32 × Int32 × xI × xJ) ⊕ (Int32 × xI × xJ)} (h : f_X5_hasWord_8 x1 x2 x3 s1 I J = some t) (hC : (c_X5_hasWord_6 L xs d Q) t) : Rn L xs (d + 2) 55 38 [some (.ref 1), some (.int x1), some (.int x2), some (.int x3)] [.int s1, .ref 1] 94 (I, J, xrf) Q := by
  unfold f_X5_hasWord_8 at h
  obtain ⟨o, ho, h⟩ := Option.bind_eq_some_iff.mp h
  refine Rn.call (d1 := d + 1) (j1 := 52) (ls1 := [some (.ref 1), some (.int s1)]) (rest := []) (fun f => rfl) ?_
  refine p_X5_hasInput (d := d + 0) s1 I J (t := o) ho ?_
  exact p_X5_hasWord_9 x1 x2 x3 o.1 o.2.1 o.2.2 h hC
theorem p_X5_hasWord_7 {L : Nat} {xs : Nat → Int32} {d : Nat} {Q : xO → Prop} (x1 : Int32) (x2 : Int32) (x3 : Int32) (I : xI) (J : xJ) {t : (Int32 × Int32 × Int32 × xI × xJ) ⊕ (Int32 × xI × xJ)} (h : f_X5_hasWord_7 x1 x2 x3 I J = some t) (hC : (c_X5_hasWord_6 L xs d Q) t) : Rn L xs (d + 2) 55 31 [some (.ref 1), some (.int x1), some (.int x2), some (.int x3)] [] 94 (I, J, xrf) Q := by
  unfold f_X5_hasWord_7 at h
  refine Rn.go 4 (j' := 55) (pc' := 35) (ls' := [some (.ref 1), some (.int x1), some (.int x2), some (.int x3)]) (st' := [.int x3, .int x2, .int x1, .ref 1]) (n' := 94) (M' := (I, J, xrf)) (fun f => rfl) ?_
  obtain ⟨o, ho, h⟩ := Option.bind_eq_some_iff.mp h
  refine Rn.call (d1 := d + 1) (j1 := 56) (ls1 := [some (.int x1), some (.int x2), some (.int x3)]) (rest := [.ref 1]) (fun f => rfl) ?_
  refine p_X5_digitOf (d := d + 0) x1 x2 x3 I J (t := o) ho ?_
  exact p_X5_hasWord_8 x1 x2 x3 o.1 o.2.1 o.2.2 h hC
theorem q_X5_hasWord_6 {L : Nat} {xs : Nat → Int32} {d : Nat} {Q : xO → Prop} (x1 : Int32) (x2 : Int32) (x3 : Int32) (I : xI) (J : xJ) {t : (Int32 × Int32 × Int32 × xI × xJ) ⊕ (Int32 × xI × xJ)} (h : b_X5_hasWord_6 x1 x2 x3 I J = some t) (hC : (c_X5_hasWord_6 L xs d Q) t) : Rn L xs (d + 2) 55 26 [some (.ref 1), some (.int x1), some (.int x2), some (.int x3)] [] 94 (I, J, xrf) Q := by
  unfold b_X5_hasWord_6 at h
  refine Rn.fi 3 (c := x2 ≤ x3) (p1 := 52) (l1 := [some (.ref 1), some (.int x1), some (.int x2), some (.int x3)]) (s1 := []) (n1 := 94) (M1 := (I, J, xrf)) (p2 := 31) (l2 := [some (.ref 1), some (.int x1), some (.int x2), some (.int x3)]) (s2 := []) (n2 := 94) (M2 := (I, J, xrf)) (fun f => rfl) (fun hc => ?_) (fun hc => ?_)
  · rw [if_pos hc] at h
    obtain ⟨t0, h0, rfl⟩ := Option.map_eq_some_iff.mp h
    exact p_X5_hasWord_12 x1 x2 x3 I J h0 hC
  · rw [if_neg hc] at h
    exact p_X5_hasWord_7 x1 x2 x3 I J h hC
theorem p_X5_hasWord_6 {L : Nat} {xs : Nat → Int32} {d : Nat} {Q : xO → Prop} (x1 : Int32) (x2 : Int32) (x3 : Int32) (I : xI) (J : xJ) {t : Int32 × xI × xJ} (h : f_X5_hasWord_6 x1 x2 x3 I J = some t) (hC : (c_X5_hasWord Q) t) : Rn L xs (d + 2) 55 26 [some (.ref 1), some (.int x1), some (.int x2), some (.int x3)] [] 94 (I, J, xrf) Q := by
  unfold f_X5_hasWord_6 at h
  exact xloop_some (P := fun s : Int32 × Int32 × Int32 × xI × xJ => Rn L xs (d + 2) 55 26 [some (.ref 1), some (.int s.1), some (.int s.2.1), some (.int s.2.2.1)] [] 94 (s.2.2.2.1, s.2.2.2.2, xrf) Q) t (fun s ⟨s', hb, hp⟩ => q_X5_hasWord_6 s.1 s.2.1 s.2.2.1 s.2.2.2.1 s.2.2.2.2 hb hp) (fun s hb => q_X5_hasWord_6 s.1 s.2.1 s.2.2.1 s.2.2.2.1 s.2.2.2.2 hb hC) _ _ h
theorem p_X5_hasWord_5 {L : Nat} {xs : Nat → Int32} {d : Nat} {Q : xO → Prop} (x1 : Int32) (x2 : Int32) (I : xI) (J : xJ) {t : Int32 × xI × xJ} (h : f_X5_hasWord_5 x1 x2 I J = some t) (hC : (c_X5_hasWord Q) t) : Rn L xs (d + 2) 55 24 [some (.ref 1), some (.int x1), some (.int x2), none] [] 94 (I, J, xrf) Q := by
  unfold f_X5_hasWord_5 at h
  refine Rn.go 2 (j' := 55) (pc' := 26) (ls' := [some (.ref 1), some (.int x1), some (.int x2), some (.int 0)]) (st' := []) (n' := 94) (M' := (I, J, xrf)) (fun f => rfl) ?_
  exact p_X5_hasWord_6 x1 x2 0 I J h hC
theorem p_X5_hasWord_3 {L : Nat} {xs : Nat → Int32} {d : Nat} {Q : xO → Prop} (x1 : Int32) (x2 : Int32) (I : xI) (J : xJ) {t : Int32 × xI × xJ} (h : f_X5_hasWord_3 x1 x2 I J = some t) (hC : (c_X5_hasWord Q) t) : Rn L xs (d + 2) 55 14 [some (.ref 1), some (.int x1), some (.int x2), none] [] 94 (I, J, xrf) Q := by
  unfold f_X5_hasWord_3 at h
  refine Rn.fi 6 (c := (x1 >>> ((2 * x2) &&& 31)) = 0) (p1 := 24) (l1 := [some (.ref 1), some (.int x1), some (.int x2), none]) (s1 := []) (n1 := 94) (M1 := (I, J, xrf)) (p2 := 22) (l2 := [some (.ref 1), some (.int x1), some (.int x2), none]) (s2 := []) (n2 := 94) (M2 := (I, J, xrf)) (fun f => rfl) (fun hc => ?_) (fun hc => ?_)
  · rw [if_pos hc] at h
    exact p_X5_hasWord_5 x1 x2 I J h hC
  · rw [if_neg hc] at h
    exact p_X5_hasWord_4 x1 x2 I J h hC
theorem p_X5_hasWord_2 {L : Nat} {xs : Nat → Int32} {d : Nat} {Q : xO → Prop} (x1 : Int32) (x2 : Int32) (I : xI) (J : xJ) {t : Int32 × xI × xJ} (h : f_X5_hasWord_2 x1 x2 I J = some t) (hC : (c_X5_hasWord Q) t) : Rn L xs (d + 2) 55 10 [some (.ref 1), some (.int x1), some (.int x2), none] [] 94 (I, J, xrf) Q := by
  unfold f_X5_hasWord_2 at h
  refine Rn.fi 2 (c := x1 < 0) (p1 := 22) (l1 := [some (.ref 1), some (.int x1), some (.int x2), none]) (s1 := []) (n1 := 94) (M1 := (I, J, xrf)) (p2 := 14) (l2 := [some (.ref 1), some (.int x1), some (.int x2), none]) (s2 := []) (n2 := 94) (M2 := (I, J, xrf)) (fun f => rfl) (fun hc => ?_) (fun hc => ?_)
  · rw [if_pos hc] at h
    exact p_X5_hasWord_4 x1 x2 I J h hC
  · rw [if_neg hc] at h
    exact p_X5_hasWord_3 x1 x2 I J h hC
theorem p_X5_hasWord_1 {L : Nat} {xs : Nat → Int32} {d : Nat} {Q : xO → Prop} (x1 : Int32) (x2 : Int32) (I : xI) (J : xJ) {t : Int32 × xI × xJ} (h : f_X5_hasWord_1 x1 x2 I J = some t) (hC : (c_X5_hasWord Q) t) : Rn L xs (d + 2) 55 4 [some (.ref 1), some (.int x1), some (.int x2), none] [] 94 (I, J, xrf) Q := by
  unfold f_X5_hasWord_1 at h
  refine Rn.fi 3 (c := 8 < x2) (p1 := 22) (l1 := [some (.ref 1), some (.int x1), some (.int x2), none]) (s1 := []) (n1 := 94) (M1 := (I, J, xrf)) (p2 := 10) (l2 := [some (.ref 1), some (.int x1), some (.int x2), none]) (s2 := []) (n2 := 94) (M2 := (I, J, xrf)) (fun f => rfl) (fun hc => ?_) (fun hc => ?_)
  · rw [if_pos hc] at h
    exact p_X5_hasWord_4 x1 x2 I J h hC
  · rw [if_neg hc] at h
    exact p_X5_hasWord_2 x1 x2 I J h hC
theorem p_X5_hasWord_0 {L : Nat} {xs : Nat → Int32} {d : Nat} {Q : xO → Prop} (x1 : Int32) (x2 : Int32) (I : xI) (J : xJ) {t : Int32 × xI × xJ} (h : f_X5_hasWord_0 x1 x2 I J = some t) (hC : (c_X5_hasWord Q) t) : Rn L xs (d + 2) 55 0 [some (.ref 1), some (.int x1), some (.int x2), none] [] 94 (I, J, xrf) Q := by
  unfold f_X5_hasWord_0 at h
  refine Rn.fi 2 (c := x2 < 0) (p1 := 22) (l1 := [some (.ref 1), some (.int x1), some (.int x2), none]) (s1 := []) (n1 := 94) (M1 := (I, J, xrf)) (p2 := 4) (l2 := [some (.ref 1), some (.int x1), some (.int x2), none]) (s2 := []) (n2 := 94) (M2 := (I, J, xrf)) (fun f => rfl) (fun hc => ?_) (fun hc => ?_)
  · rw [if_pos hc] at h
    exact p_X5_hasWord_4 x1 x2 I J h hC
  · rw [if_neg hc] at h
    exact p_X5_hasWord_1 x1 x2 I J h hC
theorem p_X5_hasWord {L : Nat} {xs : Nat → Int32} {d : Nat} {Q : xO → Prop} (x1 : Int32) (x2 : Int32) (I : xI) (J : xJ) {t : Int32 × xI × xJ} (h : f_X5_hasWord x1 x2 I J = some t) (hC : Q ((some (.int t.1)), 94, (t.2.1, t.2.2, xrf))) : Rn L xs (d + 2) 55 0 [some (.ref 1), some (.int x1), some (.int x2), none] [] 94 (I, J, xrf) Q := p_X5_hasWord_0 x1 x2 I J h hC
/-! X11_run -/
def c_X11_run (Q : xO → Prop) (t : Int32 × xI × xJ) : Prop := Q ((some (.int t.1)), 94, (t.2.1, t.2.2, xrf))
def c_X11_run_10 (L : Nat) (xs : Nat → Int32) (d : Nat) (Q : xO → Prop) (t : (Int32 × Int32 × Int32 × Int32 × Int32 × Int32 × Int32 × Int32 × Int32 × Int32 × (Option Value) × (Option Value) × (Option Value) × xI × xJ) ⊕ (Int32 × xI × xJ)) : Prop := match t with
  | .inl s => Rn L xs (d + 18) 157 61 [some (.ref 0), some (.int s.1), some (.int s.2.1), some (.int s.2.2.1), some (.int s.2.2.2.1), some (.int s.2.2.2.2.1), some (.int s.2.2.2.2.2.1), some (.int s.2.2.2.2.2.2.1), some (.int s.2.2.2.2.2.2.2.1), some (.int s.2.2.2.2.2.2.2.2.1), some (.int s.2.2.2.2.2.2.2.2.2.1), s.2.2.2.2.2.2.2.2.2.2.1, s.2.2.2.2.2.2.2.2.2.2.2.1, s.2.2.2.2.2.2.2.2.2.2.2.2.1] [] 94 (s.2.2.2.2.2.2.2.2.2.2.2.2.2.1, s.2.2.2.2.2.2.2.2.2.2.2.2.2.2, xrf) Q
  | .inr t => (c_X11_run Q) t
def f_X11_run_6 (x1 : Int32) (x2 : Int32) (x3 : Int32) (x4 : Int32) (I : xI) (J : xJ) : Option (Int32 × xI × xJ) := some ((-1), I, J)
def f_X11_run_26 (x1 : Int32) (x2 : Int32) (x3 : Int32) (x4 : Int32) (x5 : Int32) (x6 : Int32) (x7 : Int32) (x8 : Int32) (x9 : Int32) (x10 : Int32) (z11 : Option Value) (z12 : Option Value) (z13 : Option Value) (I : xI) (J : xJ) : Option (Int32 × xI × xJ) := some (x7, I, J)
def f_X11_run_27 (x1 : Int32) (x2 : Int32) (x3 : Int32) (x4 : Int32) (x5 : Int32) (x6 : Int32) (x7 : Int32) (x8 : Int32) (x9 : Int32) (x10 : Int32) (z11 : Option Value) (z12 : Option Value) (z13 : Option Value) (I : xI) (J : xJ) : Option (Int32 × xI × xJ) := some (x5, I, J)
def f_X11_run_28 (x1 : Int32) (x2 : Int32) (x3 : Int32) (x4 : Int32) (x5 : Int32) (x6 : Int32) (x7 : Int32) (x8 : Int32) (x9 : Int32) (x10 : Int32) (z11 : Option Value) (z12 : Option Value) (z13 : Option Value) (I : xI) (J : xJ) : Option (Int32 × xI × xJ) := some (x6, I, J)
def f_X11_run_29 (x1 : Int32) (x2 : Int32) (x3 : Int32) (x4 : Int32) (x5 : Int32) (x6 : Int32) (x7 : Int32) (x8 : Int32) (x9 : Int32) (x10 : Int32) (z11 : Option Value) (z12 : Option Value) (z13 : Option Value) (I : xI) (J : xJ) : Option (Int32 × xI × xJ) := some (x8, I, J)
def f_X11_run_30 (x1 : Int32) (x2 : Int32) (x3 : Int32) (x4 : Int32) (x5 : Int32) (x6 : Int32) (x7 : Int32) (x8 : Int32) (x9 : Int32) (x10 : Int32) (z11 : Option Value) (z12 : Option Value) (z13 : Option Value) (I : xI) (J : xJ) : Option (Int32 × xI × xJ) := some (x9, I, J)
def f_X11_run_25 (x1 : Int32) (x2 : Int32) (x3 : Int32) (x4 : Int32) (x5 : Int32) (x6 : Int32) (x7 : Int32) (x8 : Int32) (x9 : Int32) (x10 : Int32) (z11 : Option Value) (z12 : Option Value) (z13 : Option Value) (s0 : Int32) (I : xI) (J : xJ) : Option (Int32 × xI × xJ) := if s0 = 0 then f_X11_run_26 x1 x2 x3 x4 x5 x6 x7 x8 x9 x10 z11 z12 z13 I J else if s0 = 1 then f_X11_run_27 x1 x2 x3 x4 x5 x6 x7 x8 x9 x10 z11 z12 z13 I J else if s0 = 2 then f_X11_run_28 x1 x2 x3 x4 x5 x6 x7 x8 x9 x10 z11 z12 z13 I J else if s0 = 3 then f_X11_run_29 x1 x2 x3 x4 x5 x6 x7 x8 x9 x10 z11 z12 z13 I J else f_X11_run_30 x1 x2 x3 x4 x5 x6 x7 x8 x9 x10 z11 z12 z13 I J
def f_X11_run_24 (x1 : Int32) (x2 : Int32) (x3 : Int32) (x4 : Int32) (x5 : Int32) (x6 : Int32) (x7 : Int32) (x8 : Int32) (x9 : Int32) (x10 : Int32) (z11 : Option Value) (z12 : Option Value) (z13 : Option Value) (I : xI) (J : xJ) : Option (Int32 × xI × xJ) := f_X11_run_25 x1 x2 x3 x4 x5 x6 x7 x8 x9 x10 z11 z12 z13 x4 I J
def f_X11_run_23 (x1 : Int32) (x2 : Int32) (x3 : Int32) (x4 : Int32) (x5 : Int32) (x6 : Int32) (x7 : Int32) (x8 : Int32) (x9 : Int32) (x10 : Int32) (x11 : Int32) (x12 : Int32) (x13 : Int32) (s0 : Int32) (I : xI) (J : xJ) : Option ((Int32 × Int32 × Int32 × Int32 × Int32 × Int32 × Int32 × Int32 × Int32 × Int32 × (Option Value) × (Option Value) × (Option Value) × xI × xJ) ⊕ (Int32 × xI × xJ)) := some (.inl (x1, x2, x3, x4, x13, s0, ((x7 + 1)), x8, x9, ((x10 + 1)), (some (.int x11)), (some (.int x12)), (some (.int x13)), I, J))
def f_X11_run_22 (x1 : Int32) (x2 : Int32) (x3 : Int32) (x4 : Int32) (x5 : Int32) (x6 : Int32) (x7 : Int32) (x8 : Int32) (x9 : Int32) (x10 : Int32) (x11 : Int32) (x12 : Int32) (x13 : Int32) (I : xI) (J : xJ) : Option ((Int32 × Int32 × Int32 × Int32 × Int32 × Int32 × Int32 × Int32 × Int32 × Int32 × (Option Value) × (Option Value) × (Option Value) × xI × xJ) ⊕ (Int32 × xI × xJ)) := (f_X1_smallTarget x6 x11 I J).bind fun o => f_X11_run_23 x1 x2 x3 x4 x5 x6 x7 x8 x9 x10 x11 x12 x13 o.1 o.2.1 o.2.2
def f_X11_run_21 (x1 : Int32) (x2 : Int32) (x3 : Int32) (x4 : Int32) (x5 : Int32) (x6 : Int32) (x7 : Int32) (x8 : Int32) (x9 : Int32) (x10 : Int32) (x11 : Int32) (x12 : Int32) (x13 : Int32) (I : xI) (J : xJ) : Option (Int32 × xI × xJ) := f_X11_run_24 x1 x2 x3 x4 x5 x6 x7 x8 x9 x10 (some (.int x11)) (some (.int x12)) (some (.int x13)) I J
def f_X11_run_20 (x1 : Int32) (x2 : Int32) (x3 : Int32) (x4 : Int32) (x5 : Int32) (x6 : Int32) (x7 : Int32) (x8 : Int32) (x9 : Int32) (x10 : Int32) (x11 : Int32) (x12 : Int32) (z13 : Option Value) (s0 : Int32) (I : xI) (J : xJ) : Option ((Int32 × Int32 × Int32 × Int32 × Int32 × Int32 × Int32 × Int32 × Int32 × Int32 × (Option Value) × (Option Value) × (Option Value) × xI × xJ) ⊕ (Int32 × xI × xJ)) := if 0 ≤ s0 then f_X11_run_22 x1 x2 x3 x4 x5 x6 x7 x8 x9 x10 x11 x12 s0 I J else ((f_X11_run_21 x1 x2 x3 x4 x5 x6 x7 x8 x9 x10 x11 x12 s0 I J)).map .inr
def f_X11_run_19 (x1 : Int32) (x2 : Int32) (x3 : Int32) (x4 : Int32) (x5 : Int32) (x6 : Int32) (x7 : Int32) (x8 : Int32) (x9 : Int32) (x10 : Int32) (x11 : Int32) (x12 : Int32) (z13 : Option Value) (I : xI) (J : xJ) : Option ((Int32 × Int32 × Int32 × Int32 × Int32 × Int32 × Int32 × Int32 × Int32 × Int32 × (Option Value) × (Option Value) × (Option Value) × xI × xJ) ⊕ (Int32 × xI × xJ)) := (f_X5_targetOf x5 x11 I J).bind fun o => f_X11_run_20 x1 x2 x3 x4 x5 x6 x7 x8 x9 x10 x11 x12 z13 o.1 o.2.1 o.2.2
def f_X11_run_18 (x1 : Int32) (x2 : Int32) (x3 : Int32) (x4 : Int32) (x5 : Int32) (x6 : Int32) (x7 : Int32) (x8 : Int32) (x9 : Int32) (x10 : Int32) (x11 : Int32) (x12 : Int32) (z13 : Option Value) (s0 : Int32) (s1 : Int32) (I : xI) (J : xJ) : Option ((Int32 × Int32 × Int32 × Int32 × Int32 × Int32 × Int32 × Int32 × Int32 × Int32 × (Option Value) × (Option Value) × (Option Value) × xI × xJ) ⊕ (Int32 × xI × xJ)) := f_X11_run_19 x1 x2 x3 x4 x5 x6 x7 ((s0 + s1)) x9 x10 x11 x12 z13 I J
def f_X11_run_17 (x1 : Int32) (x2 : Int32) (x3 : Int32) (x4 : Int32) (x5 : Int32) (x6 : Int32) (x7 : Int32) (x8 : Int32) (x9 : Int32) (x10 : Int32) (x11 : Int32) (x12 : Int32) (z13 : Option Value) (s0 : Int32) (I : xI) (J : xJ) : Option ((Int32 × Int32 × Int32 × Int32 × Int32 × Int32 × Int32 × Int32 × Int32 × Int32 × (Option Value) × (Option Value) × (Option Value) × xI × xJ) ⊕ (Int32 × xI × xJ)) := f_X11_run_18 x1 x2 x3 x4 x5 x6 x7 x8 x9 x10 x11 x12 z13 s0 0 I J
def f_X11_run_16 (x1 : Int32) (x2 : Int32) (x3 : Int32) (x4 : Int32) (x5 : Int32) (x6 : Int32) (x7 : Int32) (x8 : Int32) (x9 : Int32) (x10 : Int32) (x11 : Int32) (x12 : Int32) (z13 : Option Value) (s0 : Int32) (I : xI) (J : xJ) : Option ((Int32 × Int32 × Int32 × Int32 × Int32 × Int32 × Int32 × Int32 × Int32 × Int32 × (Option Value) × (Option Value) × (Option Value) × xI × xJ) ⊕ (Int32 × xI × xJ)) := f_X11_run_18 x1 x2 x3 x4 x5 x6 x7 x8 x9 x10 x11 x12 z13 s0 1 I J
def f_X11_run_15 (x1 : Int32) (x2 : Int32) (x3 : Int32) (x4 : Int32) (x5 : Int32) (x6 : Int32) (x7 : Int32) (x8 : Int32) (x9 : Int32) (x10 : Int32) (x11 : Int32) (x12 : Int32) (z13 : Option Value) (s0 : Int32) (s1 : Int32) (I : xI) (J : xJ) : Option ((Int32 × Int32 × Int32 × Int32 × Int32 × Int32 × Int32 × Int32 × Int32 × Int32 × (Option Value) × (Option Value) × (Option Value) × xI × xJ) ⊕ (Int32 × xI × xJ)) := if s1 = x12 then f_X11_run_16 x1 x2 x3 x4 x5 x6 x7 x8 x9 x10 x11 x12 z13 s0 I J else f_X11_run_17 x1 x2 x3 x4 x5 x6 x7 x8 x9 x10 x11 x12 z13 s0 I J
def f_X11_run_14 (x1 : Int32) (x2 : Int32) (x3 : Int32) (x4 : Int32) (x5 : Int32) (x6 : Int32) (x7 : Int32) (x8 : Int32) (x9 : Int32) (x10 : Int32) (x11 : Int32) (x12 : Int32) (z13 : Option Value) (I : xI) (J : xJ) : Option ((Int32 × Int32 × Int32 × Int32 × Int32 × Int32 × Int32 × Int32 × Int32 × Int32 × (Option Value) × (Option Value) × (Option Value) × xI × xJ) ⊕ (Int32 × xI × xJ)) := (f_X1_smallAnswer x6 x11 I J).bind fun o => f_X11_run_15 x1 x2 x3 x4 x5 x6 x7 x8 ((x9 + 1)) x10 x11 x12 z13 x8 o.1 o.2.1 o.2.2
def f_X11_run_13 (x1 : Int32) (x2 : Int32) (x3 : Int32) (x4 : Int32) (x5 : Int32) (x6 : Int32) (x7 : Int32) (x8 : Int32) (x9 : Int32) (x10 : Int32) (x11 : Int32) (z12 : Option Value) (z13 : Option Value) (s0 : Int32) (I : xI) (J : xJ) : Option ((Int32 × Int32 × Int32 × Int32 × Int32 × Int32 × Int32 × Int32 × Int32 × Int32 × (Option Value) × (Option Value) × (Option Value) × xI × xJ) ⊕ (Int32 × xI × xJ)) := if s0 = (-2) then f_X11_run_19 x1 x2 x3 x4 x5 x6 x7 x8 x9 x10 x11 s0 z13 I J else f_X11_run_14 x1 x2 x3 x4 x5 x6 x7 x8 x9 x10 x11 s0 z13 I J
def f_X11_run_12 (x1 : Int32) (x2 : Int32) (x3 : Int32) (x4 : Int32) (x5 : Int32) (x6 : Int32) (x7 : Int32) (x8 : Int32) (x9 : Int32) (x10 : Int32) (z11 : Option Value) (z12 : Option Value) (z13 : Option Value) (s0 : Int32) (I : xI) (J : xJ) : Option ((Int32 × Int32 × Int32 × Int32 × Int32 × Int32 × Int32 × Int32 × Int32 × Int32 × (Option Value) × (Option Value) × (Option Value) × xI × xJ) ⊕ (Int32 × xI × xJ)) := (f_X5_answerOf x5 s0 I J).bind fun o => f_X11_run_13 x1 x2 x3 x4 x5 x6 x7 x8 x9 x10 s0 z12 z13 o.1 o.2.1 o.2.2
def f_X11_run_11 (x1 : Int32) (x2 : Int32) (x3 : Int32) (x4 : Int32) (x5 : Int32) (x6 : Int32) (x7 : Int32) (x8 : Int32) (x9 : Int32) (x10 : Int32) (z11 : Option Value) (z12 : Option Value) (z13 : Option Value) (I : xI) (J : xJ) : Option ((Int32 × Int32 × Int32 × Int32 × Int32 × Int32 × Int32 × Int32 × Int32 × Int32 × (Option Value) × (Option Value) × (Option Value) × xI × xJ) ⊕ (Int32 × xI × xJ)) := (f_X5_digitOf x2 x3 x10 I J).bind fun o => f_X11_run_12 x1 x2 x3 x4 x5 x6 x7 x8 x9 x10 z11 z12 z13 o.1 o.2.1 o.2.2
def b_X11_run_10 (x1 : Int32) (x2 : Int32) (x3 : Int32) (x4 : Int32) (x5 : Int32) (x6 : Int32) (x7 : Int32) (x8 : Int32) (x9 : Int32) (x10 : Int32) (z11 : Option Value) (z12 : Option Value) (z13 : Option Value) (I : xI) (J : xJ) : Option ((Int32 × Int32 × Int32 × Int32 × Int32 × Int32 × Int32 × Int32 × Int32 × Int32 × (Option Value) × (Option Value) × (Option Value) × xI × xJ) ⊕ (Int32 × xI × xJ)) := if x3 ≤ x10 then ((f_X11_run_24 x1 x2 x3 x4 x5 x6 x7 x8 x9 x10 z11 z12 z13 I J)).map .inr else f_X11_run_11 x1 x2 x3 x4 x5 x6 x7 x8 x9 x10 z11 z12 z13 I J
def f_X11_run_10 (x1 : Int32) (x2 : Int32) (x3 : Int32) (x4 : Int32) (x5 : Int32) (x6 : Int32) (x7 : Int32) (x8 : Int32) (x9 : Int32) (x10 : Int32) (z11 : Option Value) (z12 : Option Value) (z13 : Option Value) (I : xI) (J : xJ) : Option (Int32 × xI × xJ) := xloop (fun s : Int32 × Int32 × Int32 × Int32 × Int32 × Int32 × Int32 × Int32 × Int32 × Int32 × (Option Value) × (Option Value) × (Option Value) × xI × xJ => b_X11_run_10 s.1 s.2.1 s.2.2.1 s.2.2.2.1 s.2.2.2.2.1 s.2.2.2.2.2.1 s.2.2.2.2.2.2.1 s.2.2.2.2.2.2.2.1 s.2.2.2.2.2.2.2.2.1 s.2.2.2.2.2.2.2.2.2.1 s.2.2.2.2.2.2.2.2.2.2.1 s.2.2.2.2.2.2.2.2.2.2.2.1 s.2.2.2.2.2.2.2.2.2.2.2.2.1 s.2.2.2.2.2.2.2.2.2.2.2.2.2.1 s.2.2.2.2.2.2.2.2.2.2.2.2.2.2) 5000 (x1, x2, x3, x4, x5, x6, x7, x8, x9, x10, z11, z12, z13, I, J)
def f_X11_run_9 (x1 : Int32) (x2 : Int32) (x3 : Int32) (x4 : Int32) (x5 : Int32) (s0 : Int32) (I : xI) (J : xJ) : Option (Int32 × xI × xJ) := f_X11_run_10 x1 x2 x3 x4 x5 s0 0 0 0 0 none none none I J
def f_X11_run_8 (x1 : Int32) (x2 : Int32) (x3 : Int32) (x4 : Int32) (x5 : Int32) (I : xI) (J : xJ) : Option (Int32 × xI × xJ) := (f_X1_homeOf x1 I J).bind fun o => f_X11_run_9 x1 x2 x3 x4 x5 o.1 o.2.1 o.2.2
def f_X11_run_7 (x1 : Int32) (x2 : Int32) (x3 : Int32) (x4 : Int32) (I : xI) (J : xJ) : Option (Int32 × xI × xJ) := (f_X11_fewestNow I J).bind fun o => f_X11_run_8 x1 x2 x3 x4 x1 o.2.1 o.2.2
def f_X11_run_5 (x1 : Int32) (x2 : Int32) (x3 : Int32) (x4 : Int32) (I : xI) (J : xJ) : Option (Int32 × xI × xJ) := if x4 ≤ 4 then f_X11_run_7 x1 x2 x3 x4 I J else f_X11_run_6 x1 x2 x3 x4 I J
def f_X11_run_4 (x1 : Int32) (x2 : Int32) (x3 : Int32) (x4 : Int32) (I : xI) (J : xJ) : Option (Int32 × xI × xJ) := if x4 < 0 then f_X11_run_6 x1 x2 x3 x4 I J else f_X11_run_5 x1 x2 x3 x4 I J
def f_X11_run_3 (x1 : Int32) (x2 : Int32) (x3 : Int32) (x4 : Int32) (s0 : Int32) (I : xI) (J : xJ) : Option (Int32 × xI × xJ) := if s0 = 0 then f_X11_run_6 x1 x2 x3 x4 I J else f_X11_run_4 x1 x2 x3 x4 I J
def f_X11_run_2 (x1 : Int32) (x2 : Int32) (x3 : Int32) (x4 : Int32) (I : xI) (J : xJ) : Option (Int32 × xI × xJ) := (f_X5_hasWord x2 x3 I J).bind fun o => f_X11_run_3 x1 x2 x3 x4 o.1 o.2.1 o.2.2
def f_X11_run_1 (x1 : Int32) (x2 : Int32) (x3 : Int32) (x4 : Int32) (s0 : Int32) (I : xI) (J : xJ) : Option (Int32 × xI × xJ) := if s0 = 0 then f_X11_run_6 x1 x2 x3 x4 I J else f_X11_run_2 x1 x2 x3 x4 I J
def f_X11_run_0 (x1 : Int32) (x2 : Int32) (x3 : Int32) (x4 : Int32) (I : xI) (J : xJ) : Option (Int32 × xI × xJ) := (f_X5_hasState x1 I J).bind fun o => f_X11_run_1 x1 x2 x3 x4 o.1 o.2.1 o.2.2
def f_X11_run (x1 : Int32) (x2 : Int32) (x3 : Int32) (x4 : Int32) (I : xI) (J : xJ) : Option (Int32 × xI × xJ) := f_X11_run_0 x1 x2 x3 x4 I J
theorem p_X11_run_6 {L : Nat} {xs : Nat → Int32} {d : Nat} {Q : xO → Prop} (x1 : Int32) (x2 : Int32) (x3 : Int32) (x4 : Int32) (I : xI) (J : xJ) {t : Int32 × xI × xJ} (h : f_X11_run_6 x1 x2 x3 x4 I J = some t) (hC : (c_X11_run Q) t) : Rn L xs (d + 18) 157 34 [some (.ref 0), some (.int x1), some (.int x2), some (.int x3), some (.int x4), none, none, none, none, none, none, none, none, none] [] 94 (I, J, xrf) Q := by
  unfold f_X11_run_6 at h
  cases h
  exact Rn.ret 2 (o := ((some (.int ((-1)))), 94, (I, J, xrf))) (fun f => rfl) hC
theorem p_X11_run_26 {L : Nat} {xs : Nat → Int32} {d : Nat} {Q : xO → Prop} (x1 : Int32) (x2 : Int32) (x3 : Int32) (x4 : Int32) (x5 : Int32) (x6 : Int32) (x7 : Int32) (x8 : Int32) (x9 : Int32) (x10 : Int32) (z11 : Option Value) (z12 : Option Value) (z13 : Option Value) (I : xI) (J : xJ) {t : Int32 × xI × xJ} (h : f_X11_run_26 x1 x2 x3 x4 x5 x6 x7 x8 x9 x10 z11 z12 z13 I J = some t) (hC : (c_X11_run Q) t) : Rn L xs (d + 18) 157 204 [some (.ref 0), some (.int x1), some (.int x2), some (.int x3), some (.int x4), some (.int x5), some (.int x6), some (.int x7), some (.int x8), some (.int x9), some (.int x10), z11, z12, z13] [] 94 (I, J, xrf) Q := by
  unfold f_X11_run_26 at h
  cases h
  exact Rn.ret 2 (o := ((some (.int x7)), 94, (I, J, xrf))) (fun f => rfl) hC
theorem p_X11_run_27 {L : Nat} {xs : Nat → Int32} {d : Nat} {Q : xO → Prop} (x1 : Int32) (x2 : Int32) (x3 : Int32) (x4 : Int32) (x5 : Int32) (x6 : Int32) (x7 : Int32) (x8 : Int32) (x9 : Int32) (x10 : Int32) (z11 : Option Value) (z12 : Option Value) (z13 : Option Value) (I : xI) (J : xJ) {t : Int32 × xI × xJ} (h : f_X11_run_27 x1 x2 x3 x4 x5 x6 x7 x8 x9 x10 z11 z12 z13 I J = some t) (hC : (c_X11_run Q) t) : Rn L xs (d + 18) 157 207 [some (.ref 0), some (.int x1), some (.int x2), some (.int x3), some (.int x4), some (.int x5), some (.int x6), some (.int x7), some (.int x8), some (.int x9), some (.int x10), z11, z12, z13] [] 94 (I, J, xrf) Q := by
  unfold f_X11_run_27 at h
  cases h
  exact Rn.ret 2 (o := ((some (.int x5)), 94, (I, J, xrf))) (fun f => rfl) hC
theorem p_X11_run_28 {L : Nat} {xs : Nat → Int32} {d : Nat} {Q : xO → Prop} (x1 : Int32) (x2 : Int32) (x3 : Int32) (x4 : Int32) (x5 : Int32) (x6 : Int32) (x7 : Int32) (x8 : Int32) (x9 : Int32) (x10 : Int32) (z11 : Option Value) (z12 : Option Value) (z13 : Option Value) (I : xI) (J : xJ) {t : Int32 × xI × xJ} (h : f_X11_run_28 x1 x2 x3 x4 x5 x6 x7 x8 x9 x10 z11 z12 z13 I J = some t) (hC : (c_X11_run Q) t) : Rn L xs (d + 18) 157 210 [some (.ref 0), some (.int x1), some (.int x2), some (.int x3), some (.int x4), some (.int x5), some (.int x6), some (.int x7), some (.int x8), some (.int x9), some (.int x10), z11, z12, z13] [] 94 (I, J, xrf) Q := by
  unfold f_X11_run_28 at h
  cases h
  exact Rn.ret 2 (o := ((some (.int x6)), 94, (I, J, xrf))) (fun f => rfl) hC
theorem p_X11_run_29 {L : Nat} {xs : Nat → Int32} {d : Nat} {Q : xO → Prop} (x1 : Int32) (x2 : Int32) (x3 : Int32) (x4 : Int32) (x5 : Int32) (x6 : Int32) (x7 : Int32) (x8 : Int32) (x9 : Int32) (x10 : Int32) (z11 : Option Value) (z12 : Option Value) (z13 : Option Value) (I : xI) (J : xJ) {t : Int32 × xI × xJ} (h : f_X11_run_29 x1 x2 x3 x4 x5 x6 x7 x8 x9 x10 z11 z12 z13 I J = some t) (hC : (c_X11_run Q) t) : Rn L xs (d + 18) 157 213 [some (.ref 0), some (.int x1), some (.int x2), some (.int x3), some (.int x4), some (.int x5), some (.int x6), some (.int x7), some (.int x8), some (.int x9), some (.int x10), z11, z12, z13] [] 94 (I, J, xrf) Q := by
  unfold f_X11_run_29 at h
  cases h
  exact Rn.ret 2 (o := ((some (.int x8)), 94, (I, J, xrf))) (fun f => rfl) hC
theorem p_X11_run_30 {L : Nat} {xs : Nat → Int32} {d : Nat} {Q : xO → Prop} (x1 : Int32) (x2 : Int32) (x3 : Int32) (x4 : Int32) (x5 : Int32) (x6 : Int32) (x7 : Int32) (x8 : Int32) (x9 : Int32) (x10 : Int32) (z11 : Option Value) (z12 : Option Value) (z13 : Option Value) (I : xI) (J : xJ) {t : Int32 × xI × xJ} (h : f_X11_run_30 x1 x2 x3 x4 x5 x6 x7 x8 x9 x10 z11 z12 z13 I J = some t) (hC : (c_X11_run Q) t) : Rn L xs (d + 18) 157 216 [some (.ref 0), some (.int x1), some (.int x2), some (.int x3), some (.int x4), some (.int x5), some (.int x6), some (.int x7), some (.int x8), some (.int x9), some (.int x10), z11, z12, z13] [] 94 (I, J, xrf) Q := by
  unfold f_X11_run_30 at h
  cases h
  exact Rn.ret 2 (o := ((some (.int x9)), 94, (I, J, xrf))) (fun f => rfl) hC
theorem p_X11_run_25 {L : Nat} {xs : Nat → Int32} {d : Nat} {Q : xO → Prop} (x1 : Int32) (x2 : Int32) (x3 : Int32) (x4 : Int32) (x5 : Int32) (x6 : Int32) (x7 : Int32) (x8 : Int32) (x9 : Int32) (x10 : Int32) (z11 : Option Value) (z12 : Option Value) (z13 : Option Value) (s0 : Int32) (I : xI) (J : xJ) {t : Int32 × xI × xJ} (h : f_X11_run_25 x1 x2 x3 x4 x5 x6 x7 x8 x9 x10 z11 z12 z13 s0 I J = some t) (hC : (c_X11_run Q) t) : Rn L xs (d + 18) 157 174 [some (.ref 0), some (.int x1), some (.int x2), some (.int x3), some (.int x4), some (.int x5), some (.int x6), some (.int x7), some (.int x8), some (.int x9), some (.int x10), z11, z12, z13] [.int s0] 94 (I, J, xrf) Q := by
  unfold f_X11_run_25 at h
  by_cases hc0 : s0 = 0
  · rw [if_pos hc0] at h; subst hc0
    refine Rn.go 1 (j' := 157) (pc' := 204) (ls' := [some (.ref 0), some (.int x1), some (.int x2), some (.int x3), some (.int x4), some (.int x5), some (.int x6), some (.int x7), some (.int x8), some (.int x9), some (.int x10), z11, z12, z13]) (st' := []) (n' := 94) (M' := (I, J, xrf)) (fun f => rfl) ?_
    exact p_X11_run_26 x1 x2 x3 x4 x5 x6 x7 x8 x9 x10 z11 z12 z13 I J h hC
  rw [if_neg hc0] at h
  by_cases hc1 : s0 = 1
  · rw [if_pos hc1] at h; subst hc1
    refine Rn.go 1 (j' := 157) (pc' := 207) (ls' := [some (.ref 0), some (.int x1), some (.int x2), some (.int x3), some (.int x4), some (.int x5), some (.int x6), some (.int x7), some (.int x8), some (.int x9), some (.int x10), z11, z12, z13]) (st' := []) (n' := 94) (M' := (I, J, xrf)) (fun f => rfl) ?_
    exact p_X11_run_27 x1 x2 x3 x4 x5 x6 x7 x8 x9 x10 z11 z12 z13 I J h hC
  rw [if_neg hc1] at h
  by_cases hc2 : s0 = 2
  · rw [if_pos hc2] at h; subst hc2
    refine Rn.go 1 (j' := 157) (pc' := 210) (ls' := [some (.ref 0), some (.int x1), some (.int x2), some (.int x3), some (.int x4), some (.int x5), some (.int x6), some (.int x7), some (.int x8), some (.int x9), some (.int x10), z11, z12, z13]) (st' := []) (n' := 94) (M' := (I, J, xrf)) (fun f => rfl) ?_
    exact p_X11_run_28 x1 x2 x3 x4 x5 x6 x7 x8 x9 x10 z11 z12 z13 I J h hC
  rw [if_neg hc2] at h
  by_cases hc3 : s0 = 3
  · rw [if_pos hc3] at h; subst hc3
    refine Rn.go 1 (j' := 157) (pc' := 213) (ls' := [some (.ref 0), some (.int x1), some (.int x2), some (.int x3), some (.int x4), some (.int x5), some (.int x6), some (.int x7), some (.int x8), some (.int x9), some (.int x10), z11, z12, z13]) (st' := []) (n' := 94) (M' := (I, J, xrf)) (fun f => rfl) ?_
    exact p_X11_run_29 x1 x2 x3 x4 x5 x6 x7 x8 x9 x10 z11 z12 z13 I J h hC
  rw [if_neg hc3] at h
  have ho : Int32.toInt s0 < 0 ∨ 3 < Int32.toInt s0 := xsw_out (fun i h1 h2 => by
      have hh : i = 0 ∨ i = 1 ∨ i = 2 ∨ i = 3 := (by omega)
      rcases hh with rfl | rfl | rfl | rfl
      · exact hc0
      · exact hc1
      · exact hc2
      · exact hc3)
  refine Rn.go 1 (d' := (d + 18)) (j' := 157) (pc' := 216) (ls' := [some (.ref 0), some (.int x1), some (.int x2), some (.int x3), some (.int x4), some (.int x5), some (.int x6), some (.int x7), some (.int x8), some (.int x9), some (.int x10), z11, z12, z13]) (st' := []) (n' := 94) (M' := (I, J, xrf)) (fun f => by show (if Int32.toInt s0 < 0 ∨ 3 < Int32.toInt s0 then _ else _) = _; rw [if_pos ho] <;> rfl) ?_
  exact p_X11_run_30 x1 x2 x3 x4 x5 x6 x7 x8 x9 x10 z11 z12 z13 I J h hC
theorem p_X11_run_24 {L : Nat} {xs : Nat → Int32} {d : Nat} {Q : xO → Prop} (x1 : Int32) (x2 : Int32) (x3 : Int32) (x4 : Int32) (x5 : Int32) (x6 : Int32) (x7 : Int32) (x8 : Int32) (x9 : Int32) (x10 : Int32) (z11 : Option Value) (z12 : Option Value) (z13 : Option Value) (I : xI) (J : xJ) {t : Int32 × xI × xJ} (h : f_X11_run_24 x1 x2 x3 x4 x5 x6 x7 x8 x9 x10 z11 z12 z13 I J = some t) (hC : (c_X11_run Q) t) : Rn L xs (d + 18) 157 172 [some (.ref 0), some (.int x1), some (.int x2), some (.int x3), some (.int x4), some (.int x5), some (.int x6), some (.int x7), some (.int x8), some (.int x9), some (.int x10), z11, z12, z13] [] 94 (I, J, xrf) Q := by
  unfold f_X11_run_24 at h
  refine Rn.go 1 (j' := 157) (pc' := 174) (ls' := [some (.ref 0), some (.int x1), some (.int x2), some (.int x3), some (.int x4), some (.int x5), some (.int x6), some (.int x7), some (.int x8), some (.int x9), some (.int x10), z11, z12, z13]) (st' := [.int x4]) (n' := 94) (M' := (I, J, xrf)) (fun f => rfl) ?_
  exact p_X11_run_25 x1 x2 x3 x4 x5 x6 x7 x8 x9 x10 z11 z12 z13 x4 I J h hC
theorem p_X11_run_23 {L : Nat} {xs : Nat → Int32} {d : Nat} {Q : xO → Prop} (x1 : Int32) (x2 : Int32) (x3 : Int32) (x4 : Int32) (x5 : Int32) (x6 : Int32) (x7 : Int32) (x8 : Int32) (x9 : Int32) (x10 : Int32) (x11 : Int32) (x12 : Int32) (x13 : Int32) (s0 : Int32) (I : xI) (J : xJ) {t : (Int32 × Int32 × Int32 × Int32 × Int32 × Int32 × Int32 × Int32 × Int32 × Int32 × (Option Value) × (Option Value) × (Option Value) × xI × xJ) ⊕ (Int32 × xI × xJ)} (h : f_X11_run_23 x1 x2 x3 x4 x5 x6 x7 x8 x9 x10 x11 x12 x13 s0 I J = some t) (hC : (c_X11_run_10 L xs d Q) t) : Rn L xs (d + 18) 157 157 [some (.ref 0), some (.int x1), some (.int x2), some (.int x3), some (.int x4), some (.int x5), some (.int x6), some (.int x7), some (.int x8), some (.int x9), some (.int x10), some (.int x11), some (.int x12), some (.int x13)] [.int s0] 94 (I, J, xrf) Q := by
  unfold f_X11_run_23 at h
  refine Rn.go 6 (j' := 157) (pc' := 61) (ls' := [some (.ref 0), some (.int x1), some (.int x2), some (.int x3), some (.int x4), some (.int x13), some (.int s0), some (.int ((x7 + 1))), some (.int x8), some (.int x9), some (.int ((x10 + 1))), some (.int x11), some (.int x12), some (.int x13)]) (st' := []) (n' := 94) (M' := (I, J, xrf)) (fun f => rfl) ?_
  cases h; exact hC
theorem p_X11_run_22 {L : Nat} {xs : Nat → Int32} {d : Nat} {Q : xO → Prop} (x1 : Int32) (x2 : Int32) (x3 : Int32) (x4 : Int32) (x5 : Int32) (x6 : Int32) (x7 : Int32) (x8 : Int32) (x9 : Int32) (x10 : Int32) (x11 : Int32) (x12 : Int32) (x13 : Int32) (I : xI) (J : xJ) {t : (Int32 × Int32 × Int32 × Int32 × Int32 × Int32 × Int32 × Int32 × Int32 × Int32 × (Option Value) × (Option Value) × (Option Value) × xI × xJ) ⊕ (Int32 × xI × xJ)} (h : f_X11_run_22 x1 x2 x3 x4 x5 x6 x7 x8 x9 x10 x11 x12 x13 I J = some t) (hC : (c_X11_run_10 L xs d Q) t) : Rn L xs (d + 18) 157 146 [some (.ref 0), some (.int x1), some (.int x2), some (.int x3), some (.int x4), some (.int x5), some (.int x6), some (.int x7), some (.int x8), some (.int x9), some (.int x10), some (.int x11), some (.int x12), some (.int x13)] [] 94 (I, J, xrf) Q := by
  unfold f_X11_run_22 at h
  refine Rn.go 4 (j' := 157) (pc' := 154) (ls' := [some (.ref 0), some (.int x1), some (.int x2), some (.int x3), some (.int x4), some (.int x5), some (.int x6), some (.int x7), some (.int x8), some (.int x9), some (.int x10), some (.int x11), some (.int x12), some (.int x13)]) (st' := [.int x11, .int x6, .ref 36]) (n' := 94) (M' := (I, J, xrf)) (fun f => rfl) ?_
  obtain ⟨o, ho, h⟩ := Option.bind_eq_some_iff.mp h
  refine Rn.call (d1 := d + 17) (j1 := 18) (ls1 := [some (.ref 36), some (.int x6), some (.int x11), none]) (rest := []) (fun f => rfl) ?_
  refine p_X1_smallTarget (d := d + 14) x6 x11 I J (t := o) ho ?_
  exact p_X11_run_23 x1 x2 x3 x4 x5 x6 x7 x8 x9 x10 x11 x12 x13 o.1 o.2.1 o.2.2 h hC
theorem p_X11_run_21 {L : Nat} {xs : Nat → Int32} {d : Nat} {Q : xO → Prop} (x1 : Int32) (x2 : Int32) (x3 : Int32) (x4 : Int32) (x5 : Int32) (x6 : Int32) (x7 : Int32) (x8 : Int32) (x9 : Int32) (x10 : Int32) (x11 : Int32) (x12 : Int32) (x13 : Int32) (I : xI) (J : xJ) {t : Int32 × xI × xJ} (h : f_X11_run_21 x1 x2 x3 x4 x5 x6 x7 x8 x9 x10 x11 x12 x13 I J = some t) (hC : (c_X11_run Q) t) : Rn L xs (d + 18) 157 143 [some (.ref 0), some (.int x1), some (.int x2), some (.int x3), some (.int x4), some (.int x5), some (.int x6), some (.int x7), some (.int x8), some (.int x9), some (.int x10), some (.int x11), some (.int x12), some (.int x13)] [] 94 (I, J, xrf) Q := by
  unfold f_X11_run_21 at h
  refine Rn.go 1 (j' := 157) (pc' := 172) (ls' := [some (.ref 0), some (.int x1), some (.int x2), some (.int x3), some (.int x4), some (.int x5), some (.int x6), some (.int x7), some (.int x8), some (.int x9), some (.int x10), some (.int x11), some (.int x12), some (.int x13)]) (st' := []) (n' := 94) (M' := (I, J, xrf)) (fun f => rfl) ?_
  exact p_X11_run_24 x1 x2 x3 x4 x5 x6 x7 x8 x9 x10 (some (.int x11)) (some (.int x12)) (some (.int x13)) I J h hC
theorem p_X11_run_20 {L : Nat} {xs : Nat → Int32} {d : Nat} {Q : xO → Prop} (x1 : Int32) (x2 : Int32) (x3 : Int32) (x4 : Int32) (x5 : Int32) (x6 : Int32) (x7 : Int32) (x8 : Int32) (x9 : Int32) (x10 : Int32) (x11 : Int32) (x12 : Int32) (z13 : Option Value) (s0 : Int32) (I : xI) (J : xJ) {t : (Int32 × Int32 × Int32 × Int32 × Int32 × Int32 × Int32 × Int32 × Int32 × Int32 × (Option Value) × (Option Value) × (Option Value) × xI × xJ) ⊕ (Int32 × xI × xJ)} (h : f_X11_run_20 x1 x2 x3 x4 x5 x6 x7 x8 x9 x10 x11 x12 z13 s0 I J = some t) (hC : (c_X11_run_10 L xs d Q) t) : Rn L xs (d + 18) 157 136 [some (.ref 0), some (.int x1), some (.int x2), some (.int x3), some (.int x4), some (.int x5), some (.int x6), some (.int x7), some (.int x8), some (.int x9), some (.int x10), some (.int x11), some (.int x12), z13] [.int s0] 94 (I, J, xrf) Q := by
  unfold f_X11_run_20 at h
  refine Rn.fi 3 (c := 0 ≤ s0) (p1 := 146) (l1 := [some (.ref 0), some (.int x1), some (.int x2), some (.int x3), some (.int x4), some (.int x5), some (.int x6), some (.int x7), some (.int x8), some (.int x9), some (.int x10), some (.int x11), some (.int x12), some (.int s0)]) (s1 := []) (n1 := 94) (M1 := (I, J, xrf)) (p2 := 143) (l2 := [some (.ref 0), some (.int x1), some (.int x2), some (.int x3), some (.int x4), some (.int x5), some (.int x6), some (.int x7), some (.int x8), some (.int x9), some (.int x10), some (.int x11), some (.int x12), some (.int s0)]) (s2 := []) (n2 := 94) (M2 := (I, J, xrf)) (fun f => rfl) (fun hc => ?_) (fun hc => ?_)
  · rw [if_pos hc] at h
    exact p_X11_run_22 x1 x2 x3 x4 x5 x6 x7 x8 x9 x10 x11 x12 s0 I J h hC
  · rw [if_neg hc] at h
    obtain ⟨t0, h0, rfl⟩ := Option.map_eq_some_iff.mp h
    exact p_X11_run_21 x1 x2 x3 x4 x5 x6 x7 x8 x9 x10 x11 x12 s0 I J h0 hC
theorem p_X11_run_19 {L : Nat} {xs : Nat → Int32} {d : Nat} {Q : xO → Prop} (x1 : Int32) (x2 : Int32) (x3 : Int32) (x4 : Int32) (x5 : Int32) (x6 : Int32) (x7 : Int32) (x8 : Int32) (x9 : Int32) (x10 : Int32) (x11 : Int32) (x12 : Int32) (z13 : Option Value) (I : xI) (J : xJ) {t : (Int32 × Int32 × Int32 × Int32 × Int32 × Int32 × Int32 × Int32 × Int32 × Int32 × (Option Value) × (Option Value) × (Option Value) × xI × xJ) ⊕ (Int32 × xI × xJ)} (h : f_X11_run_19 x1 x2 x3 x4 x5 x6 x7 x8 x9 x10 x11 x12 z13 I J = some t) (hC : (c_X11_run_10 L xs d Q) t) : Rn L xs (d + 18) 157 125 [some (.ref 0), some (.int x1), some (.int x2), some (.int x3), some (.int x4), some (.int x5), some (.int x6), some (.int x7), some (.int x8), some (.int x9), some (.int x10), some (.int x11), some (.int x12), z13] [] 94 (I, J, xrf) Q := by
  unfold f_X11_run_19 at h
  refine Rn.go 4 (j' := 157) (pc' := 133) (ls' := [some (.ref 0), some (.int x1), some (.int x2), some (.int x3), some (.int x4), some (.int x5), some (.int x6), some (.int x7), some (.int x8), some (.int x9), some (.int x10), some (.int x11), some (.int x12), z13]) (st' := [.int x11, .int x5, .ref 1]) (n' := 94) (M' := (I, J, xrf)) (fun f => rfl) ?_
  obtain ⟨o, ho, h⟩ := Option.bind_eq_some_iff.mp h
  refine Rn.call (d1 := d + 17) (j1 := 57) (ls1 := [some (.ref 1), some (.int x5), some (.int x11)]) (rest := []) (fun f => rfl) ?_
  refine p_X5_targetOf (d := d + 16) x5 x11 I J (t := o) ho ?_
  exact p_X11_run_20 x1 x2 x3 x4 x5 x6 x7 x8 x9 x10 x11 x12 z13 o.1 o.2.1 o.2.2 h hC
theorem p_X11_run_18 {L : Nat} {xs : Nat → Int32} {d : Nat} {Q : xO → Prop} (x1 : Int32) (x2 : Int32) (x3 : Int32) (x4 : Int32) (x5 : Int32) (x6 : Int32) (x7 : Int32) (x8 : Int32) (x9 : Int32) (x10 : Int32) (x11 : Int32) (x12 : Int32) (z13 : Option Value) (s0 : Int32) (s1 : Int32) (I : xI) (J : xJ) {t : (Int32 × Int32 × Int32 × Int32 × Int32 × Int32 × Int32 × Int32 × Int32 × Int32 × (Option Value) × (Option Value) × (Option Value) × xI × xJ) ⊕ (Int32 × xI × xJ)} (h : f_X11_run_18 x1 x2 x3 x4 x5 x6 x7 x8 x9 x10 x11 x12 z13 s0 s1 I J = some t) (hC : (c_X11_run_10 L xs d Q) t) : Rn L xs (d + 18) 157 122 [some (.ref 0), some (.int x1), some (.int x2), some (.int x3), some (.int x4), some (.int x5), some (.int x6), some (.int x7), some (.int x8), some (.int x9), some (.int x10), some (.int x11), some (.int x12), z13] [.int s1, .int s0] 94 (I, J, xrf) Q := by
  unfold f_X11_run_18 at h
  refine Rn.go 2 (j' := 157) (pc' := 125) (ls' := [some (.ref 0), some (.int x1), some (.int x2), some (.int x3), some (.int x4), some (.int x5), some (.int x6), some (.int x7), some (.int ((s0 + s1))), some (.int x9), some (.int x10), some (.int x11), some (.int x12), z13]) (st' := []) (n' := 94) (M' := (I, J, xrf)) (fun f => rfl) ?_
  exact p_X11_run_19 x1 x2 x3 x4 x5 x6 x7 ((s0 + s1)) x9 x10 x11 x12 z13 I J h hC
theorem p_X11_run_17 {L : Nat} {xs : Nat → Int32} {d : Nat} {Q : xO → Prop} (x1 : Int32) (x2 : Int32) (x3 : Int32) (x4 : Int32) (x5 : Int32) (x6 : Int32) (x7 : Int32) (x8 : Int32) (x9 : Int32) (x10 : Int32) (x11 : Int32) (x12 : Int32) (z13 : Option Value) (s0 : Int32) (I : xI) (J : xJ) {t : (Int32 × Int32 × Int32 × Int32 × Int32 × Int32 × Int32 × Int32 × Int32 × Int32 × (Option Value) × (Option Value) × (Option Value) × xI × xJ) ⊕ (Int32 × xI × xJ)} (h : f_X11_run_17 x1 x2 x3 x4 x5 x6 x7 x8 x9 x10 x11 x12 z13 s0 I J = some t) (hC : (c_X11_run_10 L xs d Q) t) : Rn L xs (d + 18) 157 121 [some (.ref 0), some (.int x1), some (.int x2), some (.int x3), some (.int x4), some (.int x5), some (.int x6), some (.int x7), some (.int x8), some (.int x9), some (.int x10), some (.int x11), some (.int x12), z13] [.int s0] 94 (I, J, xrf) Q := by
  unfold f_X11_run_17 at h
  refine Rn.go 1 (j' := 157) (pc' := 122) (ls' := [some (.ref 0), some (.int x1), some (.int x2), some (.int x3), some (.int x4), some (.int x5), some (.int x6), some (.int x7), some (.int x8), some (.int x9), some (.int x10), some (.int x11), some (.int x12), z13]) (st' := [.int 0, .int s0]) (n' := 94) (M' := (I, J, xrf)) (fun f => rfl) ?_
  exact p_X11_run_18 x1 x2 x3 x4 x5 x6 x7 x8 x9 x10 x11 x12 z13 s0 0 I J h hC
theorem p_X11_run_16 {L : Nat} {xs : Nat → Int32} {d : Nat} {Q : xO → Prop} (x1 : Int32) (x2 : Int32) (x3 : Int32) (x4 : Int32) (x5 : Int32) (x6 : Int32) (x7 : Int32) (x8 : Int32) (x9 : Int32) (x10 : Int32) (x11 : Int32) (x12 : Int32) (z13 : Option Value) (s0 : Int32) (I : xI) (J : xJ) {t : (Int32 × Int32 × Int32 × Int32 × Int32 × Int32 × Int32 × Int32 × Int32 × Int32 × (Option Value) × (Option Value) × (Option Value) × xI × xJ) ⊕ (Int32 × xI × xJ)} (h : f_X11_run_16 x1 x2 x3 x4 x5 x6 x7 x8 x9 x10 x11 x12 z13 s0 I J = some t) (hC : (c_X11_run_10 L xs d Q) t) : Rn L xs (d + 18) 157 117 [some (.ref 0), some (.int x1), some (.int x2), some (.int x3), some (.int x4), some (.int x5), some (.int x6), some (.int x7), some (.int x8), some (.int x9), some (.int x10), some (.int x11), some (.int x12), z13] [.int s0] 94 (I, J, xrf) Q := by
  unfold f_X11_run_16 at h
  refine Rn.go 2 (j' := 157) (pc' := 122) (ls' := [some (.ref 0), some (.int x1), some (.int x2), some (.int x3), some (.int x4), some (.int x5), some (.int x6), some (.int x7), some (.int x8), some (.int x9), some (.int x10), some (.int x11), some (.int x12), z13]) (st' := [.int 1, .int s0]) (n' := 94) (M' := (I, J, xrf)) (fun f => rfl) ?_
  exact p_X11_run_18 x1 x2 x3 x4 x5 x6 x7 x8 x9 x10 x11 x12 z13 s0 1 I J h hC
theorem p_X11_run_15 {L : Nat} {xs : Nat → Int32} {d : Nat} {Q : xO → Prop} (x1 : Int32) (x2 : Int32) (x3 : Int32) (x4 : Int32) (x5 : Int32) (x6 : Int32) (x7 : Int32) (x8 : Int32) (x9 : Int32) (x10 : Int32) (x11 : Int32) (x12 : Int32) (z13 : Option Value) (s0 : Int32) (s1 : Int32) (I : xI) (J : xJ) {t : (Int32 × Int32 × Int32 × Int32 × Int32 × Int32 × Int32 × Int32 × Int32 × Int32 × (Option Value) × (Option Value) × (Option Value) × xI × xJ) ⊕ (Int32 × xI × xJ)} (h : f_X11_run_15 x1 x2 x3 x4 x5 x6 x7 x8 x9 x10 x11 x12 z13 s0 s1 I J = some t) (hC : (c_X11_run_10 L xs d Q) t) : Rn L xs (d + 18) 157 112 [some (.ref 0), some (.int x1), some (.int x2), some (.int x3), some (.int x4), some (.int x5), some (.int x6), some (.int x7), some (.int x8), some (.int x9), some (.int x10), some (.int x11), some (.int x12), z13] [.int s1, .int s0] 94 (I, J, xrf) Q := by
  unfold f_X11_run_15 at h
  refine Rn.fi 2 (c := s1 = x12) (p1 := 117) (l1 := [some (.ref 0), some (.int x1), some (.int x2), some (.int x3), some (.int x4), some (.int x5), some (.int x6), some (.int x7), some (.int x8), some (.int x9), some (.int x10), some (.int x11), some (.int x12), z13]) (s1 := [.int s0]) (n1 := 94) (M1 := (I, J, xrf)) (p2 := 121) (l2 := [some (.ref 0), some (.int x1), some (.int x2), some (.int x3), some (.int x4), some (.int x5), some (.int x6), some (.int x7), some (.int x8), some (.int x9), some (.int x10), some (.int x11), some (.int x12), z13]) (s2 := [.int s0]) (n2 := 94) (M2 := (I, J, xrf)) (fun f => rfl) (fun hc => ?_) (fun hc => ?_)
  · rw [if_pos hc] at h
    exact p_X11_run_16 x1 x2 x3 x4 x5 x6 x7 x8 x9 x10 x11 x12 z13 s0 I J h hC
  · rw [if_neg hc] at h
    exact p_X11_run_17 x1 x2 x3 x4 x5 x6 x7 x8 x9 x10 x11 x12 z13 s0 I J h hC
theorem p_X11_run_14 {L : Nat} {xs : Nat → Int32} {d : Nat} {Q : xO → Prop} (x1 : Int32) (x2 : Int32) (x3 : Int32) (x4 : Int32) (x5 : Int32) (x6 : Int32) (x7 : Int32) (x8 : Int32) (x9 : Int32) (x10 : Int32) (x11 : Int32) (x12 : Int32) (z13 : Option Value) (I : xI) (J : xJ) {t : (Int32 × Int32 × Int32 × Int32 × Int32 × Int32 × Int32 × Int32 × Int32 × Int32 × (Option Value) × (Option Value) × (Option Value) × xI × xJ) ⊕ (Int32 × xI × xJ)} (h : f_X11_run_14 x1 x2 x3 x4 x5 x6 x7 x8 x9 x10 x11 x12 z13 I J = some t) (hC : (c_X11_run_10 L xs d Q) t) : Rn L xs (d + 18) 157 96 [some (.ref 0), some (.int x1), some (.int x2), some (.int x3), some (.int x4), some (.int x5), some (.int x6), some (.int x7), some (.int x8), some (.int x9), some (.int x10), some (.int x11), some (.int x12), z13] [] 94 (I, J, xrf) Q := by
  unfold f_X11_run_14 at h
  refine Rn.go 6 (j' := 157) (pc' := 109) (ls' := [some (.ref 0), some (.int x1), some (.int x2), some (.int x3), some (.int x4), some (.int x5), some (.int x6), some (.int x7), some (.int x8), some (.int ((x9 + 1))), some (.int x10), some (.int x11), some (.int x12), z13]) (st' := [.int x11, .int x6, .ref 36, .int x8]) (n' := 94) (M' := (I, J, xrf)) (fun f => rfl) ?_
  obtain ⟨o, ho, h⟩ := Option.bind_eq_some_iff.mp h
  refine Rn.call (d1 := d + 17) (j1 := 20) (ls1 := [some (.ref 36), some (.int x6), some (.int x11), none, none]) (rest := [.int x8]) (fun f => rfl) ?_
  refine p_X1_smallAnswer (d := d + 15) x6 x11 I J (t := o) ho ?_
  exact p_X11_run_15 x1 x2 x3 x4 x5 x6 x7 x8 ((x9 + 1)) x10 x11 x12 z13 x8 o.1 o.2.1 o.2.2 h hC
theorem p_X11_run_13 {L : Nat} {xs : Nat → Int32} {d : Nat} {Q : xO → Prop} (x1 : Int32) (x2 : Int32) (x3 : Int32) (x4 : Int32) (x5 : Int32) (x6 : Int32) (x7 : Int32) (x8 : Int32) (x9 : Int32) (x10 : Int32) (x11 : Int32) (z12 : Option Value) (z13 : Option Value) (s0 : Int32) (I : xI) (J : xJ) {t : (Int32 × Int32 × Int32 × Int32 × Int32 × Int32 × Int32 × Int32 × Int32 × Int32 × (Option Value) × (Option Value) × (Option Value) × xI × xJ) ⊕ (Int32 × xI × xJ)} (h : f_X11_run_13 x1 x2 x3 x4 x5 x6 x7 x8 x9 x10 x11 z12 z13 s0 I J = some t) (hC : (c_X11_run_10 L xs d Q) t) : Rn L xs (d + 18) 157 87 [some (.ref 0), some (.int x1), some (.int x2), some (.int x3), some (.int x4), some (.int x5), some (.int x6), some (.int x7), some (.int x8), some (.int x9), some (.int x10), some (.int x11), z12, z13] [.int s0] 94 (I, J, xrf) Q := by
  unfold f_X11_run_13 at h
  refine Rn.fi 4 (c := s0 = (-2)) (p1 := 125) (l1 := [some (.ref 0), some (.int x1), some (.int x2), some (.int x3), some (.int x4), some (.int x5), some (.int x6), some (.int x7), some (.int x8), some (.int x9), some (.int x10), some (.int x11), some (.int s0), z13]) (s1 := []) (n1 := 94) (M1 := (I, J, xrf)) (p2 := 96) (l2 := [some (.ref 0), some (.int x1), some (.int x2), some (.int x3), some (.int x4), some (.int x5), some (.int x6), some (.int x7), some (.int x8), some (.int x9), some (.int x10), some (.int x11), some (.int s0), z13]) (s2 := []) (n2 := 94) (M2 := (I, J, xrf)) (fun f => rfl) (fun hc => ?_) (fun hc => ?_)
  · rw [if_pos hc] at h
    exact p_X11_run_19 x1 x2 x3 x4 x5 x6 x7 x8 x9 x10 x11 s0 z13 I J h hC
  · rw [if_neg hc] at h
    exact p_X11_run_14 x1 x2 x3 x4 x5 x6 x7 x8 x9 x10 x11 s0 z13 I J h hC
theorem p_X11_run_12 {L : Nat} {xs : Nat → Int32} {d : Nat} {Q : xO → Prop} (x1 : Int32) (x2 : Int32) (x3 : Int32) (x4 : Int32) (x5 : Int32) (x6 : Int32) (x7 : Int32) (x8 : Int32) (x9 : Int32) (x10 : Int32) (z11 : Option Value) (z12 : Option Value) (z13 : Option Value) (s0 : Int32) (I : xI) (J : xJ) {t : (Int32 × Int32 × Int32 × Int32 × Int32 × Int32 × Int32 × Int32 × Int32 × Int32 × (Option Value) × (Option Value) × (Option Value) × xI × xJ) ⊕ (Int32 × xI × xJ)} (h : f_X11_run_12 x1 x2 x3 x4 x5 x6 x7 x8 x9 x10 z11 z12 z13 s0 I J = some t) (hC : (c_X11_run_10 L xs d Q) t) : Rn L xs (d + 18) 157 74 [some (.ref 0), some (.int x1), some (.int x2), some (.int x3), some (.int x4), some (.int x5), some (.int x6), some (.int x7), some (.int x8), some (.int x9), some (.int x10), z11, z12, z13] [.int s0] 94 (I, J, xrf) Q := by
  unfold f_X11_run_12 at h
  refine Rn.go 5 (j' := 157) (pc' := 84) (ls' := [some (.ref 0), some (.int x1), some (.int x2), some (.int x3), some (.int x4), some (.int x5), some (.int x6), some (.int x7), some (.int x8), some (.int x9), some (.int x10), some (.int s0), z12, z13]) (st' := [.int s0, .int x5, .ref 1]) (n' := 94) (M' := (I, J, xrf)) (fun f => rfl) ?_
  obtain ⟨o, ho, h⟩ := Option.bind_eq_some_iff.mp h
  refine Rn.call (d1 := d + 17) (j1 := 58) (ls1 := [some (.ref 1), some (.int x5), some (.int s0)]) (rest := []) (fun f => rfl) ?_
  refine p_X5_answerOf (d := d + 16) x5 s0 I J (t := o) ho ?_
  exact p_X11_run_13 x1 x2 x3 x4 x5 x6 x7 x8 x9 x10 s0 z12 z13 o.1 o.2.1 o.2.2 h hC
theorem p_X11_run_11 {L : Nat} {xs : Nat → Int32} {d : Nat} {Q : xO → Prop} (x1 : Int32) (x2 : Int32) (x3 : Int32) (x4 : Int32) (x5 : Int32) (x6 : Int32) (x7 : Int32) (x8 : Int32) (x9 : Int32) (x10 : Int32) (z11 : Option Value) (z12 : Option Value) (z13 : Option Value) (I : xI) (J : xJ) {t : (Int32 × Int32 × Int32 × Int32 × Int32 × Int32 × Int32 × Int32 × Int32 × Int32 × (Option Value) × (Option Value) × (Option Value) × xI × xJ) ⊕ (Int32 × xI × xJ)} (h : f_X11_run_11 x1 x2 x3 x4 x5 x6 x7 x8 x9 x10 z11 z12 z13 I J = some t) (hC : (c_X11_run_10 L xs d Q) t) : Rn L xs (d + 18) 157 67 [some (.ref 0), some (.int x1), some (.int x2), some (.int x3), some (.int x4), some (.int x5), some (.int x6), some (.int x7), some (.int x8), some (.int x9), some (.int x10), z11, z12, z13] [] 94 (I, J, xrf) Q := by
  unfold f_X11_run_11 at h
  refine Rn.go 3 (j' := 157) (pc' := 71) (ls' := [some (.ref 0), some (.int x1), some (.int x2), some (.int x3), some (.int x4), some (.int x5), some (.int x6), some (.int x7), some (.int x8), some (.int x9), some (.int x10), z11, z12, z13]) (st' := [.int x10, .int x3, .int x2]) (n' := 94) (M' := (I, J, xrf)) (fun f => rfl) ?_
  obtain ⟨o, ho, h⟩ := Option.bind_eq_some_iff.mp h
  refine Rn.call (d1 := d + 17) (j1 := 56) (ls1 := [some (.int x2), some (.int x3), some (.int x10)]) (rest := []) (fun f => rfl) ?_
  refine p_X5_digitOf (d := d + 16) x2 x3 x10 I J (t := o) ho ?_
  exact p_X11_run_12 x1 x2 x3 x4 x5 x6 x7 x8 x9 x10 z11 z12 z13 o.1 o.2.1 o.2.2 h hC
theorem q_X11_run_10 {L : Nat} {xs : Nat → Int32} {d : Nat} {Q : xO → Prop} (x1 : Int32) (x2 : Int32) (x3 : Int32) (x4 : Int32) (x5 : Int32) (x6 : Int32) (x7 : Int32) (x8 : Int32) (x9 : Int32) (x10 : Int32) (z11 : Option Value) (z12 : Option Value) (z13 : Option Value) (I : xI) (J : xJ) {t : (Int32 × Int32 × Int32 × Int32 × Int32 × Int32 × Int32 × Int32 × Int32 × Int32 × (Option Value) × (Option Value) × (Option Value) × xI × xJ) ⊕ (Int32 × xI × xJ)} (h : b_X11_run_10 x1 x2 x3 x4 x5 x6 x7 x8 x9 x10 z11 z12 z13 I J = some t) (hC : (c_X11_run_10 L xs d Q) t) : Rn L xs (d + 18) 157 61 [some (.ref 0), some (.int x1), some (.int x2), some (.int x3), some (.int x4), some (.int x5), some (.int x6), some (.int x7), some (.int x8), some (.int x9), some (.int x10), z11, z12, z13] [] 94 (I, J, xrf) Q := by
  unfold b_X11_run_10 at h
  refine Rn.fi 3 (c := x3 ≤ x10) (p1 := 172) (l1 := [some (.ref 0), some (.int x1), some (.int x2), some (.int x3), some (.int x4), some (.int x5), some (.int x6), some (.int x7), some (.int x8), some (.int x9), some (.int x10), z11, z12, z13]) (s1 := []) (n1 := 94) (M1 := (I, J, xrf)) (p2 := 67) (l2 := [some (.ref 0), some (.int x1), some (.int x2), some (.int x3), some (.int x4), some (.int x5), some (.int x6), some (.int x7), some (.int x8), some (.int x9), some (.int x10), z11, z12, z13]) (s2 := []) (n2 := 94) (M2 := (I, J, xrf)) (fun f => rfl) (fun hc => ?_) (fun hc => ?_)
  · rw [if_pos hc] at h
    obtain ⟨t0, h0, rfl⟩ := Option.map_eq_some_iff.mp h
    exact p_X11_run_24 x1 x2 x3 x4 x5 x6 x7 x8 x9 x10 z11 z12 z13 I J h0 hC
  · rw [if_neg hc] at h
    exact p_X11_run_11 x1 x2 x3 x4 x5 x6 x7 x8 x9 x10 z11 z12 z13 I J h hC
theorem p_X11_run_10 {L : Nat} {xs : Nat → Int32} {d : Nat} {Q : xO → Prop} (x1 : Int32) (x2 : Int32) (x3 : Int32) (x4 : Int32) (x5 : Int32) (x6 : Int32) (x7 : Int32) (x8 : Int32) (x9 : Int32) (x10 : Int32) (z11 : Option Value) (z12 : Option Value) (z13 : Option Value) (I : xI) (J : xJ) {t : Int32 × xI × xJ} (h : f_X11_run_10 x1 x2 x3 x4 x5 x6 x7 x8 x9 x10 z11 z12 z13 I J = some t) (hC : (c_X11_run Q) t) : Rn L xs (d + 18) 157 61 [some (.ref 0), some (.int x1), some (.int x2), some (.int x3), some (.int x4), some (.int x5), some (.int x6), some (.int x7), some (.int x8), some (.int x9), some (.int x10), z11, z12, z13] [] 94 (I, J, xrf) Q := by
  unfold f_X11_run_10 at h
  exact xloop_some (P := fun s : Int32 × Int32 × Int32 × Int32 × Int32 × Int32 × Int32 × Int32 × Int32 × Int32 × (Option Value) × (Option Value) × (Option Value) × xI × xJ => Rn L xs (d + 18) 157 61 [some (.ref 0), some (.int s.1), some (.int s.2.1), some (.int s.2.2.1), some (.int s.2.2.2.1), some (.int s.2.2.2.2.1), some (.int s.2.2.2.2.2.1), some (.int s.2.2.2.2.2.2.1), some (.int s.2.2.2.2.2.2.2.1), some (.int s.2.2.2.2.2.2.2.2.1), some (.int s.2.2.2.2.2.2.2.2.2.1), s.2.2.2.2.2.2.2.2.2.2.1, s.2.2.2.2.2.2.2.2.2.2.2.1, s.2.2.2.2.2.2.2.2.2.2.2.2.1] [] 94 (s.2.2.2.2.2.2.2.2.2.2.2.2.2.1, s.2.2.2.2.2.2.2.2.2.2.2.2.2.2, xrf) Q) t (fun s ⟨s', hb, hp⟩ => q_X11_run_10 s.1 s.2.1 s.2.2.1 s.2.2.2.1 s.2.2.2.2.1 s.2.2.2.2.2.1 s.2.2.2.2.2.2.1 s.2.2.2.2.2.2.2.1 s.2.2.2.2.2.2.2.2.1 s.2.2.2.2.2.2.2.2.2.1 s.2.2.2.2.2.2.2.2.2.2.1 s.2.2.2.2.2.2.2.2.2.2.2.1 s.2.2.2.2.2.2.2.2.2.2.2.2.1 s.2.2.2.2.2.2.2.2.2.2.2.2.2.1 s.2.2.2.2.2.2.2.2.2.2.2.2.2.2 hb hp) (fun s hb => q_X11_run_10 s.1 s.2.1 s.2.2.1 s.2.2.2.1 s.2.2.2.2.1 s.2.2.2.2.2.1 s.2.2.2.2.2.2.1 s.2.2.2.2.2.2.2.1 s.2.2.2.2.2.2.2.2.1 s.2.2.2.2.2.2.2.2.2.1 s.2.2.2.2.2.2.2.2.2.2.1 s.2.2.2.2.2.2.2.2.2.2.2.1 s.2.2.2.2.2.2.2.2.2.2.2.2.1 s.2.2.2.2.2.2.2.2.2.2.2.2.2.1 s.2.2.2.2.2.2.2.2.2.2.2.2.2.2 hb hC) _ _ h
theorem p_X11_run_9 {L : Nat} {xs : Nat → Int32} {d : Nat} {Q : xO → Prop} (x1 : Int32) (x2 : Int32) (x3 : Int32) (x4 : Int32) (x5 : Int32) (s0 : Int32) (I : xI) (J : xJ) {t : Int32 × xI × xJ} (h : f_X11_run_9 x1 x2 x3 x4 x5 s0 I J = some t) (hC : (c_X11_run Q) t) : Rn L xs (d + 18) 157 47 [some (.ref 0), some (.int x1), some (.int x2), some (.int x3), some (.int x4), some (.int x5), none, none, none, none, none, none, none, none] [.int s0] 94 (I, J, xrf) Q := by
  unfold f_X11_run_9 at h
  refine Rn.go 9 (j' := 157) (pc' := 61) (ls' := [some (.ref 0), some (.int x1), some (.int x2), some (.int x3), some (.int x4), some (.int x5), some (.int s0), some (.int 0), some (.int 0), some (.int 0), some (.int 0), none, none, none]) (st' := []) (n' := 94) (M' := (I, J, xrf)) (fun f => rfl) ?_
  exact p_X11_run_10 x1 x2 x3 x4 x5 s0 0 0 0 0 none none none I J h hC
theorem p_X11_run_8 {L : Nat} {xs : Nat → Int32} {d : Nat} {Q : xO → Prop} (x1 : Int32) (x2 : Int32) (x3 : Int32) (x4 : Int32) (x5 : Int32) (I : xI) (J : xJ) {t : Int32 × xI × xJ} (h : f_X11_run_8 x1 x2 x3 x4 x5 I J = some t) (hC : (c_X11_run Q) t) : Rn L xs (d + 18) 157 43 [some (.ref 0), some (.int x1), some (.int x2), some (.int x3), some (.int x4), some (.int x5), none, none, none, none, none, none, none, none] [.ref 36] 94 (I, J, xrf) Q := by
  unfold f_X11_run_8 at h
  refine Rn.go 1 (j' := 157) (pc' := 44) (ls' := [some (.ref 0), some (.int x1), some (.int x2), some (.int x3), some (.int x4), some (.int x5), none, none, none, none, none, none, none, none]) (st' := [.int x1, .ref 36]) (n' := 94) (M' := (I, J, xrf)) (fun f => rfl) ?_
  obtain ⟨o, ho, h⟩ := Option.bind_eq_some_iff.mp h
  refine Rn.call (d1 := d + 17) (j1 := 21) (ls1 := [some (.ref 36), some (.int x1)]) (rest := []) (fun f => rfl) ?_
  refine p_X1_homeOf (d := d + 15) x1 I J (t := o) ho ?_
  exact p_X11_run_9 x1 x2 x3 x4 x5 o.1 o.2.1 o.2.2 h hC
theorem p_X11_run_7 {L : Nat} {xs : Nat → Int32} {d : Nat} {Q : xO → Prop} (x1 : Int32) (x2 : Int32) (x3 : Int32) (x4 : Int32) (I : xI) (J : xJ) {t : Int32 × xI × xJ} (h : f_X11_run_7 x1 x2 x3 x4 I J = some t) (hC : (c_X11_run Q) t) : Rn L xs (d + 18) 157 36 [some (.ref 0), some (.int x1), some (.int x2), some (.int x3), some (.int x4), none, none, none, none, none, none, none, none, none] [] 94 (I, J, xrf) Q := by
  unfold f_X11_run_7 at h
  refine Rn.go 3 (j' := 157) (pc' := 40) (ls' := [some (.ref 0), some (.int x1), some (.int x2), some (.int x3), some (.int x4), some (.int x1), none, none, none, none, none, none, none, none]) (st' := [.ref 0]) (n' := 94) (M' := (I, J, xrf)) (fun f => rfl) ?_
  obtain ⟨o, ho, h⟩ := Option.bind_eq_some_iff.mp h
  refine Rn.call (d1 := d + 17) (j1 := 178) (ls1 := [some (.ref 0)]) (rest := []) (fun f => rfl) ?_
  refine p_X11_fewestNow (d := d + 0) I J (t := o) ho ?_
  exact p_X11_run_8 x1 x2 x3 x4 x1 o.2.1 o.2.2 h hC
theorem p_X11_run_5 {L : Nat} {xs : Nat → Int32} {d : Nat} {Q : xO → Prop} (x1 : Int32) (x2 : Int32) (x3 : Int32) (x4 : Int32) (I : xI) (J : xJ) {t : Int32 × xI × xJ} (h : f_X11_run_5 x1 x2 x3 x4 I J = some t) (hC : (c_X11_run Q) t) : Rn L xs (d + 18) 157 28 [some (.ref 0), some (.int x1), some (.int x2), some (.int x3), some (.int x4), none, none, none, none, none, none, none, none, none] [] 94 (I, J, xrf) Q := by
  unfold f_X11_run_5 at h
  refine Rn.fi 3 (c := x4 ≤ 4) (p1 := 36) (l1 := [some (.ref 0), some (.int x1), some (.int x2), some (.int x3), some (.int x4), none, none, none, none, none, none, none, none, none]) (s1 := []) (n1 := 94) (M1 := (I, J, xrf)) (p2 := 34) (l2 := [some (.ref 0), some (.int x1), some (.int x2), some (.int x3), some (.int x4), none, none, none, none, none, none, none, none, none]) (s2 := []) (n2 := 94) (M2 := (I, J, xrf)) (fun f => rfl) (fun hc => ?_) (fun hc => ?_)
  · rw [if_pos hc] at h
    exact p_X11_run_7 x1 x2 x3 x4 I J h hC
  · rw [if_neg hc] at h
    exact p_X11_run_6 x1 x2 x3 x4 I J h hC
theorem p_X11_run_4 {L : Nat} {xs : Nat → Int32} {d : Nat} {Q : xO → Prop} (x1 : Int32) (x2 : Int32) (x3 : Int32) (x4 : Int32) (I : xI) (J : xJ) {t : Int32 × xI × xJ} (h : f_X11_run_4 x1 x2 x3 x4 I J = some t) (hC : (c_X11_run Q) t) : Rn L xs (d + 18) 157 23 [some (.ref 0), some (.int x1), some (.int x2), some (.int x3), some (.int x4), none, none, none, none, none, none, none, none, none] [] 94 (I, J, xrf) Q := by
  unfold f_X11_run_4 at h
  refine Rn.fi 2 (c := x4 < 0) (p1 := 34) (l1 := [some (.ref 0), some (.int x1), some (.int x2), some (.int x3), some (.int x4), none, none, none, none, none, none, none, none, none]) (s1 := []) (n1 := 94) (M1 := (I, J, xrf)) (p2 := 28) (l2 := [some (.ref 0), some (.int x1), some (.int x2), some (.int x3), some (.int x4), none, none, none, none, none, none, none, none, none]) (s2 := []) (n2 := 94) (M2 := (I, J, xrf)) (fun f => rfl) (fun hc => ?_) (fun hc => ?_)
  · rw [if_pos hc] at h
    exact p_X11_run_6 x1 x2 x3 x4 I J h hC
  · rw [if_neg hc] at h
    exact p_X11_run_5 x1 x2 x3 x4 I J h hC
theorem p_X11_run_3 {L : Nat} {xs : Nat → Int32} {d : Nat} {Q : xO → Prop} (x1 : Int32) (x2 : Int32) (x3 : Int32) (x4 : Int32) (s0 : Int32) (I : xI) (J : xJ) {t : Int32 × xI × xJ} (h : f_X11_run_3 x1 x2 x3 x4 s0 I J = some t) (hC : (c_X11_run Q) t) : Rn L xs (d + 18) 157 20 [some (.ref 0), some (.int x1), some (.int x2), some (.int x3), some (.int x4), none, none, none, none, none, none, none, none, none] [.int s0] 94 (I, J, xrf) Q := by
  unfold f_X11_run_3 at h
  refine Rn.fi 1 (c := s0 = 0) (p1 := 34) (l1 := [some (.ref 0), some (.int x1), some (.int x2), some (.int x3), some (.int x4), none, none, none, none, none, none, none, none, none]) (s1 := []) (n1 := 94) (M1 := (I, J, xrf)) (p2 := 23) (l2 := [some (.ref 0), some (.int x1), some (.int x2), some (.int x3), some (.int x4), none, none, none, none, none, none, none, none, none]) (s2 := []) (n2 := 94) (M2 := (I, J, xrf)) (fun f => rfl) (fun hc => ?_) (fun hc => ?_)
  · rw [if_pos hc] at h
    exact p_X11_run_6 x1 x2 x3 x4 I J h hC
  · rw [if_neg hc] at h
    exact p_X11_run_4 x1 x2 x3 x4 I J h hC
theorem p_X11_run_2 {L : Nat} {xs : Nat → Int32} {d : Nat} {Q : xO → Prop} (x1 : Int32) (x2 : Int32) (x3 : Int32) (x4 : Int32) (I : xI) (J : xJ) {t : Int32 × xI × xJ} (h : f_X11_run_2 x1 x2 x3 x4 I J = some t) (hC : (c_X11_run Q) t) : Rn L xs (d + 18) 157 11 [some (.ref 0), some (.int x1), some (.int x2), some (.int x3), some (.int x4), none, none, none, none, none, none, none, none, none] [] 94 (I, J, xrf) Q := by
  unfold f_X11_run_2 at h
  refine Rn.go 4 (j' := 157) (pc' := 17) (ls' := [some (.ref 0), some (.int x1), some (.int x2), some (.int x3), some (.int x4), none, none, none, none, none, none, none, none, none]) (st' := [.int x3, .int x2, .ref 1]) (n' := 94) (M' := (I, J, xrf)) (fun f => rfl) ?_
  obtain ⟨o, ho, h⟩ := Option.bind_eq_some_iff.mp h
  refine Rn.call (d1 := d + 17) (j1 := 55) (ls1 := [some (.ref 1), some (.int x2), some (.int x3), none]) (rest := []) (fun f => rfl) ?_
  refine p_X5_hasWord (d := d + 15) x2 x3 I J (t := o) ho ?_
  exact p_X11_run_3 x1 x2 x3 x4 o.1 o.2.1 o.2.2 h hC
theorem p_X11_run_1 {L : Nat} {xs : Nat → Int32} {d : Nat} {Q : xO → Prop} (x1 : Int32) (x2 : Int32) (x3 : Int32) (x4 : Int32) (s0 : Int32) (I : xI) (J : xJ) {t : Int32 × xI × xJ} (h : f_X11_run_1 x1 x2 x3 x4 s0 I J = some t) (hC : (c_X11_run Q) t) : Rn L xs (d + 18) 157 8 [some (.ref 0), some (.int x1), some (.int x2), some (.int x3), some (.int x4), none, none, none, none, none, none, none, none, none] [.int s0] 94 (I, J, xrf) Q := by
  unfold f_X11_run_1 at h
  refine Rn.fi 1 (c := s0 = 0) (p1 := 34) (l1 := [some (.ref 0), some (.int x1), some (.int x2), some (.int x3), some (.int x4), none, none, none, none, none, none, none, none, none]) (s1 := []) (n1 := 94) (M1 := (I, J, xrf)) (p2 := 11) (l2 := [some (.ref 0), some (.int x1), some (.int x2), some (.int x3), some (.int x4), none, none, none, none, none, none, none, none, none]) (s2 := []) (n2 := 94) (M2 := (I, J, xrf)) (fun f => rfl) (fun hc => ?_) (fun hc => ?_)
  · rw [if_pos hc] at h
    exact p_X11_run_6 x1 x2 x3 x4 I J h hC
  · rw [if_neg hc] at h
    exact p_X11_run_2 x1 x2 x3 x4 I J h hC
theorem p_X11_run_0 {L : Nat} {xs : Nat → Int32} {d : Nat} {Q : xO → Prop} (x1 : Int32) (x2 : Int32) (x3 : Int32) (x4 : Int32) (I : xI) (J : xJ) {t : Int32 × xI × xJ} (h : f_X11_run_0 x1 x2 x3 x4 I J = some t) (hC : (c_X11_run Q) t) : Rn L xs (d + 18) 157 0 [some (.ref 0), some (.int x1), some (.int x2), some (.int x3), some (.int x4), none, none, none, none, none, none, none, none, none] [] 94 (I, J, xrf) Q := by
  unfold f_X11_run_0 at h
  refine Rn.go 3 (j' := 157) (pc' := 5) (ls' := [some (.ref 0), some (.int x1), some (.int x2), some (.int x3), some (.int x4), none, none, none, none, none, none, none, none, none]) (st' := [.int x1, .ref 1]) (n' := 94) (M' := (I, J, xrf)) (fun f => rfl) ?_
  obtain ⟨o, ho, h⟩ := Option.bind_eq_some_iff.mp h
  refine Rn.call (d1 := d + 17) (j1 := 51) (ls1 := [some (.ref 1), some (.int x1)]) (rest := []) (fun f => rfl) ?_
  refine p_X5_hasState (d := d + 16) x1 I J (t := o) ho ?_
  exact p_X11_run_1 x1 x2 x3 x4 o.1 o.2.1 o.2.2 h hC
theorem p_X11_run {L : Nat} {xs : Nat → Int32} {d : Nat} {Q : xO → Prop} (x1 : Int32) (x2 : Int32) (x3 : Int32) (x4 : Int32) (I : xI) (J : xJ) {t : Int32 × xI × xJ} (h : f_X11_run x1 x2 x3 x4 I J = some t) (hC : Q ((some (.int t.1)), 94, (t.2.1, t.2.2, xrf))) : Rn L xs (d + 18) 157 0 [some (.ref 0), some (.int x1), some (.int x2), some (.int x3), some (.int x4), none, none, none, none, none, none, none, none, none] [] 94 (I, J, xrf) Q := p_X11_run_0 x1 x2 x3 x4 I J h hC
/-! X7_blockOf -/
def c_X7_blockOf (Q : xO → Prop) (t : Int32 × xI × xJ) : Prop := Q ((some (.int t.1)), 94, (t.2.1, t.2.2, xrf))
def f_X7_blockOf_4 (x1 : Int32) (x2 : Int32) (x3 : Int32) (s0 : Int32) (I : xI) (J : xJ) : Option (Int32 × xI × xJ) := some (s0, I, J)
def f_X7_blockOf_3 (x1 : Int32) (x2 : Int32) (x3 : Int32) (I : xI) (J : xJ) : Option (Int32 × xI × xJ) := f_X7_blockOf_4 x1 x2 x3 ((-1)) I J
def f_X7_blockOf_2 (x1 : Int32) (x2 : Int32) (x3 : Int32) (I : xI) (J : xJ) : Option (Int32 × xI × xJ) := if x1 < 0 ∨ 203 ≤ x1.toNatClampNeg then none else if x3 < 0 ∨ 6 ≤ x3.toNatClampNeg then none else if (zst1001 x3.toNatClampNeg) = 0 then none else f_X7_blockOf_4 x1 x2 x3 ((((I 44 x1.toNatClampNeg) / (zst1001 x3.toNatClampNeg)) - ((I 44 x1.toNatClampNeg) / (zst1001 x3.toNatClampNeg)) / 10 * 10)) I J
def f_X7_blockOf_1 (x1 : Int32) (x2 : Int32) (x3 : Int32) (I : xI) (J : xJ) : Option (Int32 × xI × xJ) := if 6 ≤ x3 then f_X7_blockOf_3 x1 x2 x3 I J else f_X7_blockOf_2 x1 x2 x3 I J
def f_X7_blockOf_0 (x1 : Int32) (x2 : Int32) (I : xI) (J : xJ) : Option (Int32 × xI × xJ) := if (((I 43 6) - 1) - x2) < 0 then f_X7_blockOf_3 x1 x2 ((((I 43 6) - 1) - x2)) I J else f_X7_blockOf_1 x1 x2 ((((I 43 6) - 1) - x2)) I J
def f_X7_blockOf (x1 : Int32) (x2 : Int32) (I : xI) (J : xJ) : Option (Int32 × xI × xJ) := f_X7_blockOf_0 x1 x2 I J
theorem p_X7_blockOf_4 {L : Nat} {xs : Nat → Int32} {d : Nat} {Q : xO → Prop} (x1 : Int32) (x2 : Int32) (x3 : Int32) (s0 : Int32) (I : xI) (J : xJ) {t : Int32 × xI × xJ} (h : f_X7_blockOf_4 x1 x2 x3 s0 I J = some t) (hC : (c_X7_blockOf Q) t) : Rn L xs (d + 1) 92 40 [some (.ref 43), some (.int x1), some (.int x2), some (.int x3)] [.int s0] 94 (I, J, xrf) Q := by
  unfold f_X7_blockOf_4 at h
  cases h
  exact Rn.ret 1 (o := ((some (.int s0)), 94, (I, J, xrf))) (fun f => rfl) hC
theorem p_X7_blockOf_3 {L : Nat} {xs : Nat → Int32} {d : Nat} {Q : xO → Prop} (x1 : Int32) (x2 : Int32) (x3 : Int32) (I : xI) (J : xJ) {t : Int32 × xI × xJ} (h : f_X7_blockOf_3 x1 x2 x3 I J = some t) (hC : (c_X7_blockOf Q) t) : Rn L xs (d + 1) 92 39 [some (.ref 43), some (.int x1), some (.int x2), some (.int x3)] [] 94 (I, J, xrf) Q := by
  unfold f_X7_blockOf_3 at h
  refine Rn.go 1 (j' := 92) (pc' := 40) (ls' := [some (.ref 43), some (.int x1), some (.int x2), some (.int x3)]) (st' := [.int ((-1))]) (n' := 94) (M' := (I, J, xrf)) (fun f => rfl) ?_
  exact p_X7_blockOf_4 x1 x2 x3 ((-1)) I J h hC
theorem p_X7_blockOf_2 {L : Nat} {xs : Nat → Int32} {d : Nat} {Q : xO → Prop} (x1 : Int32) (x2 : Int32) (x3 : Int32) (I : xI) (J : xJ) {t : Int32 × xI × xJ} (h : f_X7_blockOf_2 x1 x2 x3 I J = some t) (hC : (c_X7_blockOf Q) t) : Rn L xs (d + 1) 92 21 [some (.ref 43), some (.int x1), some (.int x2), some (.int x3)] [] 94 (I, J, xrf) Q := by
  unfold f_X7_blockOf_2 at h
  obtain ⟨hc, h⟩ := xif h
  refine Rn.ok 4 (c := x1 < 0 ∨ 203 ≤ x1.toNatClampNeg) (p1 := 27) (l1 := [some (.ref 43), some (.int x1), some (.int x2), some (.int x3)]) (s1 := [.int ((I 44 x1.toNatClampNeg))]) (n1 := 94) (M1 := (I, J, xrf)) (fun f => rfl) hc ?_
  obtain ⟨hc, h⟩ := xif h
  refine Rn.ok 3 (c := x3 < 0 ∨ 6 ≤ x3.toNatClampNeg) (p1 := 32) (l1 := [some (.ref 43), some (.int x1), some (.int x2), some (.int x3)]) (s1 := [.int ((zst1001 x3.toNatClampNeg)), .int ((I 44 x1.toNatClampNeg))]) (n1 := 94) (M1 := (I, J, xrf)) (fun f => rfl) hc ?_
  obtain ⟨hc, h⟩ := xif h
  refine Rn.ok 1 (c := (zst1001 x3.toNatClampNeg) = 0) (p1 := 33) (l1 := [some (.ref 43), some (.int x1), some (.int x2), some (.int x3)]) (s1 := [.int (((I 44 x1.toNatClampNeg) / (zst1001 x3.toNatClampNeg)))]) (n1 := 94) (M1 := (I, J, xrf)) (fun f => rfl) hc ?_
  refine Rn.go 3 (j' := 92) (pc' := 40) (ls' := [some (.ref 43), some (.int x1), some (.int x2), some (.int x3)]) (st' := [.int ((((I 44 x1.toNatClampNeg) / (zst1001 x3.toNatClampNeg)) - ((I 44 x1.toNatClampNeg) / (zst1001 x3.toNatClampNeg)) / 10 * 10))]) (n' := 94) (M' := (I, J, xrf)) (fun f => rfl) ?_
  exact p_X7_blockOf_4 x1 x2 x3 ((((I 44 x1.toNatClampNeg) / (zst1001 x3.toNatClampNeg)) - ((I 44 x1.toNatClampNeg) / (zst1001 x3.toNatClampNeg)) / 10 * 10)) I J h hC
theorem p_X7_blockOf_1 {L : Nat} {xs : Nat → Int32} {d : Nat} {Q : xO → Prop} (x1 : Int32) (x2 : Int32) (x3 : Int32) (I : xI) (J : xJ) {t : Int32 × xI × xJ} (h : f_X7_blockOf_1 x1 x2 x3 I J = some t) (hC : (c_X7_blockOf Q) t) : Rn L xs (d + 1) 92 13 [some (.ref 43), some (.int x1), some (.int x2), some (.int x3)] [] 94 (I, J, xrf) Q := by
  unfold f_X7_blockOf_1 at h
  refine Rn.fi 4 (c := 6 ≤ x3) (p1 := 39) (l1 := [some (.ref 43), some (.int x1), some (.int x2), some (.int x3)]) (s1 := []) (n1 := 94) (M1 := (I, J, xrf)) (p2 := 21) (l2 := [some (.ref 43), some (.int x1), some (.int x2), some (.int x3)]) (s2 := []) (n2 := 94) (M2 := (I, J, xrf)) (fun f => rfl) (fun hc => ?_) (fun hc => ?_)
  · rw [if_pos hc] at h
    exact p_X7_blockOf_3 x1 x2 x3 I J h hC
  · rw [if_neg hc] at h
    exact p_X7_blockOf_2 x1 x2 x3 I J h hC
theorem p_X7_blockOf_0 {L : Nat} {xs : Nat → Int32} {d : Nat} {Q : xO → Prop} (x1 : Int32) (x2 : Int32) (I : xI) (J : xJ) {t : Int32 × xI × xJ} (h : f_X7_blockOf_0 x1 x2 I J = some t) (hC : (c_X7_blockOf Q) t) : Rn L xs (d + 1) 92 0 [some (.ref 43), some (.int x1), some (.int x2), none] [] 94 (I, J, xrf) Q := by
  unfold f_X7_blockOf_0 at h
  refine Rn.fi 9 (c := (((I 43 6) - 1) - x2) < 0) (p1 := 39) (l1 := [some (.ref 43), some (.int x1), some (.int x2), some (.int ((((I 43 6) - 1) - x2)))]) (s1 := []) (n1 := 94) (M1 := (I, J, xrf)) (p2 := 13) (l2 := [some (.ref 43), some (.int x1), some (.int x2), some (.int ((((I 43 6) - 1) - x2)))]) (s2 := []) (n2 := 94) (M2 := (I, J, xrf)) (fun f => rfl) (fun hc => ?_) (fun hc => ?_)
  · rw [if_pos hc] at h
    exact p_X7_blockOf_3 x1 x2 ((((I 43 6) - 1) - x2)) I J h hC
  · rw [if_neg hc] at h
    exact p_X7_blockOf_1 x1 x2 ((((I 43 6) - 1) - x2)) I J h hC
theorem p_X7_blockOf {L : Nat} {xs : Nat → Int32} {d : Nat} {Q : xO → Prop} (x1 : Int32) (x2 : Int32) (I : xI) (J : xJ) {t : Int32 × xI × xJ} (h : f_X7_blockOf x1 x2 I J = some t) (hC : Q ((some (.int t.1)), 94, (t.2.1, t.2.2, xrf))) : Rn L xs (d + 1) 92 0 [some (.ref 43), some (.int x1), some (.int x2), none] [] 94 (I, J, xrf) Q := p_X7_blockOf_0 x1 x2 I J h hC
/-! X7_joinsOf -/
def c_X7_joinsOf (Q : xO → Prop) (t : Int32 × xI × xJ) : Prop := Q ((some (.int t.1)), 94, (t.2.1, t.2.2, xrf))
def c_X7_joinsOf_1 (L : Nat) (xs : Nat → Int32) (d : Nat) (Q : xO → Prop) (t : (Int32 × Int32 × Int32 × (Option Value) × xI × xJ) ⊕ (Int32 × xI × xJ)) : Prop := match t with
  | .inl s => Rn L xs (d + 2) 91 4 [some (.ref 43), some (.int s.1), some (.int s.2.1), some (.int s.2.2.1), s.2.2.2.1] [] 94 (s.2.2.2.2.1, s.2.2.2.2.2, xrf) Q
  | .inr t => (c_X7_joinsOf Q) t
def c_X7_joinsOf_3 (L : Nat) (xs : Nat → Int32) (d : Nat) (Q : xO → Prop) (t : (Int32 × Int32 × Int32 × Int32 × xI × xJ) ⊕ ((Int32 × Int32 × Int32 × (Option Value) × xI × xJ) ⊕ (Int32 × xI × xJ))) : Prop := match t with
  | .inl s => Rn L xs (d + 2) 91 17 [some (.ref 43), some (.int s.1), some (.int s.2.1), some (.int s.2.2.1), some (.int s.2.2.2.1)] [] 94 (s.2.2.2.2.1, s.2.2.2.2.2, xrf) Q
  | .inr t => (c_X7_joinsOf_1 L xs d Q) t
def f_X7_joinsOf_11 (x1 : Int32) (x2 : Int32) (x3 : Int32) (z4 : Option Value) (I : xI) (J : xJ) : Option (Int32 × xI × xJ) := some (x2, I, J)
def f_X7_joinsOf_10 (x1 : Int32) (x2 : Int32) (x3 : Int32) (x4 : Int32) (I : xI) (J : xJ) : Option ((Int32 × Int32 × Int32 × (Option Value) × xI × xJ) ⊕ (Int32 × xI × xJ)) := some (.inl (x1, x2, ((x3 + 1)), (some (.int x4)), I, J))
def f_X7_joinsOf_9 (x1 : Int32) (x2 : Int32) (x3 : Int32) (x4 : Int32) (I : xI) (J : xJ) : Option ((Int32 × Int32 × Int32 × Int32 × xI × xJ) ⊕ ((Int32 × Int32 × Int32 × (Option Value) × xI × xJ) ⊕ (Int32 × xI × xJ))) := some (.inl (x1, x2, x3, ((x4 + 1)), I, J))
def f_X7_joinsOf_8 (x1 : Int32) (x2 : Int32) (x3 : Int32) (x4 : Int32) (s0 : Int32) (s1 : Int32) (I : xI) (J : xJ) : Option ((Int32 × Int32 × Int32 × Int32 × xI × xJ) ⊕ ((Int32 × Int32 × Int32 × (Option Value) × xI × xJ) ⊕ (Int32 × xI × xJ))) := f_X7_joinsOf_9 x1 ((s0 ||| s1)) x3 x4 I J
def f_X7_joinsOf_7 (x1 : Int32) (x2 : Int32) (x3 : Int32) (x4 : Int32) (I : xI) (J : xJ) : Option ((Int32 × Int32 × Int32 × Int32 × xI × xJ) ⊕ ((Int32 × Int32 × Int32 × (Option Value) × xI × xJ) ⊕ (Int32 × xI × xJ))) := (f_X11_pairOf x3 x4 I J).bind fun o => f_X7_joinsOf_8 x1 x2 x3 x4 x2 o.1 o.2.1 o.2.2
def f_X7_joinsOf_6 (x1 : Int32) (x2 : Int32) (x3 : Int32) (x4 : Int32) (s0 : Int32) (s1 : Int32) (I : xI) (J : xJ) : Option ((Int32 × Int32 × Int32 × Int32 × xI × xJ) ⊕ ((Int32 × Int32 × Int32 × (Option Value) × xI × xJ) ⊕ (Int32 × xI × xJ))) := if s0 = s1 then f_X7_joinsOf_7 x1 x2 x3 x4 I J else f_X7_joinsOf_9 x1 x2 x3 x4 I J
def f_X7_joinsOf_5 (x1 : Int32) (x2 : Int32) (x3 : Int32) (x4 : Int32) (s0 : Int32) (I : xI) (J : xJ) : Option ((Int32 × Int32 × Int32 × Int32 × xI × xJ) ⊕ ((Int32 × Int32 × Int32 × (Option Value) × xI × xJ) ⊕ (Int32 × xI × xJ))) := (f_X7_blockOf x1 x4 I J).bind fun o => f_X7_joinsOf_6 x1 x2 x3 x4 s0 o.1 o.2.1 o.2.2
def f_X7_joinsOf_4 (x1 : Int32) (x2 : Int32) (x3 : Int32) (x4 : Int32) (I : xI) (J : xJ) : Option ((Int32 × Int32 × Int32 × Int32 × xI × xJ) ⊕ ((Int32 × Int32 × Int32 × (Option Value) × xI × xJ) ⊕ (Int32 × xI × xJ))) := (f_X7_blockOf x1 x3 I J).bind fun o => f_X7_joinsOf_5 x1 x2 x3 x4 o.1 o.2.1 o.2.2
def b_X7_joinsOf_3 (x1 : Int32) (x2 : Int32) (x3 : Int32) (x4 : Int32) (I : xI) (J : xJ) : Option ((Int32 × Int32 × Int32 × Int32 × xI × xJ) ⊕ ((Int32 × Int32 × Int32 × (Option Value) × xI × xJ) ⊕ (Int32 × xI × xJ))) := if (I 43 6) ≤ x4 then ((f_X7_joinsOf_10 x1 x2 x3 x4 I J)).map .inr else f_X7_joinsOf_4 x1 x2 x3 x4 I J
def f_X7_joinsOf_3 (x1 : Int32) (x2 : Int32) (x3 : Int32) (x4 : Int32) (I : xI) (J : xJ) : Option ((Int32 × Int32 × Int32 × (Option Value) × xI × xJ) ⊕ (Int32 × xI × xJ)) := xloop (fun s : Int32 × Int32 × Int32 × Int32 × xI × xJ => b_X7_joinsOf_3 s.1 s.2.1 s.2.2.1 s.2.2.2.1 s.2.2.2.2.1 s.2.2.2.2.2) 5000 (x1, x2, x3, x4, I, J)
def f_X7_joinsOf_2 (x1 : Int32) (x2 : Int32) (x3 : Int32) (z4 : Option Value) (I : xI) (J : xJ) : Option ((Int32 × Int32 × Int32 × (Option Value) × xI × xJ) ⊕ (Int32 × xI × xJ)) := f_X7_joinsOf_3 x1 x2 x3 ((x3 + 1)) I J
def b_X7_joinsOf_1 (x1 : Int32) (x2 : Int32) (x3 : Int32) (z4 : Option Value) (I : xI) (J : xJ) : Option ((Int32 × Int32 × Int32 × (Option Value) × xI × xJ) ⊕ (Int32 × xI × xJ)) := if (I 43 6) ≤ x3 then ((f_X7_joinsOf_11 x1 x2 x3 z4 I J)).map .inr else f_X7_joinsOf_2 x1 x2 x3 z4 I J
def f_X7_joinsOf_1 (x1 : Int32) (x2 : Int32) (x3 : Int32) (z4 : Option Value) (I : xI) (J : xJ) : Option (Int32 × xI × xJ) := xloop (fun s : Int32 × Int32 × Int32 × (Option Value) × xI × xJ => b_X7_joinsOf_1 s.1 s.2.1 s.2.2.1 s.2.2.2.1 s.2.2.2.2.1 s.2.2.2.2.2) 5000 (x1, x2, x3, z4, I, J)
def f_X7_joinsOf_0 (x1 : Int32) (I : xI) (J : xJ) : Option (Int32 × xI × xJ) := f_X7_joinsOf_1 x1 0 0 none I J
def f_X7_joinsOf (x1 : Int32) (I : xI) (J : xJ) : Option (Int32 × xI × xJ) := f_X7_joinsOf_0 x1 I J
theorem p_X7_joinsOf_11 {L : Nat} {xs : Nat → Int32} {d : Nat} {Q : xO → Prop} (x1 : Int32) (x2 : Int32) (x3 : Int32) (z4 : Option Value) (I : xI) (J : xJ) {t : Int32 × xI × xJ} (h : f_X7_joinsOf_11 x1 x2 x3 z4 I J = some t) (hC : (c_X7_joinsOf Q) t) : Rn L xs (d + 2) 91 63 [some (.ref 43), some (.int x1), some (.int x2), some (.int x3), z4] [] 94 (I, J, xrf) Q := by
  unfold f_X7_joinsOf_11 at h
  cases h
  exact Rn.ret 2 (o := ((some (.int x2)), 94, (I, J, xrf))) (fun f => rfl) hC
theorem p_X7_joinsOf_10 {L : Nat} {xs : Nat → Int32} {d : Nat} {Q : xO → Prop} (x1 : Int32) (x2 : Int32) (x3 : Int32) (x4 : Int32) (I : xI) (J : xJ) {t : (Int32 × Int32 × Int32 × (Option Value) × xI × xJ) ⊕ (Int32 × xI × xJ)} (h : f_X7_joinsOf_10 x1 x2 x3 x4 I J = some t) (hC : (c_X7_joinsOf_1 L xs d Q) t) : Rn L xs (d + 2) 91 57 [some (.ref 43), some (.int x1), some (.int x2), some (.int x3), some (.int x4)] [] 94 (I, J, xrf) Q := by
  unfold f_X7_joinsOf_10 at h
  refine Rn.go 2 (j' := 91) (pc' := 4) (ls' := [some (.ref 43), some (.int x1), some (.int x2), some (.int ((x3 + 1))), some (.int x4)]) (st' := []) (n' := 94) (M' := (I, J, xrf)) (fun f => rfl) ?_
  cases h; exact hC
theorem p_X7_joinsOf_9 {L : Nat} {xs : Nat → Int32} {d : Nat} {Q : xO → Prop} (x1 : Int32) (x2 : Int32) (x3 : Int32) (x4 : Int32) (I : xI) (J : xJ) {t : (Int32 × Int32 × Int32 × Int32 × xI × xJ) ⊕ ((Int32 × Int32 × Int32 × (Option Value) × xI × xJ) ⊕ (Int32 × xI × xJ))} (h : f_X7_joinsOf_9 x1 x2 x3 x4 I J = some t) (hC : (c_X7_joinsOf_3 L xs d Q) t) : Rn L xs (d + 2) 91 51 [some (.ref 43), some (.int x1), some (.int x2), some (.int x3), some (.int x4)] [] 94 (I, J, xrf) Q := by
  unfold f_X7_joinsOf_9 at h
  refine Rn.go 2 (j' := 91) (pc' := 17) (ls' := [some (.ref 43), some (.int x1), some (.int x2), some (.int x3), some (.int ((x4 + 1)))]) (st' := []) (n' := 94) (M' := (I, J, xrf)) (fun f => rfl) ?_
  cases h; exact hC
theorem p_X7_joinsOf_8 {L : Nat} {xs : Nat → Int32} {d : Nat} {Q : xO → Prop} (x1 : Int32) (x2 : Int32) (x3 : Int32) (x4 : Int32) (s0 : Int32) (s1 : Int32) (I : xI) (J : xJ) {t : (Int32 × Int32 × Int32 × Int32 × xI × xJ) ⊕ ((Int32 × Int32 × Int32 × (Option Value) × xI × xJ) ⊕ (Int32 × xI × xJ))} (h : f_X7_joinsOf_8 x1 x2 x3 x4 s0 s1 I J = some t) (hC : (c_X7_joinsOf_3 L xs d Q) t) : Rn L xs (d + 2) 91 49 [some (.ref 43), some (.int x1), some (.int x2), some (.int x3), some (.int x4)] [.int s1, .int s0] 94 (I, J, xrf) Q := by
  unfold f_X7_joinsOf_8 at h
  refine Rn.go 2 (j' := 91) (pc' := 51) (ls' := [some (.ref 43), some (.int x1), some (.int ((s0 ||| s1))), some (.int x3), some (.int x4)]) (st' := []) (n' := 94) (M' := (I, J, xrf)) (fun f => rfl) ?_
  exact p_X7_joinsOf_9 x1 ((s0 ||| s1)) x3 x4 I J h hC
theorem p_X7_joinsOf_7 {L : Nat} {xs : Nat → Int32} {d : Nat} {Q : xO → Prop} (x1 : Int32) (x2 : Int32) (x3 : Int32) (x4 : Int32) (I : xI) (J : xJ) {t : (Int32 × Int32 × Int32 × Int32 × xI × xJ) ⊕ ((Int32 × Int32 × Int32 × (Option Value) × xI × xJ) ⊕ (Int32 × xI × xJ))} (h : f_X7_joinsOf_7 x1 x2 x3 x4 I J = some t) (hC : (c_X7_joinsOf_3 L xs d Q) t) : Rn L xs (d + 2) 91 42 [some (.ref 43), some (.int x1), some (.int x2), some (.int x3), some (.int x4)] [] 94 (I, J, xrf) Q := by
  unfold f_X7_joinsOf_7 at h
  refine Rn.go 3 (j' := 91) (pc' := 46) (ls' := [some (.ref 43), some (.int x1), some (.int x2), some (.int x3), some (.int x4)]) (st' := [.int x4, .int x3, .int x2]) (n' := 94) (M' := (I, J, xrf)) (fun f => rfl) ?_
  obtain ⟨o, ho, h⟩ := Option.bind_eq_some_iff.mp h
  refine Rn.call (d1 := d + 1) (j1 := 181) (ls1 := [some (.int x3), some (.int x4), none]) (rest := [.int x2]) (fun f => rfl) ?_
  refine p_X11_pairOf (d := d + 0) x3 x4 I J (t := o) ho ?_
  exact p_X7_joinsOf_8 x1 x2 x3 x4 x2 o.1 o.2.1 o.2.2 h hC
theorem p_X7_joinsOf_6 {L : Nat} {xs : Nat → Int32} {d : Nat} {Q : xO → Prop} (x1 : Int32) (x2 : Int32) (x3 : Int32) (x4 : Int32) (s0 : Int32) (s1 : Int32) (I : xI) (J : xJ) {t : (Int32 × Int32 × Int32 × Int32 × xI × xJ) ⊕ ((Int32 × Int32 × Int32 × (Option Value) × xI × xJ) ⊕ (Int32 × xI × xJ))} (h : f_X7_joinsOf_6 x1 x2 x3 x4 s0 s1 I J = some t) (hC : (c_X7_joinsOf_3 L xs d Q) t) : Rn L xs (d + 2) 91 39 [some (.ref 43), some (.int x1), some (.int x2), some (.int x3), some (.int x4)] [.int s1, .int s0] 94 (I, J, xrf) Q := by
  unfold f_X7_joinsOf_6 at h
  refine Rn.fi 1 (c := s0 = s1) (p1 := 42) (l1 := [some (.ref 43), some (.int x1), some (.int x2), some (.int x3), some (.int x4)]) (s1 := []) (n1 := 94) (M1 := (I, J, xrf)) (p2 := 51) (l2 := [some (.ref 43), some (.int x1), some (.int x2), some (.int x3), some (.int x4)]) (s2 := []) (n2 := 94) (M2 := (I, J, xrf)) (fun f => rfl) (fun hc => ?_) (fun hc => ?_)
  · rw [if_pos hc] at h
    exact p_X7_joinsOf_7 x1 x2 x3 x4 I J h hC
  · rw [if_neg hc] at h
    exact p_X7_joinsOf_9 x1 x2 x3 x4 I J h hC
theorem p_X7_joinsOf_5 {L : Nat} {xs : Nat → Int32} {d : Nat} {Q : xO → Prop} (x1 : Int32) (x2 : Int32) (x3 : Int32) (x4 : Int32) (s0 : Int32) (I : xI) (J : xJ) {t : (Int32 × Int32 × Int32 × Int32 × xI × xJ) ⊕ ((Int32 × Int32 × Int32 × (Option Value) × xI × xJ) ⊕ (Int32 × xI × xJ))} (h : f_X7_joinsOf_5 x1 x2 x3 x4 s0 I J = some t) (hC : (c_X7_joinsOf_3 L xs d Q) t) : Rn L xs (d + 2) 91 32 [some (.ref 43), some (.int x1), some (.int x2), some (.int x3), some (.int x4)] [.int s0] 94 (I, J, xrf) Q := by
  unfold f_X7_joinsOf_5 at h
  refine Rn.go 3 (j' := 91) (pc' := 36) (ls' := [some (.ref 43), some (.int x1), some (.int x2), some (.int x3), some (.int x4)]) (st' := [.int x4, .int x1, .ref 43, .int s0]) (n' := 94) (M' := (I, J, xrf)) (fun f => rfl) ?_
  obtain ⟨o, ho, h⟩ := Option.bind_eq_some_iff.mp h
  refine Rn.call (d1 := d + 1) (j1 := 92) (ls1 := [some (.ref 43), some (.int x1), some (.int x4), none]) (rest := [.int s0]) (fun f => rfl) ?_
  refine p_X7_blockOf (d := d + 0) x1 x4 I J (t := o) ho ?_
  exact p_X7_joinsOf_6 x1 x2 x3 x4 s0 o.1 o.2.1 o.2.2 h hC
theorem p_X7_joinsOf_4 {L : Nat} {xs : Nat → Int32} {d : Nat} {Q : xO → Prop} (x1 : Int32) (x2 : Int32) (x3 : Int32) (x4 : Int32) (I : xI) (J : xJ) {t : (Int32 × Int32 × Int32 × Int32 × xI × xJ) ⊕ ((Int32 × Int32 × Int32 × (Option Value) × xI × xJ) ⊕ (Int32 × xI × xJ))} (h : f_X7_joinsOf_4 x1 x2 x3 x4 I J = some t) (hC : (c_X7_joinsOf_3 L xs d Q) t) : Rn L xs (d + 2) 91 26 [some (.ref 43), some (.int x1), some (.int x2), some (.int x3), some (.int x4)] [] 94 (I, J, xrf) Q := by
  unfold f_X7_joinsOf_4 at h
  refine Rn.go 3 (j' := 91) (pc' := 29) (ls' := [some (.ref 43), some (.int x1), some (.int x2), some (.int x3), some (.int x4)]) (st' := [.int x3, .int x1, .ref 43]) (n' := 94) (M' := (I, J, xrf)) (fun f => rfl) ?_
  obtain ⟨o, ho, h⟩ := Option.bind_eq_some_iff.mp h
  refine Rn.call (d1 := d + 1) (j1 := 92) (ls1 := [some (.ref 43), some (.int x1), some (.int x3), none]) (rest := []) (fun f => rfl) ?_
  refine p_X7_blockOf (d := d + 0) x1 x3 I J (t := o) ho ?_
  exact p_X7_joinsOf_5 x1 x2 x3 x4 o.1 o.2.1 o.2.2 h hC
theorem q_X7_joinsOf_3 {L : Nat} {xs : Nat → Int32} {d : Nat} {Q : xO → Prop} (x1 : Int32) (x2 : Int32) (x3 : Int32) (x4 : Int32) (I : xI) (J : xJ) {t : (Int32 × Int32 × Int32 × Int32 × xI × xJ) ⊕ ((Int32 × Int32 × Int32 × (Option Value) × xI × xJ) ⊕ (Int32 × xI × xJ))} (h : b_X7_joinsOf_3 x1 x2 x3 x4 I J = some t) (hC : (c_X7_joinsOf_3 L xs d Q) t) : Rn L xs (d + 2) 91 17 [some (.ref 43), some (.int x1), some (.int x2), some (.int x3), some (.int x4)] [] 94 (I, J, xrf) Q := by
  unfold b_X7_joinsOf_3 at h
  refine Rn.fi 4 (c := (I 43 6) ≤ x4) (p1 := 57) (l1 := [some (.ref 43), some (.int x1), some (.int x2), some (.int x3), some (.int x4)]) (s1 := []) (n1 := 94) (M1 := (I, J, xrf)) (p2 := 26) (l2 := [some (.ref 43), some (.int x1), some (.int x2), some (.int x3), some (.int x4)]) (s2 := []) (n2 := 94) (M2 := (I, J, xrf)) (fun f => rfl) (fun hc => ?_) (fun hc => ?_)
  · rw [if_pos hc] at h
    obtain ⟨t0, h0, rfl⟩ := Option.map_eq_some_iff.mp h
    exact p_X7_joinsOf_10 x1 x2 x3 x4 I J h0 hC
  · rw [if_neg hc] at h
    exact p_X7_joinsOf_4 x1 x2 x3 x4 I J h hC
theorem p_X7_joinsOf_3 {L : Nat} {xs : Nat → Int32} {d : Nat} {Q : xO → Prop} (x1 : Int32) (x2 : Int32) (x3 : Int32) (x4 : Int32) (I : xI) (J : xJ) {t : (Int32 × Int32 × Int32 × (Option Value) × xI × xJ) ⊕ (Int32 × xI × xJ)} (h : f_X7_joinsOf_3 x1 x2 x3 x4 I J = some t) (hC : (c_X7_joinsOf_1 L xs d Q) t) : Rn L xs (d + 2) 91 17 [some (.ref 43), some (.int x1), some (.int x2), some (.int x3), some (.int x4)] [] 94 (I, J, xrf) Q := by
  unfold f_X7_joinsOf_3 at h
  exact xloop_some (P := fun s : Int32 × Int32 × Int32 × Int32 × xI × xJ => Rn L xs (d + 2) 91 17 [some (.ref 43), some (.int s.1), some (.int s.2.1), some (.int s.2.2.1), some (.int s.2.2.2.1)] [] 94 (s.2.2.2.2.1, s.2.2.2.2.2, xrf) Q) t (fun s ⟨s', hb, hp⟩ => q_X7_joinsOf_3 s.1 s.2.1 s.2.2.1 s.2.2.2.1 s.2.2.2.2.1 s.2.2.2.2.2 hb hp) (fun s hb => q_X7_joinsOf_3 s.1 s.2.1 s.2.2.1 s.2.2.2.1 s.2.2.2.2.1 s.2.2.2.2.2 hb hC) _ _ h
theorem p_X7_joinsOf_2 {L : Nat} {xs : Nat → Int32} {d : Nat} {Q : xO → Prop} (x1 : Int32) (x2 : Int32) (x3 : Int32) (z4 : Option Value) (I : xI) (J : xJ) {t : (Int32 × Int32 × Int32 × (Option Value) × xI × xJ) ⊕ (Int32 × xI × xJ)} (h : f_X7_joinsOf_2 x1 x2 x3 z4 I J = some t) (hC : (c_X7_joinsOf_1 L xs d Q) t) : Rn L xs (d + 2) 91 12 [some (.ref 43), some (.int x1), some (.int x2), some (.int x3), z4] [] 94 (I, J, xrf) Q := by
  unfold f_X7_joinsOf_2 at h
  refine Rn.go 4 (j' := 91) (pc' := 17) (ls' := [some (.ref 43), some (.int x1), some (.int x2), some (.int x3), some (.int ((x3 + 1)))]) (st' := []) (n' := 94) (M' := (I, J, xrf)) (fun f => rfl) ?_
  exact p_X7_joinsOf_3 x1 x2 x3 ((x3 + 1)) I J h hC
theorem q_X7_joinsOf_1 {L : Nat} {xs : Nat → Int32} {d : Nat} {Q : xO → Prop} (x1 : Int32) (x2 : Int32) (x3 : Int32) (z4 : Option Value) (I : xI) (J : xJ) {t : (Int32 × Int32 × Int32 × (Option Value) × xI × xJ) ⊕ (Int32 × xI × xJ)} (h : b_X7_joinsOf_1 x1 x2 x3 z4 I J = some t) (hC : (c_X7_joinsOf_1 L xs d Q) t) : Rn L xs (d + 2) 91 4 [some (.ref 43), some (.int x1), some (.int x2), some (.int x3), z4] [] 94 (I, J, xrf) Q := by
  unfold b_X7_joinsOf_1 at h
  refine Rn.fi 4 (c := (I 43 6) ≤ x3) (p1 := 63) (l1 := [some (.ref 43), some (.int x1), some (.int x2), some (.int x3), z4]) (s1 := []) (n1 := 94) (M1 := (I, J, xrf)) (p2 := 12) (l2 := [some (.ref 43), some (.int x1), some (.int x2), some (.int x3), z4]) (s2 := []) (n2 := 94) (M2 := (I, J, xrf)) (fun f => rfl) (fun hc => ?_) (fun hc => ?_)
  · rw [if_pos hc] at h
    obtain ⟨t0, h0, rfl⟩ := Option.map_eq_some_iff.mp h
    exact p_X7_joinsOf_11 x1 x2 x3 z4 I J h0 hC
  · rw [if_neg hc] at h
    exact p_X7_joinsOf_2 x1 x2 x3 z4 I J h hC
theorem p_X7_joinsOf_1 {L : Nat} {xs : Nat → Int32} {d : Nat} {Q : xO → Prop} (x1 : Int32) (x2 : Int32) (x3 : Int32) (z4 : Option Value) (I : xI) (J : xJ) {t : Int32 × xI × xJ} (h : f_X7_joinsOf_1 x1 x2 x3 z4 I J = some t) (hC : (c_X7_joinsOf Q) t) : Rn L xs (d + 2) 91 4 [some (.ref 43), some (.int x1), some (.int x2), some (.int x3), z4] [] 94 (I, J, xrf) Q := by
  unfold f_X7_joinsOf_1 at h
  exact xloop_some (P := fun s : Int32 × Int32 × Int32 × (Option Value) × xI × xJ => Rn L xs (d + 2) 91 4 [some (.ref 43), some (.int s.1), some (.int s.2.1), some (.int s.2.2.1), s.2.2.2.1] [] 94 (s.2.2.2.2.1, s.2.2.2.2.2, xrf) Q) t (fun s ⟨s', hb, hp⟩ => q_X7_joinsOf_1 s.1 s.2.1 s.2.2.1 s.2.2.2.1 s.2.2.2.2.1 s.2.2.2.2.2 hb hp) (fun s hb => q_X7_joinsOf_1 s.1 s.2.1 s.2.2.1 s.2.2.2.1 s.2.2.2.2.1 s.2.2.2.2.2 hb hC) _ _ h
theorem p_X7_joinsOf_0 {L : Nat} {xs : Nat → Int32} {d : Nat} {Q : xO → Prop} (x1 : Int32) (I : xI) (J : xJ) {t : Int32 × xI × xJ} (h : f_X7_joinsOf_0 x1 I J = some t) (hC : (c_X7_joinsOf Q) t) : Rn L xs (d + 2) 91 0 [some (.ref 43), some (.int x1), none, none, none] [] 94 (I, J, xrf) Q := by
  unfold f_X7_joinsOf_0 at h
  refine Rn.go 4 (j' := 91) (pc' := 4) (ls' := [some (.ref 43), some (.int x1), some (.int 0), some (.int 0), none]) (st' := []) (n' := 94) (M' := (I, J, xrf)) (fun f => rfl) ?_
  exact p_X7_joinsOf_1 x1 0 0 none I J h hC
theorem p_X7_joinsOf {L : Nat} {xs : Nat → Int32} {d : Nat} {Q : xO → Prop} (x1 : Int32) (I : xI) (J : xJ) {t : Int32 × xI × xJ} (h : f_X7_joinsOf x1 I J = some t) (hC : Q ((some (.int t.1)), 94, (t.2.1, t.2.2, xrf))) : Rn L xs (d + 2) 91 0 [some (.ref 43), some (.int x1), none, none, none] [] 94 (I, J, xrf) Q := p_X7_joinsOf_0 x1 I J h hC
/-! X7_grow -/
def c_X7_grow (Q : xO → Prop) (t : Unit × xI × xJ) : Prop := Q (none, 94, (t.2.1, t.2.2, xrf))
def c_X7_grow_6 (L : Nat) (xs : Nat → Int32) (d r : Nat) (Q : xO → Prop) (t : (Int32 × Int32 × Int32 × Int32 × xI × xJ) ⊕ (Unit × xI × xJ)) : Prop := match t with
  | .inl s => Rn L xs (d + r + 3) 90 69 [some (.ref 43), some (.int s.1), some (.int s.2.1), some (.int s.2.2.1), some (.int s.2.2.2.1)] [] 94 (s.2.2.2.2.1, s.2.2.2.2.2, xrf) Q
  | .inr t => (c_X7_grow Q) t
def f_X7_grow_9 (self : Int32 → Int32 → Int32 → xI → xJ → Option (Unit × xI × xJ)) (x1 : Int32) (x2 : Int32) (x3 : Int32) (x4 : Int32) (I : xI) (J : xJ) : Option (Unit × xI × xJ) := some ((), I, J)
def f_X7_grow_8 (self : Int32 → Int32 → Int32 → xI → xJ → Option (Unit × xI × xJ)) (x1 : Int32) (x2 : Int32) (x3 : Int32) (x4 : Int32) (I : xI) (J : xJ) : Option ((Int32 × Int32 × Int32 × Int32 × xI × xJ) ⊕ (Unit × xI × xJ)) := some (.inl (x1, x2, x3, ((x4 + 1)), I, J))
def f_X7_grow_7 (self : Int32 → Int32 → Int32 → xI → xJ → Option (Unit × xI × xJ)) (x1 : Int32) (x2 : Int32) (x3 : Int32) (x4 : Int32) (I : xI) (J : xJ) : Option ((Int32 × Int32 × Int32 × Int32 × xI × xJ) ⊕ (Unit × xI × xJ)) := (self ((x1 + 1)) (((x2 * 10) + x4)) ((if x3 < (x4 + 1) then (x4 + 1) else x3)) I J).bind fun o => f_X7_grow_8 self x1 x2 x3 x4 o.2.1 o.2.2
def b_X7_grow_6 (self : Int32 → Int32 → Int32 → xI → xJ → Option (Unit × xI × xJ)) (x1 : Int32) (x2 : Int32) (x3 : Int32) (x4 : Int32) (I : xI) (J : xJ) : Option ((Int32 × Int32 × Int32 × Int32 × xI × xJ) ⊕ (Unit × xI × xJ)) := if x3 < x4 then ((f_X7_grow_9 self x1 x2 x3 x4 I J)).map .inr else f_X7_grow_7 self x1 x2 x3 x4 I J
def f_X7_grow_6 (self : Int32 → Int32 → Int32 → xI → xJ → Option (Unit × xI × xJ)) (x1 : Int32) (x2 : Int32) (x3 : Int32) (x4 : Int32) (I : xI) (J : xJ) : Option (Unit × xI × xJ) := xloop (fun s : Int32 × Int32 × Int32 × Int32 × xI × xJ => b_X7_grow_6 self s.1 s.2.1 s.2.2.1 s.2.2.2.1 s.2.2.2.2.1 s.2.2.2.2.2) 5000 (x1, x2, x3, x4, I, J)
def f_X7_grow_5 (self : Int32 → Int32 → Int32 → xI → xJ → Option (Unit × xI × xJ)) (x1 : Int32) (x2 : Int32) (x3 : Int32) (I : xI) (J : xJ) : Option (Unit × xI × xJ) := f_X7_grow_6 self x1 x2 x3 0 I J
def f_X7_grow_4 (self : Int32 → Int32 → Int32 → xI → xJ → Option (Unit × xI × xJ)) (x1 : Int32) (x2 : Int32) (x3 : Int32) (I : xI) (J : xJ) : Option (Unit × xI × xJ) := some ((), I, J)
def f_X7_grow_3 (self : Int32 → Int32 → Int32 → xI → xJ → Option (Unit × xI × xJ)) (x1 : Int32) (x2 : Int32) (x3 : Int32) (s1 : Int32) (s2 : Int32) (I : xI) (J : xJ) : Option (Unit × xI × xJ) := if s1 < 0 ∨ 203 ≤ s1.toNatClampNeg then none else f_X7_grow_4 self x1 x2 x3 ((xup ((xup I 45 s1.toNatClampNeg s2)) 43 5 (((((xup I 45 s1.toNatClampNeg s2)) 43 5) + 1)))) J
def f_X7_grow_2 (self : Int32 → Int32 → Int32 → xI → xJ → Option (Unit × xI × xJ)) (x1 : Int32) (x2 : Int32) (x3 : Int32) (I : xI) (J : xJ) : Option (Unit × xI × xJ) := if (I 43 5) < 0 ∨ 203 ≤ ((I 43 5)).toNatClampNeg then none else if (((xup I 44 ((I 43 5)).toNatClampNeg x2)) 43 5) < 0 ∨ 203 ≤ ((((xup I 44 ((I 43 5)).toNatClampNeg x2)) 43 5)).toNatClampNeg then none else (f_X7_joinsOf ((((xup ((xup I 44 ((I 43 5)).toNatClampNeg x2)) 46 ((((xup I 44 ((I 43 5)).toNatClampNeg x2)) 43 5)).toNatClampNeg x3)) 43 5)) ((xup ((xup I 44 ((I 43 5)).toNatClampNeg x2)) 46 ((((xup I 44 ((I 43 5)).toNatClampNeg x2)) 43 5)).toNatClampNeg x3)) J).bind fun o => f_X7_grow_3 self x1 x2 x3 ((((xup ((xup I 44 ((I 43 5)).toNatClampNeg x2)) 46 ((((xup I 44 ((I 43 5)).toNatClampNeg x2)) 43 5)).toNatClampNeg x3)) 43 5)) o.1 o.2.1 o.2.2
def f_X7_grow_1 (self : Int32 → Int32 → Int32 → xI → xJ → Option (Unit × xI × xJ)) (x1 : Int32) (x2 : Int32) (x3 : Int32) (I : xI) (J : xJ) : Option (Unit × xI × xJ) := if 203 ≤ (I 43 5) then f_X7_grow_4 self x1 x2 x3 I J else f_X7_grow_2 self x1 x2 x3 I J
def f_X7_grow_0 (self : Int32 → Int32 → Int32 → xI → xJ → Option (Unit × xI × xJ)) (x1 : Int32) (x2 : Int32) (x3 : Int32) (I : xI) (J : xJ) : Option (Unit × xI × xJ) := if x1 < (I 43 6) then f_X7_grow_5 self x1 x2 x3 I J else f_X7_grow_1 self x1 x2 x3 I J
def f_X7_grow : Nat → Int32 → Int32 → Int32 → xI → xJ → Option (Unit × xI × xJ)
  | 0, _, _, _, _, _ => none
  | r + 1, x1, x2, x3, I, J => f_X7_grow_0 (f_X7_grow r) x1 x2 x3 I J
theorem p_X7_grow_9 {L : Nat} {xs : Nat → Int32} {d r : Nat} {Q : xO → Prop} {self : Int32 → Int32 → Int32 → xI → xJ → Option (Unit × xI × xJ)} (hself : ∀ (a1 : Int32) (a2 : Int32) (a3 : Int32) (I : xI) (J : xJ) (o : Unit × xI × xJ), self a1 a2 a3 I J = some o → ∀ Q : xO → Prop, Q (none, 94, (o.2.1, o.2.2, xrf)) → Rn L xs (d + r + 2) 90 0 [some (.ref 43), some (.int a1), some (.int a2), some (.int a3), none] [] 94 (I, J, xrf) Q) (x1 : Int32) (x2 : Int32) (x3 : Int32) (x4 : Int32) (I : xI) (J : xJ) {t : Unit × xI × xJ} (h : f_X7_grow_9 self x1 x2 x3 x4 I J = some t) (hC : (c_X7_grow Q) t) : Rn L xs (d + r + 3) 90 103 [some (.ref 43), some (.int x1), some (.int x2), some (.int x3), some (.int x4)] [] 94 (I, J, xrf) Q := by
  unfold f_X7_grow_9 at h
  cases h
  exact Rn.ret 1 (o := (none, 94, (I, J, xrf))) (fun f => rfl) hC
theorem p_X7_grow_8 {L : Nat} {xs : Nat → Int32} {d r : Nat} {Q : xO → Prop} {self : Int32 → Int32 → Int32 → xI → xJ → Option (Unit × xI × xJ)} (hself : ∀ (a1 : Int32) (a2 : Int32) (a3 : Int32) (I : xI) (J : xJ) (o : Unit × xI × xJ), self a1 a2 a3 I J = some o → ∀ Q : xO → Prop, Q (none, 94, (o.2.1, o.2.2, xrf)) → Rn L xs (d + r + 2) 90 0 [some (.ref 43), some (.int a1), some (.int a2), some (.int a3), none] [] 94 (I, J, xrf) Q) (x1 : Int32) (x2 : Int32) (x3 : Int32) (x4 : Int32) (I : xI) (J : xJ) {t : (Int32 × Int32 × Int32 × Int32 × xI × xJ) ⊕ (Unit × xI × xJ)} (h : f_X7_grow_8 self x1 x2 x3 x4 I J = some t) (hC : (c_X7_grow_6 L xs d r Q) t) : Rn L xs (d + r + 3) 90 97 [some (.ref 43), some (.int x1), some (.int x2), some (.int x3), some (.int x4)] [] 94 (I, J, xrf) Q := by
  unfold f_X7_grow_8 at h
  refine Rn.go 2 (j' := 90) (pc' := 69) (ls' := [some (.ref 43), some (.int x1), some (.int x2), some (.int x3), some (.int ((x4 + 1)))]) (st' := []) (n' := 94) (M' := (I, J, xrf)) (fun f => rfl) ?_
  cases h; exact hC
theorem p_X7_grow_7 {L : Nat} {xs : Nat → Int32} {d r : Nat} {Q : xO → Prop} {self : Int32 → Int32 → Int32 → xI → xJ → Option (Unit × xI × xJ)} (hself : ∀ (a1 : Int32) (a2 : Int32) (a3 : Int32) (I : xI) (J : xJ) (o : Unit × xI × xJ), self a1 a2 a3 I J = some o → ∀ Q : xO → Prop, Q (none, 94, (o.2.1, o.2.2, xrf)) → Rn L xs (d + r + 2) 90 0 [some (.ref 43), some (.int a1), some (.int a2), some (.int a3), none] [] 94 (I, J, xrf) Q) (x1 : Int32) (x2 : Int32) (x3 : Int32) (x4 : Int32) (I : xI) (J : xJ) {t : (Int32 × Int32 × Int32 × Int32 × xI × xJ) ⊕ (Unit × xI × xJ)} (h : f_X7_grow_7 self x1 x2 x3 x4 I J = some t) (hC : (c_X7_grow_6 L xs d r Q) t) : Rn L xs (d + r + 3) 90 75 [some (.ref 43), some (.int x1), some (.int x2), some (.int x3), some (.int x4)] [] 94 (I, J, xrf) Q := by
  unfold f_X7_grow_7 at h
  refine Rn.go 14 (j' := 90) (pc' := 94) (ls' := [some (.ref 43), some (.int x1), some (.int x2), some (.int x3), some (.int x4)]) (st' := [.int ((if x3 < (x4 + 1) then (x4 + 1) else x3)), .int (((x2 * 10) + x4)), .int ((x1 + 1)), .ref 43]) (n' := 94) (M' := (I, J, xrf)) (fun f => rfl) ?_
  obtain ⟨o, ho, h⟩ := Option.bind_eq_some_iff.mp h
  refine Rn.call (d1 := d + r + 2) (j1 := 90) (ls1 := [some (.ref 43), some (.int ((x1 + 1))), some (.int (((x2 * 10) + x4))), some (.int ((if x3 < (x4 + 1) then (x4 + 1) else x3))), none]) (rest := []) (fun f => rfl) ?_
  refine hself ((x1 + 1)) (((x2 * 10) + x4)) ((if x3 < (x4 + 1) then (x4 + 1) else x3)) (I) (J) o ho _ ?_
  exact p_X7_grow_8 hself x1 x2 x3 x4 o.2.1 o.2.2 h hC
theorem q_X7_grow_6 {L : Nat} {xs : Nat → Int32} {d r : Nat} {Q : xO → Prop} {self : Int32 → Int32 → Int32 → xI → xJ → Option (Unit × xI × xJ)} (hself : ∀ (a1 : Int32) (a2 : Int32) (a3 : Int32) (I : xI) (J : xJ) (o : Unit × xI × xJ), self a1 a2 a3 I J = some o → ∀ Q : xO → Prop, Q (none, 94, (o.2.1, o.2.2, xrf)) → Rn L xs (d + r + 2) 90 0 [some (.ref 43), some (.int a1), some (.int a2), some (.int a3), none] [] 94 (I, J, xrf) Q) (x1 : Int32) (x2 : Int32) (x3 : Int32) (x4 : Int32) (I : xI) (J : xJ) {t : (Int32 × Int32 × Int32 × Int32 × xI × xJ) ⊕ (Unit × xI × xJ)} (h : b_X7_grow_6 self x1 x2 x3 x4 I J = some t) (hC : (c_X7_grow_6 L xs d r Q) t) : Rn L xs (d + r + 3) 90 69 [some (.ref 43), some (.int x1), some (.int x2), some (.int x3), some (.int x4)] [] 94 (I, J, xrf) Q := by
  unfold b_X7_grow_6 at h
  refine Rn.fi 3 (c := x3 < x4) (p1 := 103) (l1 := [some (.ref 43), some (.int x1), some (.int x2), some (.int x3), some (.int x4)]) (s1 := []) (n1 := 94) (M1 := (I, J, xrf)) (p2 := 75) (l2 := [some (.ref 43), some (.int x1), some (.int x2), some (.int x3), some (.int x4)]) (s2 := []) (n2 := 94) (M2 := (I, J, xrf)) (fun f => rfl) (fun hc => ?_) (fun hc => ?_)
  · rw [if_pos hc] at h
    obtain ⟨t0, h0, rfl⟩ := Option.map_eq_some_iff.mp h
    exact p_X7_grow_9 hself x1 x2 x3 x4 I J h0 hC
  · rw [if_neg hc] at h
    exact p_X7_grow_7 hself x1 x2 x3 x4 I J h hC
theorem p_X7_grow_6 {L : Nat} {xs : Nat → Int32} {d r : Nat} {Q : xO → Prop} {self : Int32 → Int32 → Int32 → xI → xJ → Option (Unit × xI × xJ)} (hself : ∀ (a1 : Int32) (a2 : Int32) (a3 : Int32) (I : xI) (J : xJ) (o : Unit × xI × xJ), self a1 a2 a3 I J = some o → ∀ Q : xO → Prop, Q (none, 94, (o.2.1, o.2.2, xrf)) → Rn L xs (d + r + 2) 90 0 [some (.ref 43), some (.int a1), some (.int a2), some (.int a3), none] [] 94 (I, J, xrf) Q) (x1 : Int32) (x2 : Int32) (x3 : Int32) (x4 : Int32) (I : xI) (J : xJ) {t : Unit × xI × xJ} (h : f_X7_grow_6 self x1 x2 x3 x4 I J = some t) (hC : (c_X7_grow Q) t) : Rn L xs (d + r + 3) 90 69 [some (.ref 43), some (.int x1), some (.int x2), some (.int x3), some (.int x4)] [] 94 (I, J, xrf) Q := by
  unfold f_X7_grow_6 at h
  exact xloop_some (P := fun s : Int32 × Int32 × Int32 × Int32 × xI × xJ => Rn L xs (d + r + 3) 90 69 [some (.ref 43), some (.int s.1), some (.int s.2.1), some (.int s.2.2.1), some (.int s.2.2.2.1)] [] 94 (s.2.2.2.2.1, s.2.2.2.2.2, xrf) Q) t (fun s ⟨s', hb, hp⟩ => q_X7_grow_6 hself s.1 s.2.1 s.2.2.1 s.2.2.2.1 s.2.2.2.2.1 s.2.2.2.2.2 hb hp) (fun s hb => q_X7_grow_6 hself s.1 s.2.1 s.2.2.1 s.2.2.2.1 s.2.2.2.2.1 s.2.2.2.2.2 hb hC) _ _ h
theorem p_X7_grow_5 {L : Nat} {xs : Nat → Int32} {d r : Nat} {Q : xO → Prop} {self : Int32 → Int32 → Int32 → xI → xJ → Option (Unit × xI × xJ)} (hself : ∀ (a1 : Int32) (a2 : Int32) (a3 : Int32) (I : xI) (J : xJ) (o : Unit × xI × xJ), self a1 a2 a3 I J = some o → ∀ Q : xO → Prop, Q (none, 94, (o.2.1, o.2.2, xrf)) → Rn L xs (d + r + 2) 90 0 [some (.ref 43), some (.int a1), some (.int a2), some (.int a3), none] [] 94 (I, J, xrf) Q) (x1 : Int32) (x2 : Int32) (x3 : Int32) (I : xI) (J : xJ) {t : Unit × xI × xJ} (h : f_X7_grow_5 self x1 x2 x3 I J = some t) (hC : (c_X7_grow Q) t) : Rn L xs (d + r + 3) 90 66 [some (.ref 43), some (.int x1), some (.int x2), some (.int x3), none] [] 94 (I, J, xrf) Q := by
  unfold f_X7_grow_5 at h
  refine Rn.go 2 (j' := 90) (pc' := 69) (ls' := [some (.ref 43), some (.int x1), some (.int x2), some (.int x3), some (.int 0)]) (st' := []) (n' := 94) (M' := (I, J, xrf)) (fun f => rfl) ?_
  exact p_X7_grow_6 hself x1 x2 x3 0 I J h hC
theorem p_X7_grow_4 {L : Nat} {xs : Nat → Int32} {d r : Nat} {Q : xO → Prop} {self : Int32 → Int32 → Int32 → xI → xJ → Option (Unit × xI × xJ)} (hself : ∀ (a1 : Int32) (a2 : Int32) (a3 : Int32) (I : xI) (J : xJ) (o : Unit × xI × xJ), self a1 a2 a3 I J = some o → ∀ Q : xO → Prop, Q (none, 94, (o.2.1, o.2.2, xrf)) → Rn L xs (d + r + 2) 90 0 [some (.ref 43), some (.int a1), some (.int a2), some (.int a3), none] [] 94 (I, J, xrf) Q) (x1 : Int32) (x2 : Int32) (x3 : Int32) (I : xI) (J : xJ) {t : Unit × xI × xJ} (h : f_X7_grow_4 self x1 x2 x3 I J = some t) (hC : (c_X7_grow Q) t) : Rn L xs (d + r + 3) 90 65 [some (.ref 43), some (.int x1), some (.int x2), some (.int x3), none] [] 94 (I, J, xrf) Q := by
  unfold f_X7_grow_4 at h
  cases h
  exact Rn.ret 1 (o := (none, 94, (I, J, xrf))) (fun f => rfl) hC
theorem p_X7_grow_3 {L : Nat} {xs : Nat → Int32} {d r : Nat} {Q : xO → Prop} {self : Int32 → Int32 → Int32 → xI → xJ → Option (Unit × xI × xJ)} (hself : ∀ (a1 : Int32) (a2 : Int32) (a3 : Int32) (I : xI) (J : xJ) (o : Unit × xI × xJ), self a1 a2 a3 I J = some o → ∀ Q : xO → Prop, Q (none, 94, (o.2.1, o.2.2, xrf)) → Rn L xs (d + r + 2) 90 0 [some (.ref 43), some (.int a1), some (.int a2), some (.int a3), none] [] 94 (I, J, xrf) Q) (x1 : Int32) (x2 : Int32) (x3 : Int32) (s1 : Int32) (s2 : Int32) (I : xI) (J : xJ) {t : Unit × xI × xJ} (h : f_X7_grow_3 self x1 x2 x3 s1 s2 I J = some t) (hC : (c_X7_grow Q) t) : Rn L xs (d + r + 3) 90 54 [some (.ref 43), some (.int x1), some (.int x2), some (.int x3), none] [.int s2, .int s1, .ref 45] 94 (I, J, xrf) Q := by
  unfold f_X7_grow_3 at h
  obtain ⟨hc, h⟩ := xif h
  refine Rn.ok 1 (c := s1 < 0 ∨ 203 ≤ s1.toNatClampNeg) (p1 := 55) (l1 := [some (.ref 43), some (.int x1), some (.int x2), some (.int x3), none]) (s1 := []) (n1 := 94) (M1 := ((xup I 45 s1.toNatClampNeg s2), J, xrf)) (fun f => rfl) hc ?_
  refine Rn.go 6 (j' := 90) (pc' := 65) (ls' := [some (.ref 43), some (.int x1), some (.int x2), some (.int x3), none]) (st' := []) (n' := 94) (M' := ((xup ((xup I 45 s1.toNatClampNeg s2)) 43 5 (((((xup I 45 s1.toNatClampNeg s2)) 43 5) + 1))), J, xrf)) (fun f => rfl) ?_
  exact p_X7_grow_4 hself x1 x2 x3 ((xup ((xup I 45 s1.toNatClampNeg s2)) 43 5 (((((xup I 45 s1.toNatClampNeg s2)) 43 5) + 1)))) J h hC
theorem p_X7_grow_2 {L : Nat} {xs : Nat → Int32} {d r : Nat} {Q : xO → Prop} {self : Int32 → Int32 → Int32 → xI → xJ → Option (Unit × xI × xJ)} (hself : ∀ (a1 : Int32) (a2 : Int32) (a3 : Int32) (I : xI) (J : xJ) (o : Unit × xI × xJ), self a1 a2 a3 I J = some o → ∀ Q : xO → Prop, Q (none, 94, (o.2.1, o.2.2, xrf)) → Rn L xs (d + r + 2) 90 0 [some (.ref 43), some (.int a1), some (.int a2), some (.int a3), none] [] 94 (I, J, xrf) Q) (x1 : Int32) (x2 : Int32) (x3 : Int32) (I : xI) (J : xJ) {t : Unit × xI × xJ} (h : f_X7_grow_2 self x1 x2 x3 I J = some t) (hC : (c_X7_grow Q) t) : Rn L xs (d + r + 3) 90 18 [some (.ref 43), some (.int x1), some (.int x2), some (.int x3), none] [] 94 (I, J, xrf) Q := by
  unfold f_X7_grow_2 at h
  obtain ⟨hc, h⟩ := xif h
  refine Rn.ok 6 (c := (I 43 5) < 0 ∨ 203 ≤ ((I 43 5)).toNatClampNeg) (p1 := 28) (l1 := [some (.ref 43), some (.int x1), some (.int x2), some (.int x3), none]) (s1 := []) (n1 := 94) (M1 := ((xup I 44 ((I 43 5)).toNatClampNeg x2), J, xrf)) (fun f => rfl) hc ?_
  obtain ⟨hc, h⟩ := xif h
  refine Rn.ok 6 (c := (((xup I 44 ((I 43 5)).toNatClampNeg x2)) 43 5) < 0 ∨ 203 ≤ ((((xup I 44 ((I 43 5)).toNatClampNeg x2)) 43 5)).toNatClampNeg) (p1 := 38) (l1 := [some (.ref 43), some (.int x1), some (.int x2), some (.int x3), none]) (s1 := []) (n1 := 94) (M1 := ((xup ((xup I 44 ((I 43 5)).toNatClampNeg x2)) 46 ((((xup I 44 ((I 43 5)).toNatClampNeg x2)) 43 5)).toNatClampNeg x3), J, xrf)) (fun f => rfl) hc ?_
  refine Rn.go 7 (j' := 90) (pc' := 51) (ls' := [some (.ref 43), some (.int x1), some (.int x2), some (.int x3), none]) (st' := [.int ((((xup ((xup I 44 ((I 43 5)).toNatClampNeg x2)) 46 ((((xup I 44 ((I 43 5)).toNatClampNeg x2)) 43 5)).toNatClampNeg x3)) 43 5)), .ref 43, .int ((((xup ((xup I 44 ((I 43 5)).toNatClampNeg x2)) 46 ((((xup I 44 ((I 43 5)).toNatClampNeg x2)) 43 5)).toNatClampNeg x3)) 43 5)), .ref 45]) (n' := 94) (M' := ((xup ((xup I 44 ((I 43 5)).toNatClampNeg x2)) 46 ((((xup I 44 ((I 43 5)).toNatClampNeg x2)) 43 5)).toNatClampNeg x3), J, xrf)) (fun f => rfl) ?_
  obtain ⟨o, ho, h⟩ := Option.bind_eq_some_iff.mp h
  refine Rn.call (d1 := d + r + 2) (j1 := 91) (ls1 := [some (.ref 43), some (.int ((((xup ((xup I 44 ((I 43 5)).toNatClampNeg x2)) 46 ((((xup I 44 ((I 43 5)).toNatClampNeg x2)) 43 5)).toNatClampNeg x3)) 43 5))), none, none, none]) (rest := [.int ((((xup ((xup I 44 ((I 43 5)).toNatClampNeg x2)) 46 ((((xup I 44 ((I 43 5)).toNatClampNeg x2)) 43 5)).toNatClampNeg x3)) 43 5)), .ref 45]) (fun f => rfl) ?_
  refine p_X7_joinsOf (d := d + r + 0) ((((xup ((xup I 44 ((I 43 5)).toNatClampNeg x2)) 46 ((((xup I 44 ((I 43 5)).toNatClampNeg x2)) 43 5)).toNatClampNeg x3)) 43 5)) ((xup ((xup I 44 ((I 43 5)).toNatClampNeg x2)) 46 ((((xup I 44 ((I 43 5)).toNatClampNeg x2)) 43 5)).toNatClampNeg x3)) J (t := o) ho ?_
  exact p_X7_grow_3 hself x1 x2 x3 ((((xup ((xup I 44 ((I 43 5)).toNatClampNeg x2)) 46 ((((xup I 44 ((I 43 5)).toNatClampNeg x2)) 43 5)).toNatClampNeg x3)) 43 5)) o.1 o.2.1 o.2.2 h hC
theorem p_X7_grow_1 {L : Nat} {xs : Nat → Int32} {d r : Nat} {Q : xO → Prop} {self : Int32 → Int32 → Int32 → xI → xJ → Option (Unit × xI × xJ)} (hself : ∀ (a1 : Int32) (a2 : Int32) (a3 : Int32) (I : xI) (J : xJ) (o : Unit × xI × xJ), self a1 a2 a3 I J = some o → ∀ Q : xO → Prop, Q (none, 94, (o.2.1, o.2.2, xrf)) → Rn L xs (d + r + 2) 90 0 [some (.ref 43), some (.int a1), some (.int a2), some (.int a3), none] [] 94 (I, J, xrf) Q) (x1 : Int32) (x2 : Int32) (x3 : Int32) (I : xI) (J : xJ) {t : Unit × xI × xJ} (h : f_X7_grow_1 self x1 x2 x3 I J = some t) (hC : (c_X7_grow Q) t) : Rn L xs (d + r + 3) 90 8 [some (.ref 43), some (.int x1), some (.int x2), some (.int x3), none] [] 94 (I, J, xrf) Q := by
  unfold f_X7_grow_1 at h
  refine Rn.fi 4 (c := 203 ≤ (I 43 5)) (p1 := 65) (l1 := [some (.ref 43), some (.int x1), some (.int x2), some (.int x3), none]) (s1 := []) (n1 := 94) (M1 := (I, J, xrf)) (p2 := 18) (l2 := [some (.ref 43), some (.int x1), some (.int x2), some (.int x3), none]) (s2 := []) (n2 := 94) (M2 := (I, J, xrf)) (fun f => rfl) (fun hc => ?_) (fun hc => ?_)
  · rw [if_pos hc] at h
    exact p_X7_grow_4 hself x1 x2 x3 I J h hC
  · rw [if_neg hc] at h
    exact p_X7_grow_2 hself x1 x2 x3 I J h hC
theorem p_X7_grow_0 {L : Nat} {xs : Nat → Int32} {d r : Nat} {Q : xO → Prop} {self : Int32 → Int32 → Int32 → xI → xJ → Option (Unit × xI × xJ)} (hself : ∀ (a1 : Int32) (a2 : Int32) (a3 : Int32) (I : xI) (J : xJ) (o : Unit × xI × xJ), self a1 a2 a3 I J = some o → ∀ Q : xO → Prop, Q (none, 94, (o.2.1, o.2.2, xrf)) → Rn L xs (d + r + 2) 90 0 [some (.ref 43), some (.int a1), some (.int a2), some (.int a3), none] [] 94 (I, J, xrf) Q) (x1 : Int32) (x2 : Int32) (x3 : Int32) (I : xI) (J : xJ) {t : Unit × xI × xJ} (h : f_X7_grow_0 self x1 x2 x3 I J = some t) (hC : (c_X7_grow Q) t) : Rn L xs (d + r + 3) 90 0 [some (.ref 43), some (.int x1), some (.int x2), some (.int x3), none] [] 94 (I, J, xrf) Q := by
  unfold f_X7_grow_0 at h
  refine Rn.fi 4 (c := x1 < (I 43 6)) (p1 := 66) (l1 := [some (.ref 43), some (.int x1), some (.int x2), some (.int x3), none]) (s1 := []) (n1 := 94) (M1 := (I, J, xrf)) (p2 := 8) (l2 := [some (.ref 43), some (.int x1), some (.int x2), some (.int x3), none]) (s2 := []) (n2 := 94) (M2 := (I, J, xrf)) (fun f => rfl) (fun hc => ?_) (fun hc => ?_)
  · rw [if_pos hc] at h
    exact p_X7_grow_5 hself x1 x2 x3 I J h hC
  · rw [if_neg hc] at h
    exact p_X7_grow_1 hself x1 x2 x3 I J h hC
theorem p_X7_grow {L : Nat} {xs : Nat → Int32} {d : Nat} {Q : xO → Prop} (r : Nat) (x1 : Int32) (x2 : Int32) (x3 : Int32) (I : xI) (J : xJ) {t : Unit × xI × xJ} (h : f_X7_grow r x1 x2 x3 I J = some t) (hC : Q (none, 94, (t.2.1, t.2.2, xrf))) : Rn L xs (d + r + 3) 90 0 [some (.ref 43), some (.int x1), some (.int x2), some (.int x3), none] [] 94 (I, J, xrf) Q := by
  induction r generalizing Q t x1 x2 x3 I J with
  | zero => exact absurd h (by simp [f_X7_grow])
  | succ r ih =>
    have q := p_X7_grow_0 (L := L) (xs := xs) (Q := Q) (d := d + 1) (r := r) (self := f_X7_grow r) (fun a1 a2 a3 I J o ho Q hQ => by have := ih a1 a2 a3 I J ho hQ; rw [show d + 1 + r + 2 = d + r + 3 by omega]; exact this) x1 x2 x3 I J h hC
    rw [show d + 1 + r + 3 = d + (r + 1) + 3 by omega] at q
    exact q
/-! X6_followed -/
def c_X6_followed (Q : xO → Prop) (t : Int32 × xI × xJ) : Prop := Q ((some (.int t.1)), 94, (t.2.1, t.2.2, xrf))
def c_X6_followed_1 (L : Nat) (xs : Nat → Int32) (d : Nat) (Q : xO → Prop) (t : (Int32 × Int32 × Int32 × xI × xJ) ⊕ (Int32 × xI × xJ)) : Prop := match t with
  | .inl s => Rn L xs (d + 1) 78 4 [some (.ref 32), some (.int s.1), some (.int s.2.1), some (.int s.2.2.1)] [] 94 (s.2.2.2.1, s.2.2.2.2, xrf) Q
  | .inr t => (c_X6_followed Q) t
def f_X6_followed_5 (x1 : Int32) (x2 : Int32) (x3 : Int32) (I : xI) (J : xJ) : Option (Int32 × xI × xJ) := some (x2, I, J)
def f_X6_followed_4 (x1 : Int32) (x2 : Int32) (x3 : Int32) (I : xI) (J : xJ) : Option ((Int32 × Int32 × Int32 × xI × xJ) ⊕ (Int32 × xI × xJ)) := some (.inl (x1, x2, ((x3 + 1)), I, J))
def f_X6_followed_3 (x1 : Int32) (x2 : Int32) (x3 : Int32) (I : xI) (J : xJ) : Option ((Int32 × Int32 × Int32 × xI × xJ) ⊕ (Int32 × xI × xJ)) := if x3 < 0 ∨ 15 ≤ x3.toNatClampNeg then none else f_X6_followed_4 x1 ((x2 ||| (I 33 x3.toNatClampNeg))) x3 I J
def f_X6_followed_2 (x1 : Int32) (x2 : Int32) (x3 : Int32) (I : xI) (J : xJ) : Option ((Int32 × Int32 × Int32 × xI × xJ) ⊕ (Int32 × xI × xJ)) := if ((x1 >>> (x3 &&& 31)) &&& 1) = 1 then f_X6_followed_3 x1 x2 x3 I J else f_X6_followed_4 x1 x2 x3 I J
def b_X6_followed_1 (x1 : Int32) (x2 : Int32) (x3 : Int32) (I : xI) (J : xJ) : Option ((Int32 × Int32 × Int32 × xI × xJ) ⊕ (Int32 × xI × xJ)) := if 15 ≤ x3 then ((f_X6_followed_5 x1 x2 x3 I J)).map .inr else f_X6_followed_2 x1 x2 x3 I J
def f_X6_followed_1 (x1 : Int32) (x2 : Int32) (x3 : Int32) (I : xI) (J : xJ) : Option (Int32 × xI × xJ) := xloop (fun s : Int32 × Int32 × Int32 × xI × xJ => b_X6_followed_1 s.1 s.2.1 s.2.2.1 s.2.2.2.1 s.2.2.2.2) 5000 (x1, x2, x3, I, J)
def f_X6_followed_0 (x1 : Int32) (I : xI) (J : xJ) : Option (Int32 × xI × xJ) := f_X6_followed_1 x1 0 0 I J
def f_X6_followed (x1 : Int32) (I : xI) (J : xJ) : Option (Int32 × xI × xJ) := f_X6_followed_0 x1 I J
theorem p_X6_followed_5 {L : Nat} {xs : Nat → Int32} {d : Nat} {Q : xO → Prop} (x1 : Int32) (x2 : Int32) (x3 : Int32) (I : xI) (J : xJ) {t : Int32 × xI × xJ} (h : f_X6_followed_5 x1 x2 x3 I J = some t) (hC : (c_X6_followed Q) t) : Rn L xs (d + 1) 78 34 [some (.ref 32), some (.int x1), some (.int x2), some (.int x3)] [] 94 (I, J, xrf) Q := by
  unfold f_X6_followed_5 at h
  cases h
  exact Rn.ret 2 (o := ((some (.int x2)), 94, (I, J, xrf))) (fun f => rfl) hC
theorem p_X6_followed_4 {L : Nat} {xs : Nat → Int32} {d : Nat} {Q : xO → Prop} (x1 : Int32) (x2 : Int32) (x3 : Int32) (I : xI) (J : xJ) {t : (Int32 × Int32 × Int32 × xI × xJ) ⊕ (Int32 × xI × xJ)} (h : f_X6_followed_4 x1 x2 x3 I J = some t) (hC : (c_X6_followed_1 L xs d Q) t) : Rn L xs (d + 1) 78 28 [some (.ref 32), some (.int x1), some (.int x2), some (.int x3)] [] 94 (I, J, xrf) Q := by
  unfold f_X6_followed_4 at h
  refine Rn.go 2 (j' := 78) (pc' := 4) (ls' := [some (.ref 32), some (.int x1), some (.int x2), some (.int ((x3 + 1)))]) (st' := []) (n' := 94) (M' := (I, J, xrf)) (fun f => rfl) ?_
  cases h; exact hC
theorem p_X6_followed_3 {L : Nat} {xs : Nat → Int32} {d : Nat} {Q : xO → Prop} (x1 : Int32) (x2 : Int32) (x3 : Int32) (I : xI) (J : xJ) {t : (Int32 × Int32 × Int32 × xI × xJ) ⊕ (Int32 × xI × xJ)} (h : f_X6_followed_3 x1 x2 x3 I J = some t) (hC : (c_X6_followed_1 L xs d Q) t) : Rn L xs (d + 1) 78 19 [some (.ref 32), some (.int x1), some (.int x2), some (.int x3)] [] 94 (I, J, xrf) Q := by
  unfold f_X6_followed_3 at h
  obtain ⟨hc, h⟩ := xif h
  refine Rn.ok 5 (c := x3 < 0 ∨ 15 ≤ x3.toNatClampNeg) (p1 := 26) (l1 := [some (.ref 32), some (.int x1), some (.int x2), some (.int x3)]) (s1 := [.int ((I 33 x3.toNatClampNeg)), .int x2]) (n1 := 94) (M1 := (I, J, xrf)) (fun f => rfl) hc ?_
  refine Rn.go 2 (j' := 78) (pc' := 28) (ls' := [some (.ref 32), some (.int x1), some (.int ((x2 ||| (I 33 x3.toNatClampNeg)))), some (.int x3)]) (st' := []) (n' := 94) (M' := (I, J, xrf)) (fun f => rfl) ?_
  exact p_X6_followed_4 x1 ((x2 ||| (I 33 x3.toNatClampNeg))) x3 I J h hC
theorem p_X6_followed_2 {L : Nat} {xs : Nat → Int32} {d : Nat} {Q : xO → Prop} (x1 : Int32) (x2 : Int32) (x3 : Int32) (I : xI) (J : xJ) {t : (Int32 × Int32 × Int32 × xI × xJ) ⊕ (Int32 × xI × xJ)} (h : f_X6_followed_2 x1 x2 x3 I J = some t) (hC : (c_X6_followed_1 L xs d Q) t) : Rn L xs (d + 1) 78 10 [some (.ref 32), some (.int x1), some (.int x2), some (.int x3)] [] 94 (I, J, xrf) Q := by
  unfold f_X6_followed_2 at h
  refine Rn.fi 7 (c := ((x1 >>> (x3 &&& 31)) &&& 1) = 1) (p1 := 19) (l1 := [some (.ref 32), some (.int x1), some (.int x2), some (.int x3)]) (s1 := []) (n1 := 94) (M1 := (I, J, xrf)) (p2 := 28) (l2 := [some (.ref 32), some (.int x1), some (.int x2), some (.int x3)]) (s2 := []) (n2 := 94) (M2 := (I, J, xrf)) (fun f => rfl) (fun hc => ?_) (fun hc => ?_)
  · rw [if_pos hc] at h
    exact p_X6_followed_3 x1 x2 x3 I J h hC
  · rw [if_neg hc] at h
    exact p_X6_followed_4 x1 x2 x3 I J h hC
theorem q_X6_followed_1 {L : Nat} {xs : Nat → Int32} {d : Nat} {Q : xO → Prop} (x1 : Int32) (x2 : Int32) (x3 : Int32) (I : xI) (J : xJ) {t : (Int32 × Int32 × Int32 × xI × xJ) ⊕ (Int32 × xI × xJ)} (h : b_X6_followed_1 x1 x2 x3 I J = some t) (hC : (c_X6_followed_1 L xs d Q) t) : Rn L xs (d + 1) 78 4 [some (.ref 32), some (.int x1), some (.int x2), some (.int x3)] [] 94 (I, J, xrf) Q := by
  unfold b_X6_followed_1 at h
  refine Rn.fi 3 (c := 15 ≤ x3) (p1 := 34) (l1 := [some (.ref 32), some (.int x1), some (.int x2), some (.int x3)]) (s1 := []) (n1 := 94) (M1 := (I, J, xrf)) (p2 := 10) (l2 := [some (.ref 32), some (.int x1), some (.int x2), some (.int x3)]) (s2 := []) (n2 := 94) (M2 := (I, J, xrf)) (fun f => rfl) (fun hc => ?_) (fun hc => ?_)
  · rw [if_pos hc] at h
    obtain ⟨t0, h0, rfl⟩ := Option.map_eq_some_iff.mp h
    exact p_X6_followed_5 x1 x2 x3 I J h0 hC
  · rw [if_neg hc] at h
    exact p_X6_followed_2 x1 x2 x3 I J h hC
theorem p_X6_followed_1 {L : Nat} {xs : Nat → Int32} {d : Nat} {Q : xO → Prop} (x1 : Int32) (x2 : Int32) (x3 : Int32) (I : xI) (J : xJ) {t : Int32 × xI × xJ} (h : f_X6_followed_1 x1 x2 x3 I J = some t) (hC : (c_X6_followed Q) t) : Rn L xs (d + 1) 78 4 [some (.ref 32), some (.int x1), some (.int x2), some (.int x3)] [] 94 (I, J, xrf) Q := by
  unfold f_X6_followed_1 at h
  exact xloop_some (P := fun s : Int32 × Int32 × Int32 × xI × xJ => Rn L xs (d + 1) 78 4 [some (.ref 32), some (.int s.1), some (.int s.2.1), some (.int s.2.2.1)] [] 94 (s.2.2.2.1, s.2.2.2.2, xrf) Q) t (fun s ⟨s', hb, hp⟩ => q_X6_followed_1 s.1 s.2.1 s.2.2.1 s.2.2.2.1 s.2.2.2.2 hb hp) (fun s hb => q_X6_followed_1 s.1 s.2.1 s.2.2.1 s.2.2.2.1 s.2.2.2.2 hb hC) _ _ h
theorem p_X6_followed_0 {L : Nat} {xs : Nat → Int32} {d : Nat} {Q : xO → Prop} (x1 : Int32) (I : xI) (J : xJ) {t : Int32 × xI × xJ} (h : f_X6_followed_0 x1 I J = some t) (hC : (c_X6_followed Q) t) : Rn L xs (d + 1) 78 0 [some (.ref 32), some (.int x1), none, none] [] 94 (I, J, xrf) Q := by
  unfold f_X6_followed_0 at h
  refine Rn.go 4 (j' := 78) (pc' := 4) (ls' := [some (.ref 32), some (.int x1), some (.int 0), some (.int 0)]) (st' := []) (n' := 94) (M' := (I, J, xrf)) (fun f => rfl) ?_
  exact p_X6_followed_1 x1 0 0 I J h hC
theorem p_X6_followed {L : Nat} {xs : Nat → Int32} {d : Nat} {Q : xO → Prop} (x1 : Int32) (I : xI) (J : xJ) {t : Int32 × xI × xJ} (h : f_X6_followed x1 I J = some t) (hC : Q ((some (.int t.1)), 94, (t.2.1, t.2.2, xrf))) : Rn L xs (d + 1) 78 0 [some (.ref 32), some (.int x1), none, none] [] 94 (I, J, xrf) Q := p_X6_followed_0 x1 I J h hC
/-! X7_stays -/
def c_X7_stays (Q : xO → Prop) (t : Int32 × xI × xJ) : Prop := Q ((some (.int t.1)), 94, (t.2.1, t.2.2, xrf))
def f_X7_stays_4 (x1 : Int32) (s0 : Int32) (I : xI) (J : xJ) : Option (Int32 × xI × xJ) := if s0 = 0 ∨ s0 = 1 then some (s0, I, J) else none
def f_X7_stays_3 (x1 : Int32) (I : xI) (J : xJ) : Option (Int32 × xI × xJ) := f_X7_stays_4 x1 0 I J
def f_X7_stays_2 (x1 : Int32) (I : xI) (J : xJ) : Option (Int32 × xI × xJ) := f_X7_stays_4 x1 1 I J
def f_X7_stays_1 (x1 : Int32) (s0 : Int32) (I : xI) (J : xJ) : Option (Int32 × xI × xJ) := if x1 < 0 ∨ 203 ≤ x1.toNatClampNeg then none else if (s0 &&& ((I 45 x1.toNatClampNeg) ^^^ (-1))) = 0 then f_X7_stays_2 x1 I J else f_X7_stays_3 x1 I J
def f_X7_stays_0 (x1 : Int32) (I : xI) (J : xJ) : Option (Int32 × xI × xJ) := if x1 < 0 ∨ 203 ≤ x1.toNatClampNeg then none else (f_X6_followed ((I 45 x1.toNatClampNeg)) I J).bind fun o => f_X7_stays_1 x1 o.1 o.2.1 o.2.2
def f_X7_stays (x1 : Int32) (I : xI) (J : xJ) : Option (Int32 × xI × xJ) := f_X7_stays_0 x1 I J
theorem p_X7_stays_4 {L : Nat} {xs : Nat → Int32} {d : Nat} {Q : xO → Prop} (x1 : Int32) (s0 : Int32) (I : xI) (J : xJ) {t : Int32 × xI × xJ} (h : f_X7_stays_4 x1 s0 I J = some t) (hC : (c_X7_stays Q) t) : Rn L xs (d + 2) 95 30 [some (.ref 43), some (.int x1)] [.int s0] 94 (I, J, xrf) Q := by
  unfold f_X7_stays_4 at h
  obtain ⟨hc, h⟩ := xifT h
  cases h
  exact Rn.retT 1 (c := s0 = 0 ∨ s0 = 1) (o := ((some (.int s0)), 94, (I, J, xrf))) (fun f => rfl) hc hC
theorem p_X7_stays_3 {L : Nat} {xs : Nat → Int32} {d : Nat} {Q : xO → Prop} (x1 : Int32) (I : xI) (J : xJ) {t : Int32 × xI × xJ} (h : f_X7_stays_3 x1 I J = some t) (hC : (c_X7_stays Q) t) : Rn L xs (d + 2) 95 29 [some (.ref 43), some (.int x1)] [] 94 (I, J, xrf) Q := by
  unfold f_X7_stays_3 at h
  refine Rn.go 1 (j' := 95) (pc' := 30) (ls' := [some (.ref 43), some (.int x1)]) (st' := [.int 0]) (n' := 94) (M' := (I, J, xrf)) (fun f => rfl) ?_
  exact p_X7_stays_4 x1 0 I J h hC
theorem p_X7_stays_2 {L : Nat} {xs : Nat → Int32} {d : Nat} {Q : xO → Prop} (x1 : Int32) (I : xI) (J : xJ) {t : Int32 × xI × xJ} (h : f_X7_stays_2 x1 I J = some t) (hC : (c_X7_stays Q) t) : Rn L xs (d + 2) 95 25 [some (.ref 43), some (.int x1)] [] 94 (I, J, xrf) Q := by
  unfold f_X7_stays_2 at h
  refine Rn.go 2 (j' := 95) (pc' := 30) (ls' := [some (.ref 43), some (.int x1)]) (st' := [.int 1]) (n' := 94) (M' := (I, J, xrf)) (fun f => rfl) ?_
  exact p_X7_stays_4 x1 1 I J h hC
theorem p_X7_stays_1 {L : Nat} {xs : Nat → Int32} {d : Nat} {Q : xO → Prop} (x1 : Int32) (s0 : Int32) (I : xI) (J : xJ) {t : Int32 × xI × xJ} (h : f_X7_stays_1 x1 s0 I J = some t) (hC : (c_X7_stays Q) t) : Rn L xs (d + 2) 95 13 [some (.ref 43), some (.int x1)] [.int s0] 94 (I, J, xrf) Q := by
  unfold f_X7_stays_1 at h
  obtain ⟨hc, h⟩ := xif h
  refine Rn.ok 4 (c := x1 < 0 ∨ 203 ≤ x1.toNatClampNeg) (p1 := 19) (l1 := [some (.ref 43), some (.int x1)]) (s1 := [.int ((I 45 x1.toNatClampNeg)), .int s0]) (n1 := 94) (M1 := (I, J, xrf)) (fun f => rfl) hc ?_
  refine Rn.fi 4 (c := (s0 &&& ((I 45 x1.toNatClampNeg) ^^^ (-1))) = 0) (p1 := 25) (l1 := [some (.ref 43), some (.int x1)]) (s1 := []) (n1 := 94) (M1 := (I, J, xrf)) (p2 := 29) (l2 := [some (.ref 43), some (.int x1)]) (s2 := []) (n2 := 94) (M2 := (I, J, xrf)) (fun f => rfl) (fun hc => ?_) (fun hc => ?_)
  · rw [if_pos hc] at h
    exact p_X7_stays_2 x1 I J h hC
  · rw [if_neg hc] at h
    exact p_X7_stays_3 x1 I J h hC
theorem p_X7_stays_0 {L : Nat} {xs : Nat → Int32} {d : Nat} {Q : xO → Prop} (x1 : Int32) (I : xI) (J : xJ) {t : Int32 × xI × xJ} (h : f_X7_stays_0 x1 I J = some t) (hC : (c_X7_stays Q) t) : Rn L xs (d + 2) 95 0 [some (.ref 43), some (.int x1)] [] 94 (I, J, xrf) Q := by
  unfold f_X7_stays_0 at h
  obtain ⟨hc, h⟩ := xif h
  refine Rn.ok 6 (c := x1 < 0 ∨ 203 ≤ x1.toNatClampNeg) (p1 := 10) (l1 := [some (.ref 43), some (.int x1)]) (s1 := [.int ((I 45 x1.toNatClampNeg)), .ref 32]) (n1 := 94) (M1 := (I, J, xrf)) (fun f => rfl) hc ?_
  obtain ⟨o, ho, h⟩ := Option.bind_eq_some_iff.mp h
  refine Rn.call (d1 := d + 1) (j1 := 78) (ls1 := [some (.ref 32), some (.int ((I 45 x1.toNatClampNeg))), none, none]) (rest := []) (fun f => rfl) ?_
  refine p_X6_followed (d := d + 0) ((I 45 x1.toNatClampNeg)) I J (t := o) ho ?_
  exact p_X7_stays_1 x1 o.1 o.2.1 o.2.2 h hC
theorem p_X7_stays {L : Nat} {xs : Nat → Int32} {d : Nat} {Q : xO → Prop} (x1 : Int32) (I : xI) (J : xJ) {t : Int32 × xI × xJ} (h : f_X7_stays x1 I J = some t) (hC : Q ((some (.int t.1)), 94, (t.2.1, t.2.2, xrf))) : Rn L xs (d + 2) 95 0 [some (.ref 43), some (.int x1)] [] 94 (I, J, xrf) Q := p_X7_stays_0 x1 I J h hC
/-! X7_refresh -/
def c_X7_refresh (Q : xO → Prop) (t : Unit × xI × xJ) : Prop := Q (none, 94, (t.2.1, t.2.2, xrf))
def c_X7_refresh_6 (L : Nat) (xs : Nat → Int32) (d : Nat) (Q : xO → Prop) (t : (Int32 × xI × xJ) ⊕ (Unit × xI × xJ)) : Prop := match t with
  | .inl s => Rn L xs (d + 16) 89 77 [some (.ref 43), some (.int s.1)] [] 94 (s.2.1, s.2.2, xrf) Q
  | .inr t => (c_X7_refresh Q) t
def f_X7_refresh_11 (x1 : Int32) (I : xI) (J : xJ) : Option (Unit × xI × xJ) := some ((), I, J)
def f_X7_refresh_10 (x1 : Int32) (I : xI) (J : xJ) : Option ((Int32 × xI × xJ) ⊕ (Unit × xI × xJ)) := some (.inl (((x1 + 1)), I, J))
def f_X7_refresh_9 (x1 : Int32) (I : xI) (J : xJ) : Option ((Int32 × xI × xJ) ⊕ (Unit × xI × xJ)) := if (I 43 8) < 0 ∨ 203 ≤ ((I 43 8)).toNatClampNeg then none else f_X7_refresh_10 x1 ((xup ((xup I 47 ((I 43 8)).toNatClampNeg x1)) 43 8 (((((xup I 47 ((I 43 8)).toNatClampNeg x1)) 43 8) + 1)))) J
def f_X7_refresh_8 (x1 : Int32) (s0 : Int32) (I : xI) (J : xJ) : Option ((Int32 × xI × xJ) ⊕ (Unit × xI × xJ)) := if s0 = 0 then f_X7_refresh_10 x1 I J else f_X7_refresh_9 x1 I J
def f_X7_refresh_7 (x1 : Int32) (I : xI) (J : xJ) : Option ((Int32 × xI × xJ) ⊕ (Unit × xI × xJ)) := (f_X7_stays x1 I J).bind fun o => f_X7_refresh_8 x1 o.1 o.2.1 o.2.2
def b_X7_refresh_6 (x1 : Int32) (I : xI) (J : xJ) : Option ((Int32 × xI × xJ) ⊕ (Unit × xI × xJ)) := if (I 43 5) ≤ x1 then ((f_X7_refresh_11 x1 I J)).map .inr else f_X7_refresh_7 x1 I J
def f_X7_refresh_6 (x1 : Int32) (I : xI) (J : xJ) : Option (Unit × xI × xJ) := xloop (fun s : Int32 × xI × xJ => b_X7_refresh_6 s.1 s.2.1 s.2.2) 5000 (x1, I, J)
def f_X7_refresh_5 (I : xI) (J : xJ) : Option (Unit × xI × xJ) := f_X7_refresh_6 0 ((xup I 43 8 0)) J
def f_X7_refresh_4 (I : xI) (J : xJ) : Option (Unit × xI × xJ) := (f_X7_grow 12 0 0 0 I J).bind fun o => f_X7_refresh_5 o.2.1 o.2.2
def f_X7_refresh_3 (I : xI) (J : xJ) : Option (Unit × xI × xJ) := if (((xup ((xup I 43 6 ((I 1 0)))) 43 5 0)) 43 6) ≤ 0 then f_X7_refresh_5 ((xup ((xup I 43 6 ((I 1 0)))) 43 5 0)) J else f_X7_refresh_4 ((xup ((xup I 43 6 ((I 1 0)))) 43 5 0)) J
def f_X7_refresh_2 (I : xI) (J : xJ) : Option (Unit × xI × xJ) := if (((xup I 43 9 ((I 1 2)))) 43 6) = (((xup I 43 9 ((I 1 2)))) 1 0) then f_X7_refresh_5 ((xup I 43 9 ((I 1 2)))) J else f_X7_refresh_3 ((xup I 43 9 ((I 1 2)))) J
def f_X7_refresh_1 (I : xI) (J : xJ) : Option (Unit × xI × xJ) := some ((), I, J)
def f_X7_refresh_0 (I : xI) (J : xJ) : Option (Unit × xI × xJ) := if (I 43 9) = (I 1 2) then f_X7_refresh_1 I J else f_X7_refresh_2 I J
def f_X7_refresh (I : xI) (J : xJ) : Option (Unit × xI × xJ) := f_X7_refresh_0 I J
theorem p_X7_refresh_11 {L : Nat} {xs : Nat → Int32} {d : Nat} {Q : xO → Prop} (x1 : Int32) (I : xI) (J : xJ) {t : Unit × xI × xJ} (h : f_X7_refresh_11 x1 I J = some t) (hC : (c_X7_refresh Q) t) : Rn L xs (d + 16) 89 119 [some (.ref 43), some (.int x1)] [] 94 (I, J, xrf) Q := by
  unfold f_X7_refresh_11 at h
  cases h
  exact Rn.ret 1 (o := (none, 94, (I, J, xrf))) (fun f => rfl) hC
theorem p_X7_refresh_10 {L : Nat} {xs : Nat → Int32} {d : Nat} {Q : xO → Prop} (x1 : Int32) (I : xI) (J : xJ) {t : (Int32 × xI × xJ) ⊕ (Unit × xI × xJ)} (h : f_X7_refresh_10 x1 I J = some t) (hC : (c_X7_refresh_6 L xs d Q) t) : Rn L xs (d + 16) 89 113 [some (.ref 43), some (.int x1)] [] 94 (I, J, xrf) Q := by
  unfold f_X7_refresh_10 at h
  refine Rn.go 2 (j' := 89) (pc' := 77) (ls' := [some (.ref 43), some (.int ((x1 + 1)))]) (st' := []) (n' := 94) (M' := (I, J, xrf)) (fun f => rfl) ?_
  cases h; exact hC
theorem p_X7_refresh_9 {L : Nat} {xs : Nat → Int32} {d : Nat} {Q : xO → Prop} (x1 : Int32) (I : xI) (J : xJ) {t : (Int32 × xI × xJ) ⊕ (Unit × xI × xJ)} (h : f_X7_refresh_9 x1 I J = some t) (hC : (c_X7_refresh_6 L xs d Q) t) : Rn L xs (d + 16) 89 93 [some (.ref 43), some (.int x1)] [] 94 (I, J, xrf) Q := by
  unfold f_X7_refresh_9 at h
  obtain ⟨hc, h⟩ := xif h
  refine Rn.ok 6 (c := (I 43 8) < 0 ∨ 203 ≤ ((I 43 8)).toNatClampNeg) (p1 := 103) (l1 := [some (.ref 43), some (.int x1)]) (s1 := []) (n1 := 94) (M1 := ((xup I 47 ((I 43 8)).toNatClampNeg x1), J, xrf)) (fun f => rfl) hc ?_
  refine Rn.go 6 (j' := 89) (pc' := 113) (ls' := [some (.ref 43), some (.int x1)]) (st' := []) (n' := 94) (M' := ((xup ((xup I 47 ((I 43 8)).toNatClampNeg x1)) 43 8 (((((xup I 47 ((I 43 8)).toNatClampNeg x1)) 43 8) + 1))), J, xrf)) (fun f => rfl) ?_
  exact p_X7_refresh_10 x1 ((xup ((xup I 47 ((I 43 8)).toNatClampNeg x1)) 43 8 (((((xup I 47 ((I 43 8)).toNatClampNeg x1)) 43 8) + 1)))) J h hC
theorem p_X7_refresh_8 {L : Nat} {xs : Nat → Int32} {d : Nat} {Q : xO → Prop} (x1 : Int32) (s0 : Int32) (I : xI) (J : xJ) {t : (Int32 × xI × xJ) ⊕ (Unit × xI × xJ)} (h : f_X7_refresh_8 x1 s0 I J = some t) (hC : (c_X7_refresh_6 L xs d Q) t) : Rn L xs (d + 16) 89 90 [some (.ref 43), some (.int x1)] [.int s0] 94 (I, J, xrf) Q := by
  unfold f_X7_refresh_8 at h
  refine Rn.fi 1 (c := s0 = 0) (p1 := 113) (l1 := [some (.ref 43), some (.int x1)]) (s1 := []) (n1 := 94) (M1 := (I, J, xrf)) (p2 := 93) (l2 := [some (.ref 43), some (.int x1)]) (s2 := []) (n2 := 94) (M2 := (I, J, xrf)) (fun f => rfl) (fun hc => ?_) (fun hc => ?_)
  · rw [if_pos hc] at h
    exact p_X7_refresh_10 x1 I J h hC
  · rw [if_neg hc] at h
    exact p_X7_refresh_9 x1 I J h hC
theorem p_X7_refresh_7 {L : Nat} {xs : Nat → Int32} {d : Nat} {Q : xO → Prop} (x1 : Int32) (I : xI) (J : xJ) {t : (Int32 × xI × xJ) ⊕ (Unit × xI × xJ)} (h : f_X7_refresh_7 x1 I J = some t) (hC : (c_X7_refresh_6 L xs d Q) t) : Rn L xs (d + 16) 89 85 [some (.ref 43), some (.int x1)] [] 94 (I, J, xrf) Q := by
  unfold f_X7_refresh_7 at h
  refine Rn.go 2 (j' := 89) (pc' := 87) (ls' := [some (.ref 43), some (.int x1)]) (st' := [.int x1, .ref 43]) (n' := 94) (M' := (I, J, xrf)) (fun f => rfl) ?_
  obtain ⟨o, ho, h⟩ := Option.bind_eq_some_iff.mp h
  refine Rn.call (d1 := d + 15) (j1 := 95) (ls1 := [some (.ref 43), some (.int x1)]) (rest := []) (fun f => rfl) ?_
  refine p_X7_stays (d := d + 13) x1 I J (t := o) ho ?_
  exact p_X7_refresh_8 x1 o.1 o.2.1 o.2.2 h hC
theorem q_X7_refresh_6 {L : Nat} {xs : Nat → Int32} {d : Nat} {Q : xO → Prop} (x1 : Int32) (I : xI) (J : xJ) {t : (Int32 × xI × xJ) ⊕ (Unit × xI × xJ)} (h : b_X7_refresh_6 x1 I J = some t) (hC : (c_X7_refresh_6 L xs d Q) t) : Rn L xs (d + 16) 89 77 [some (.ref 43), some (.int x1)] [] 94 (I, J, xrf) Q := by
  unfold b_X7_refresh_6 at h
  refine Rn.fi 4 (c := (I 43 5) ≤ x1) (p1 := 119) (l1 := [some (.ref 43), some (.int x1)]) (s1 := []) (n1 := 94) (M1 := (I, J, xrf)) (p2 := 85) (l2 := [some (.ref 43), some (.int x1)]) (s2 := []) (n2 := 94) (M2 := (I, J, xrf)) (fun f => rfl) (fun hc => ?_) (fun hc => ?_)
  · rw [if_pos hc] at h
    obtain ⟨t0, h0, rfl⟩ := Option.map_eq_some_iff.mp h
    exact p_X7_refresh_11 x1 I J h0 hC
  · rw [if_neg hc] at h
    exact p_X7_refresh_7 x1 I J h hC
theorem p_X7_refresh_6 {L : Nat} {xs : Nat → Int32} {d : Nat} {Q : xO → Prop} (x1 : Int32) (I : xI) (J : xJ) {t : Unit × xI × xJ} (h : f_X7_refresh_6 x1 I J = some t) (hC : (c_X7_refresh Q) t) : Rn L xs (d + 16) 89 77 [some (.ref 43), some (.int x1)] [] 94 (I, J, xrf) Q := by
  unfold f_X7_refresh_6 at h
  exact xloop_some (P := fun s : Int32 × xI × xJ => Rn L xs (d + 16) 89 77 [some (.ref 43), some (.int s.1)] [] 94 (s.2.1, s.2.2, xrf) Q) t (fun s ⟨s', hb, hp⟩ => q_X7_refresh_6 s.1 s.2.1 s.2.2 hb hp) (fun s hb => q_X7_refresh_6 s.1 s.2.1 s.2.2 hb hC) _ _ h
theorem p_X7_refresh_5 {L : Nat} {xs : Nat → Int32} {d : Nat} {Q : xO → Prop} (I : xI) (J : xJ) {t : Unit × xI × xJ} (h : f_X7_refresh_5 I J = some t) (hC : (c_X7_refresh Q) t) : Rn L xs (d + 16) 89 70 [some (.ref 43), none] [] 94 (I, J, xrf) Q := by
  unfold f_X7_refresh_5 at h
  refine Rn.go 5 (j' := 89) (pc' := 77) (ls' := [some (.ref 43), some (.int 0)]) (st' := []) (n' := 94) (M' := ((xup I 43 8 0), J, xrf)) (fun f => rfl) ?_
  exact p_X7_refresh_6 0 ((xup I 43 8 0)) J h hC
theorem p_X7_refresh_4 {L : Nat} {xs : Nat → Int32} {d : Nat} {Q : xO → Prop} (I : xI) (J : xJ) {t : Unit × xI × xJ} (h : f_X7_refresh_4 I J = some t) (hC : (c_X7_refresh Q) t) : Rn L xs (d + 16) 89 63 [some (.ref 43), none] [] 94 (I, J, xrf) Q := by
  unfold f_X7_refresh_4 at h
  refine Rn.go 4 (j' := 89) (pc' := 67) (ls' := [some (.ref 43), none]) (st' := [.int 0, .int 0, .int 0, .ref 43]) (n' := 94) (M' := (I, J, xrf)) (fun f => rfl) ?_
  obtain ⟨o, ho, h⟩ := Option.bind_eq_some_iff.mp h
  refine Rn.call (d1 := d + 15) (j1 := 90) (ls1 := [some (.ref 43), some (.int 0), some (.int 0), some (.int 0), none]) (rest := []) (fun f => rfl) ?_
  refine p_X7_grow (d := d + 0) 12 0 0 0 I J (t := o) ho ?_
  exact p_X7_refresh_5 o.2.1 o.2.2 h hC
theorem p_X7_refresh_3 {L : Nat} {xs : Nat → Int32} {d : Nat} {Q : xO → Prop} (I : xI) (J : xJ) {t : Unit × xI × xJ} (h : f_X7_refresh_3 I J = some t) (hC : (c_X7_refresh Q) t) : Rn L xs (d + 16) 89 40 [some (.ref 43), none] [] 94 (I, J, xrf) Q := by
  unfold f_X7_refresh_3 at h
  refine Rn.fi 11 (c := (((xup ((xup I 43 6 ((I 1 0)))) 43 5 0)) 43 6) ≤ 0) (p1 := 70) (l1 := [some (.ref 43), none]) (s1 := []) (n1 := 94) (M1 := ((xup ((xup I 43 6 ((I 1 0)))) 43 5 0), J, xrf)) (p2 := 63) (l2 := [some (.ref 43), none]) (s2 := []) (n2 := 94) (M2 := ((xup ((xup I 43 6 ((I 1 0)))) 43 5 0), J, xrf)) (fun f => rfl) (fun hc => ?_) (fun hc => ?_)
  · rw [if_pos hc] at h
    exact p_X7_refresh_5 ((xup ((xup I 43 6 ((I 1 0)))) 43 5 0)) J h hC
  · rw [if_neg hc] at h
    exact p_X7_refresh_4 ((xup ((xup I 43 6 ((I 1 0)))) 43 5 0)) J h hC
theorem p_X7_refresh_2 {L : Nat} {xs : Nat → Int32} {d : Nat} {Q : xO → Prop} (I : xI) (J : xJ) {t : Unit × xI × xJ} (h : f_X7_refresh_2 I J = some t) (hC : (c_X7_refresh Q) t) : Rn L xs (d + 16) 89 15 [some (.ref 43), none] [] 94 (I, J, xrf) Q := by
  unfold f_X7_refresh_2 at h
  refine Rn.fi 11 (c := (((xup I 43 9 ((I 1 2)))) 43 6) = (((xup I 43 9 ((I 1 2)))) 1 0)) (p1 := 70) (l1 := [some (.ref 43), none]) (s1 := []) (n1 := 94) (M1 := ((xup I 43 9 ((I 1 2))), J, xrf)) (p2 := 40) (l2 := [some (.ref 43), none]) (s2 := []) (n2 := 94) (M2 := ((xup I 43 9 ((I 1 2))), J, xrf)) (fun f => rfl) (fun hc => ?_) (fun hc => ?_)
  · rw [if_pos hc] at h
    exact p_X7_refresh_5 ((xup I 43 9 ((I 1 2)))) J h hC
  · rw [if_neg hc] at h
    exact p_X7_refresh_3 ((xup I 43 9 ((I 1 2)))) J h hC
theorem p_X7_refresh_1 {L : Nat} {xs : Nat → Int32} {d : Nat} {Q : xO → Prop} (I : xI) (J : xJ) {t : Unit × xI × xJ} (h : f_X7_refresh_1 I J = some t) (hC : (c_X7_refresh Q) t) : Rn L xs (d + 16) 89 14 [some (.ref 43), none] [] 94 (I, J, xrf) Q := by
  unfold f_X7_refresh_1 at h
  cases h
  exact Rn.ret 1 (o := (none, 94, (I, J, xrf))) (fun f => rfl) hC
theorem p_X7_refresh_0 {L : Nat} {xs : Nat → Int32} {d : Nat} {Q : xO → Prop} (I : xI) (J : xJ) {t : Unit × xI × xJ} (h : f_X7_refresh_0 I J = some t) (hC : (c_X7_refresh Q) t) : Rn L xs (d + 16) 89 0 [some (.ref 43), none] [] 94 (I, J, xrf) Q := by
  unfold f_X7_refresh_0 at h
  refine Rn.fi 6 (c := (I 43 9) = (I 1 2)) (p1 := 14) (l1 := [some (.ref 43), none]) (s1 := []) (n1 := 94) (M1 := (I, J, xrf)) (p2 := 15) (l2 := [some (.ref 43), none]) (s2 := []) (n2 := 94) (M2 := (I, J, xrf)) (fun f => rfl) (fun hc => ?_) (fun hc => ?_)
  · rw [if_pos hc] at h
    exact p_X7_refresh_1 I J h hC
  · rw [if_neg hc] at h
    exact p_X7_refresh_2 I J h hC
theorem p_X7_refresh {L : Nat} {xs : Nat → Int32} {d : Nat} {Q : xO → Prop} (I : xI) (J : xJ) {t : Unit × xI × xJ} (h : f_X7_refresh I J = some t) (hC : Q (none, 94, (t.2.1, t.2.2, xrf))) : Rn L xs (d + 16) 89 0 [some (.ref 43), none] [] 94 (I, J, xrf) Q := p_X7_refresh_0 I J h hC
/-! X11_partitionsNow -/
def c_X11_partitionsNow (Q : xO → Prop) (t : Unit × xI × xJ) : Prop := Q ((some (.ref 43)), 94, (t.2.1, t.2.2, xrf))
def f_X11_partitionsNow_2 (I : xI) (J : xJ) : Option (Unit × xI × xJ) := some ((), I, J)
def f_X11_partitionsNow_1 (I : xI) (J : xJ) : Option (Unit × xI × xJ) := (f_X7_refresh I J).bind fun o => f_X11_partitionsNow_2 o.2.1 o.2.2
def f_X11_partitionsNow_0 (I : xI) (J : xJ) : Option (Unit × xI × xJ) := (f_X6_refresh I J).bind fun o => f_X11_partitionsNow_1 o.2.1 o.2.2
def f_X11_partitionsNow (I : xI) (J : xJ) : Option (Unit × xI × xJ) := f_X11_partitionsNow_0 I J
theorem p_X11_partitionsNow_2 {L : Nat} {xs : Nat → Int32} {d : Nat} {Q : xO → Prop} (I : xI) (J : xJ) {t : Unit × xI × xJ} (h : f_X11_partitionsNow_2 I J = some t) (hC : (c_X11_partitionsNow Q) t) : Rn L xs (d + 17) 179 14 [some (.ref 0)] [] 94 (I, J, xrf) Q := by
  unfold f_X11_partitionsNow_2 at h
  cases h
  exact Rn.ret 3 (o := ((some (.ref 43)), 94, (I, J, xrf))) (fun f => rfl) hC
theorem p_X11_partitionsNow_1 {L : Nat} {xs : Nat → Int32} {d : Nat} {Q : xO → Prop} (I : xI) (J : xJ) {t : Unit × xI × xJ} (h : f_X11_partitionsNow_1 I J = some t) (hC : (c_X11_partitionsNow Q) t) : Rn L xs (d + 17) 179 7 [some (.ref 0)] [] 94 (I, J, xrf) Q := by
  unfold f_X11_partitionsNow_1 at h
  refine Rn.go 2 (j' := 179) (pc' := 11) (ls' := [some (.ref 0)]) (st' := [.ref 43]) (n' := 94) (M' := (I, J, xrf)) (fun f => rfl) ?_
  obtain ⟨o, ho, h⟩ := Option.bind_eq_some_iff.mp h
  refine Rn.call (d1 := d + 16) (j1 := 89) (ls1 := [some (.ref 43), none]) (rest := []) (fun f => rfl) ?_
  refine p_X7_refresh (d := d + 0) I J (t := o) ho ?_
  exact p_X11_partitionsNow_2 o.2.1 o.2.2 h hC
theorem p_X11_partitionsNow_0 {L : Nat} {xs : Nat → Int32} {d : Nat} {Q : xO → Prop} (I : xI) (J : xJ) {t : Unit × xI × xJ} (h : f_X11_partitionsNow_0 I J = some t) (hC : (c_X11_partitionsNow Q) t) : Rn L xs (d + 17) 179 0 [some (.ref 0)] [] 94 (I, J, xrf) Q := by
  unfold f_X11_partitionsNow_0 at h
  refine Rn.go 2 (j' := 179) (pc' := 4) (ls' := [some (.ref 0)]) (st' := [.ref 32]) (n' := 94) (M' := (I, J, xrf)) (fun f => rfl) ?_
  obtain ⟨o, ho, h⟩ := Option.bind_eq_some_iff.mp h
  refine Rn.call (d1 := d + 16) (j1 := 69) (ls1 := [some (.ref 32), none, none]) (rest := []) (fun f => rfl) ?_
  refine p_X6_refresh (d := d + 12) I J (t := o) ho ?_
  exact p_X11_partitionsNow_1 o.2.1 o.2.2 h hC
theorem p_X11_partitionsNow {L : Nat} {xs : Nat → Int32} {d : Nat} {Q : xO → Prop} (I : xI) (J : xJ) {t : Unit × xI × xJ} (h : f_X11_partitionsNow I J = some t) (hC : Q ((some (.ref 43)), 94, (t.2.1, t.2.2, xrf))) : Rn L xs (d + 17) 179 0 [some (.ref 0)] [] 94 (I, J, xrf) Q := p_X11_partitionsNow_0 I J h hC
/-! X7_indexOf -/
def c_X7_indexOf (Q : xO → Prop) (t : Int32 × xI × xJ) : Prop := Q ((some (.int t.1)), 94, (t.2.1, t.2.2, xrf))
def c_X7_indexOf_1 (L : Nat) (xs : Nat → Int32) (d : Nat) (Q : xO → Prop) (t : (Int32 × Int32 × xI × xJ) ⊕ (Int32 × xI × xJ)) : Prop := match t with
  | .inl s => Rn L xs (d + 1) 93 2 [some (.ref 43), some (.int s.1), some (.int s.2.1)] [] 94 (s.2.2.1, s.2.2.2, xrf) Q
  | .inr t => (c_X7_indexOf Q) t
def f_X7_indexOf_5 (x1 : Int32) (x2 : Int32) (I : xI) (J : xJ) : Option (Int32 × xI × xJ) := some ((-1), I, J)
def f_X7_indexOf_4 (x1 : Int32) (x2 : Int32) (I : xI) (J : xJ) : Option ((Int32 × Int32 × xI × xJ) ⊕ (Int32 × xI × xJ)) := some (.inl (x1, ((x2 + 1)), I, J))
def f_X7_indexOf_3 (x1 : Int32) (x2 : Int32) (I : xI) (J : xJ) : Option (Int32 × xI × xJ) := some (x2, I, J)
def f_X7_indexOf_2 (x1 : Int32) (x2 : Int32) (I : xI) (J : xJ) : Option ((Int32 × Int32 × xI × xJ) ⊕ (Int32 × xI × xJ)) := if x2 < 0 ∨ 203 ≤ x2.toNatClampNeg then none else if (I 44 x2.toNatClampNeg) = x1 then ((f_X7_indexOf_3 x1 x2 I J)).map .inr else f_X7_indexOf_4 x1 x2 I J
def b_X7_indexOf_1 (x1 : Int32) (x2 : Int32) (I : xI) (J : xJ) : Option ((Int32 × Int32 × xI × xJ) ⊕ (Int32 × xI × xJ)) := if (I 43 5) ≤ x2 then ((f_X7_indexOf_5 x1 x2 I J)).map .inr else f_X7_indexOf_2 x1 x2 I J
def f_X7_indexOf_1 (x1 : Int32) (x2 : Int32) (I : xI) (J : xJ) : Option (Int32 × xI × xJ) := xloop (fun s : Int32 × Int32 × xI × xJ => b_X7_indexOf_1 s.1 s.2.1 s.2.2.1 s.2.2.2) 5000 (x1, x2, I, J)
def f_X7_indexOf_0 (x1 : Int32) (I : xI) (J : xJ) : Option (Int32 × xI × xJ) := f_X7_indexOf_1 x1 0 I J
def f_X7_indexOf (x1 : Int32) (I : xI) (J : xJ) : Option (Int32 × xI × xJ) := f_X7_indexOf_0 x1 I J
theorem p_X7_indexOf_5 {L : Nat} {xs : Nat → Int32} {d : Nat} {Q : xO → Prop} (x1 : Int32) (x2 : Int32) (I : xI) (J : xJ) {t : Int32 × xI × xJ} (h : f_X7_indexOf_5 x1 x2 I J = some t) (hC : (c_X7_indexOf Q) t) : Rn L xs (d + 1) 93 28 [some (.ref 43), some (.int x1), some (.int x2)] [] 94 (I, J, xrf) Q := by
  unfold f_X7_indexOf_5 at h
  cases h
  exact Rn.ret 2 (o := ((some (.int ((-1)))), 94, (I, J, xrf))) (fun f => rfl) hC
theorem p_X7_indexOf_4 {L : Nat} {xs : Nat → Int32} {d : Nat} {Q : xO → Prop} (x1 : Int32) (x2 : Int32) (I : xI) (J : xJ) {t : (Int32 × Int32 × xI × xJ) ⊕ (Int32 × xI × xJ)} (h : f_X7_indexOf_4 x1 x2 I J = some t) (hC : (c_X7_indexOf_1 L xs d Q) t) : Rn L xs (d + 1) 93 22 [some (.ref 43), some (.int x1), some (.int x2)] [] 94 (I, J, xrf) Q := by
  unfold f_X7_indexOf_4 at h
  refine Rn.go 2 (j' := 93) (pc' := 2) (ls' := [some (.ref 43), some (.int x1), some (.int ((x2 + 1)))]) (st' := []) (n' := 94) (M' := (I, J, xrf)) (fun f => rfl) ?_
  cases h; exact hC
theorem p_X7_indexOf_3 {L : Nat} {xs : Nat → Int32} {d : Nat} {Q : xO → Prop} (x1 : Int32) (x2 : Int32) (I : xI) (J : xJ) {t : Int32 × xI × xJ} (h : f_X7_indexOf_3 x1 x2 I J = some t) (hC : (c_X7_indexOf Q) t) : Rn L xs (d + 1) 93 20 [some (.ref 43), some (.int x1), some (.int x2)] [] 94 (I, J, xrf) Q := by
  unfold f_X7_indexOf_3 at h
  cases h
  exact Rn.ret 2 (o := ((some (.int x2)), 94, (I, J, xrf))) (fun f => rfl) hC
theorem p_X7_indexOf_2 {L : Nat} {xs : Nat → Int32} {d : Nat} {Q : xO → Prop} (x1 : Int32) (x2 : Int32) (I : xI) (J : xJ) {t : (Int32 × Int32 × xI × xJ) ⊕ (Int32 × xI × xJ)} (h : f_X7_indexOf_2 x1 x2 I J = some t) (hC : (c_X7_indexOf_1 L xs d Q) t) : Rn L xs (d + 1) 93 10 [some (.ref 43), some (.int x1), some (.int x2)] [] 94 (I, J, xrf) Q := by
  unfold f_X7_indexOf_2 at h
  obtain ⟨hc, h⟩ := xif h
  refine Rn.ok 4 (c := x2 < 0 ∨ 203 ≤ x2.toNatClampNeg) (p1 := 16) (l1 := [some (.ref 43), some (.int x1), some (.int x2)]) (s1 := [.int ((I 44 x2.toNatClampNeg))]) (n1 := 94) (M1 := (I, J, xrf)) (fun f => rfl) hc ?_
  refine Rn.fi 2 (c := (I 44 x2.toNatClampNeg) = x1) (p1 := 20) (l1 := [some (.ref 43), some (.int x1), some (.int x2)]) (s1 := []) (n1 := 94) (M1 := (I, J, xrf)) (p2 := 22) (l2 := [some (.ref 43), some (.int x1), some (.int x2)]) (s2 := []) (n2 := 94) (M2 := (I, J, xrf)) (fun f => rfl) (fun hc => ?_) (fun hc => ?_)
  · rw [if_pos hc] at h
    obtain ⟨t0, h0, rfl⟩ := Option.map_eq_some_iff.mp h
    exact p_X7_indexOf_3 x1 x2 I J h0 hC
  · rw [if_neg hc] at h
    exact p_X7_indexOf_4 x1 x2 I J h hC
theorem q_X7_indexOf_1 {L : Nat} {xs : Nat → Int32} {d : Nat} {Q : xO → Prop} (x1 : Int32) (x2 : Int32) (I : xI) (J : xJ) {t : (Int32 × Int32 × xI × xJ) ⊕ (Int32 × xI × xJ)} (h : b_X7_indexOf_1 x1 x2 I J = some t) (hC : (c_X7_indexOf_1 L xs d Q) t) : Rn L xs (d + 1) 93 2 [some (.ref 43), some (.int x1), some (.int x2)] [] 94 (I, J, xrf) Q := by
  unfold b_X7_indexOf_1 at h
  refine Rn.fi 4 (c := (I 43 5) ≤ x2) (p1 := 28) (l1 := [some (.ref 43), some (.int x1), some (.int x2)]) (s1 := []) (n1 := 94) (M1 := (I, J, xrf)) (p2 := 10) (l2 := [some (.ref 43), some (.int x1), some (.int x2)]) (s2 := []) (n2 := 94) (M2 := (I, J, xrf)) (fun f => rfl) (fun hc => ?_) (fun hc => ?_)
  · rw [if_pos hc] at h
    obtain ⟨t0, h0, rfl⟩ := Option.map_eq_some_iff.mp h
    exact p_X7_indexOf_5 x1 x2 I J h0 hC
  · rw [if_neg hc] at h
    exact p_X7_indexOf_2 x1 x2 I J h hC
theorem p_X7_indexOf_1 {L : Nat} {xs : Nat → Int32} {d : Nat} {Q : xO → Prop} (x1 : Int32) (x2 : Int32) (I : xI) (J : xJ) {t : Int32 × xI × xJ} (h : f_X7_indexOf_1 x1 x2 I J = some t) (hC : (c_X7_indexOf Q) t) : Rn L xs (d + 1) 93 2 [some (.ref 43), some (.int x1), some (.int x2)] [] 94 (I, J, xrf) Q := by
  unfold f_X7_indexOf_1 at h
  exact xloop_some (P := fun s : Int32 × Int32 × xI × xJ => Rn L xs (d + 1) 93 2 [some (.ref 43), some (.int s.1), some (.int s.2.1)] [] 94 (s.2.2.1, s.2.2.2, xrf) Q) t (fun s ⟨s', hb, hp⟩ => q_X7_indexOf_1 s.1 s.2.1 s.2.2.1 s.2.2.2 hb hp) (fun s hb => q_X7_indexOf_1 s.1 s.2.1 s.2.2.1 s.2.2.2 hb hC) _ _ h
theorem p_X7_indexOf_0 {L : Nat} {xs : Nat → Int32} {d : Nat} {Q : xO → Prop} (x1 : Int32) (I : xI) (J : xJ) {t : Int32 × xI × xJ} (h : f_X7_indexOf_0 x1 I J = some t) (hC : (c_X7_indexOf Q) t) : Rn L xs (d + 1) 93 0 [some (.ref 43), some (.int x1), none] [] 94 (I, J, xrf) Q := by
  unfold f_X7_indexOf_0 at h
  refine Rn.go 2 (j' := 93) (pc' := 2) (ls' := [some (.ref 43), some (.int x1), some (.int 0)]) (st' := []) (n' := 94) (M' := (I, J, xrf)) (fun f => rfl) ?_
  exact p_X7_indexOf_1 x1 0 I J h hC
theorem p_X7_indexOf {L : Nat} {xs : Nat → Int32} {d : Nat} {Q : xO → Prop} (x1 : Int32) (I : xI) (J : xJ) {t : Int32 × xI × xJ} (h : f_X7_indexOf x1 I J = some t) (hC : Q ((some (.int t.1)), 94, (t.2.1, t.2.2, xrf))) : Rn L xs (d + 1) 93 0 [some (.ref 43), some (.int x1), none] [] 94 (I, J, xrf) Q := p_X7_indexOf_0 x1 I J h hC
/-! X11_goesOn -/
def c_X11_goesOn (Q : xO → Prop) (t : Int32 × xI × xJ) : Prop := Q ((some (.int t.1)), 94, (t.2.1, t.2.2, xrf))
def f_X11_goesOn_8 (x1 : Int32) (x2 : Int32) (s0 : Int32) (I : xI) (J : xJ) : Option (Int32 × xI × xJ) := some (s0, I, J)
def f_X11_goesOn_7 (x1 : Int32) (x2 : Int32) (I : xI) (J : xJ) : Option (Int32 × xI × xJ) := f_X11_goesOn_8 x1 x2 0 I J
def f_X11_goesOn_6 (x1 : Int32) (x2 : Int32) (I : xI) (J : xJ) : Option (Int32 × xI × xJ) := f_X11_goesOn_8 x1 x2 1 I J
def f_X11_goesOn_5 (x1 : Int32) (x2 : Int32) (s0 : Int32) (I : xI) (J : xJ) : Option (Int32 × xI × xJ) := if s0 = 0 then f_X11_goesOn_7 x1 x2 I J else f_X11_goesOn_6 x1 x2 I J
def f_X11_goesOn_4 (x1 : Int32) (x2 : Int32) (I : xI) (J : xJ) : Option (Int32 × xI × xJ) := (f_X7_stays x2 I J).bind fun o => f_X11_goesOn_5 x1 x2 o.1 o.2.1 o.2.2
def f_X11_goesOn_3 (x1 : Int32) (x2 : Int32) (I : xI) (J : xJ) : Option (Int32 × xI × xJ) := some ((-1), I, J)
def f_X11_goesOn_2 (x1 : Int32) (s0 : Int32) (I : xI) (J : xJ) : Option (Int32 × xI × xJ) := if s0 = (-1) then f_X11_goesOn_3 x1 s0 I J else f_X11_goesOn_4 x1 s0 I J
def f_X11_goesOn_1 (x1 : Int32) (I : xI) (J : xJ) : Option (Int32 × xI × xJ) := (f_X7_indexOf x1 I J).bind fun o => f_X11_goesOn_2 x1 o.1 o.2.1 o.2.2
def f_X11_goesOn_0 (x1 : Int32) (I : xI) (J : xJ) : Option (Int32 × xI × xJ) := (f_X11_partitionsNow I J).bind fun o => f_X11_goesOn_1 x1 o.2.1 o.2.2
def f_X11_goesOn (x1 : Int32) (I : xI) (J : xJ) : Option (Int32 × xI × xJ) := f_X11_goesOn_0 x1 I J
theorem p_X11_goesOn_8 {L : Nat} {xs : Nat → Int32} {d : Nat} {Q : xO → Prop} (x1 : Int32) (x2 : Int32) (s0 : Int32) (I : xI) (J : xJ) {t : Int32 × xI × xJ} (h : f_X11_goesOn_8 x1 x2 s0 I J = some t) (hC : (c_X11_goesOn Q) t) : Rn L xs (d + 18) 158 32 [some (.ref 0), some (.int x1), some (.int x2)] [.int s0] 94 (I, J, xrf) Q := by
  unfold f_X11_goesOn_8 at h
  cases h
  exact Rn.ret 1 (o := ((some (.int s0)), 94, (I, J, xrf))) (fun f => rfl) hC
theorem p_X11_goesOn_7 {L : Nat} {xs : Nat → Int32} {d : Nat} {Q : xO → Prop} (x1 : Int32) (x2 : Int32) (I : xI) (J : xJ) {t : Int32 × xI × xJ} (h : f_X11_goesOn_7 x1 x2 I J = some t) (hC : (c_X11_goesOn Q) t) : Rn L xs (d + 18) 158 31 [some (.ref 0), some (.int x1), some (.int x2)] [] 94 (I, J, xrf) Q := by
  unfold f_X11_goesOn_7 at h
  refine Rn.go 1 (j' := 158) (pc' := 32) (ls' := [some (.ref 0), some (.int x1), some (.int x2)]) (st' := [.int 0]) (n' := 94) (M' := (I, J, xrf)) (fun f => rfl) ?_
  exact p_X11_goesOn_8 x1 x2 0 I J h hC
theorem p_X11_goesOn_6 {L : Nat} {xs : Nat → Int32} {d : Nat} {Q : xO → Prop} (x1 : Int32) (x2 : Int32) (I : xI) (J : xJ) {t : Int32 × xI × xJ} (h : f_X11_goesOn_6 x1 x2 I J = some t) (hC : (c_X11_goesOn Q) t) : Rn L xs (d + 18) 158 27 [some (.ref 0), some (.int x1), some (.int x2)] [] 94 (I, J, xrf) Q := by
  unfold f_X11_goesOn_6 at h
  refine Rn.go 2 (j' := 158) (pc' := 32) (ls' := [some (.ref 0), some (.int x1), some (.int x2)]) (st' := [.int 1]) (n' := 94) (M' := (I, J, xrf)) (fun f => rfl) ?_
  exact p_X11_goesOn_8 x1 x2 1 I J h hC
theorem p_X11_goesOn_5 {L : Nat} {xs : Nat → Int32} {d : Nat} {Q : xO → Prop} (x1 : Int32) (x2 : Int32) (s0 : Int32) (I : xI) (J : xJ) {t : Int32 × xI × xJ} (h : f_X11_goesOn_5 x1 x2 s0 I J = some t) (hC : (c_X11_goesOn Q) t) : Rn L xs (d + 18) 158 24 [some (.ref 0), some (.int x1), some (.int x2)] [.int s0] 94 (I, J, xrf) Q := by
  unfold f_X11_goesOn_5 at h
  refine Rn.fi 1 (c := s0 = 0) (p1 := 31) (l1 := [some (.ref 0), some (.int x1), some (.int x2)]) (s1 := []) (n1 := 94) (M1 := (I, J, xrf)) (p2 := 27) (l2 := [some (.ref 0), some (.int x1), some (.int x2)]) (s2 := []) (n2 := 94) (M2 := (I, J, xrf)) (fun f => rfl) (fun hc => ?_) (fun hc => ?_)
  · rw [if_pos hc] at h
    exact p_X11_goesOn_7 x1 x2 I J h hC
  · rw [if_neg hc] at h
    exact p_X11_goesOn_6 x1 x2 I J h hC
theorem p_X11_goesOn_4 {L : Nat} {xs : Nat → Int32} {d : Nat} {Q : xO → Prop} (x1 : Int32) (x2 : Int32) (I : xI) (J : xJ) {t : Int32 × xI × xJ} (h : f_X11_goesOn_4 x1 x2 I J = some t) (hC : (c_X11_goesOn Q) t) : Rn L xs (d + 18) 158 16 [some (.ref 0), some (.int x1), some (.int x2)] [] 94 (I, J, xrf) Q := by
  unfold f_X11_goesOn_4 at h
  refine Rn.go 3 (j' := 158) (pc' := 21) (ls' := [some (.ref 0), some (.int x1), some (.int x2)]) (st' := [.int x2, .ref 43]) (n' := 94) (M' := (I, J, xrf)) (fun f => rfl) ?_
  obtain ⟨o, ho, h⟩ := Option.bind_eq_some_iff.mp h
  refine Rn.call (d1 := d + 17) (j1 := 95) (ls1 := [some (.ref 43), some (.int x2)]) (rest := []) (fun f => rfl) ?_
  refine p_X7_stays (d := d + 15) x2 I J (t := o) ho ?_
  exact p_X11_goesOn_5 x1 x2 o.1 o.2.1 o.2.2 h hC
theorem p_X11_goesOn_3 {L : Nat} {xs : Nat → Int32} {d : Nat} {Q : xO → Prop} (x1 : Int32) (x2 : Int32) (I : xI) (J : xJ) {t : Int32 × xI × xJ} (h : f_X11_goesOn_3 x1 x2 I J = some t) (hC : (c_X11_goesOn Q) t) : Rn L xs (d + 18) 158 14 [some (.ref 0), some (.int x1), some (.int x2)] [] 94 (I, J, xrf) Q := by
  unfold f_X11_goesOn_3 at h
  cases h
  exact Rn.ret 2 (o := ((some (.int ((-1)))), 94, (I, J, xrf))) (fun f => rfl) hC
theorem p_X11_goesOn_2 {L : Nat} {xs : Nat → Int32} {d : Nat} {Q : xO → Prop} (x1 : Int32) (s0 : Int32) (I : xI) (J : xJ) {t : Int32 × xI × xJ} (h : f_X11_goesOn_2 x1 s0 I J = some t) (hC : (c_X11_goesOn Q) t) : Rn L xs (d + 18) 158 8 [some (.ref 0), some (.int x1), none] [.int s0] 94 (I, J, xrf) Q := by
  unfold f_X11_goesOn_2 at h
  refine Rn.fi 4 (c := s0 = (-1)) (p1 := 14) (l1 := [some (.ref 0), some (.int x1), some (.int s0)]) (s1 := []) (n1 := 94) (M1 := (I, J, xrf)) (p2 := 16) (l2 := [some (.ref 0), some (.int x1), some (.int s0)]) (s2 := []) (n2 := 94) (M2 := (I, J, xrf)) (fun f => rfl) (fun hc => ?_) (fun hc => ?_)
  · rw [if_pos hc] at h
    exact p_X11_goesOn_3 x1 s0 I J h hC
  · rw [if_neg hc] at h
    exact p_X11_goesOn_4 x1 s0 I J h hC
theorem p_X11_goesOn_1 {L : Nat} {xs : Nat → Int32} {d : Nat} {Q : xO → Prop} (x1 : Int32) (I : xI) (J : xJ) {t : Int32 × xI × xJ} (h : f_X11_goesOn_1 x1 I J = some t) (hC : (c_X11_goesOn Q) t) : Rn L xs (d + 18) 158 4 [some (.ref 0), some (.int x1), none] [.ref 43] 94 (I, J, xrf) Q := by
  unfold f_X11_goesOn_1 at h
  refine Rn.go 1 (j' := 158) (pc' := 5) (ls' := [some (.ref 0), some (.int x1), none]) (st' := [.int x1, .ref 43]) (n' := 94) (M' := (I, J, xrf)) (fun f => rfl) ?_
  obtain ⟨o, ho, h⟩ := Option.bind_eq_some_iff.mp h
  refine Rn.call (d1 := d + 17) (j1 := 93) (ls1 := [some (.ref 43), some (.int x1), none]) (rest := []) (fun f => rfl) ?_
  refine p_X7_indexOf (d := d + 16) x1 I J (t := o) ho ?_
  exact p_X11_goesOn_2 x1 o.1 o.2.1 o.2.2 h hC
theorem p_X11_goesOn_0 {L : Nat} {xs : Nat → Int32} {d : Nat} {Q : xO → Prop} (x1 : Int32) (I : xI) (J : xJ) {t : Int32 × xI × xJ} (h : f_X11_goesOn_0 x1 I J = some t) (hC : (c_X11_goesOn Q) t) : Rn L xs (d + 18) 158 0 [some (.ref 0), some (.int x1), none] [] 94 (I, J, xrf) Q := by
  unfold f_X11_goesOn_0 at h
  refine Rn.go 1 (j' := 158) (pc' := 1) (ls' := [some (.ref 0), some (.int x1), none]) (st' := [.ref 0]) (n' := 94) (M' := (I, J, xrf)) (fun f => rfl) ?_
  obtain ⟨o, ho, h⟩ := Option.bind_eq_some_iff.mp h
  refine Rn.call (d1 := d + 17) (j1 := 179) (ls1 := [some (.ref 0)]) (rest := []) (fun f => rfl) ?_
  refine p_X11_partitionsNow (d := d + 0) I J (t := o) ho ?_
  exact p_X11_goesOn_1 x1 o.2.1 o.2.2 h hC
theorem p_X11_goesOn {L : Nat} {xs : Nat → Int32} {d : Nat} {Q : xO → Prop} (x1 : Int32) (I : xI) (J : xJ) {t : Int32 × xI × xJ} (h : f_X11_goesOn x1 I J = some t) (hC : Q ((some (.int t.1)), 94, (t.2.1, t.2.2, xrf))) : Rn L xs (d + 18) 158 0 [some (.ref 0), some (.int x1), none] [] 94 (I, J, xrf) Q := p_X11_goesOn_0 x1 I J h hC
/-! X7_joined -/
def c_X7_joined (Q : xO → Prop) (t : Int32 × xI × xJ) : Prop := Q ((some (.int t.1)), 94, (t.2.1, t.2.2, xrf))
def c_X7_joined_2 (L : Nat) (xs : Nat → Int32) (d : Nat) (Q : xO → Prop) (t : (Int32 × Int32 × Int32 × Int32 × Int32 × (Option Value) × xI × xJ) ⊕ (Int32 × xI × xJ)) : Prop := match t with
  | .inl s => Rn L xs (d + 2) 99 12 [some (.ref 43), some (.int s.1), some (.int s.2.1), some (.int s.2.2.1), some (.int s.2.2.2.1), some (.int s.2.2.2.2.1), s.2.2.2.2.2.1] [] 94 (s.2.2.2.2.2.2.1, s.2.2.2.2.2.2.2, xrf) Q
  | .inr t => (c_X7_joined Q) t
def f_X7_joined_11 (x1 : Int32) (x2 : Int32) (x3 : Int32) (x4 : Int32) (x5 : Int32) (z6 : Option Value) (s0 : Int32) (I : xI) (J : xJ) : Option (Int32 × xI × xJ) := some (s0, I, J)
def f_X7_joined_10 (x1 : Int32) (x2 : Int32) (x3 : Int32) (x4 : Int32) (x5 : Int32) (z6 : Option Value) (I : xI) (J : xJ) : Option (Int32 × xI × xJ) := if x4 < 0 ∨ 203 ≤ x4.toNatClampNeg then none else f_X7_joined_11 x1 x2 x3 x4 x5 z6 ((I 44 x4.toNatClampNeg)) I J
def f_X7_joined_9 (x1 : Int32) (x2 : Int32) (x3 : Int32) (x4 : Int32) (x5 : Int32) (z6 : Option Value) (I : xI) (J : xJ) : Option (Int32 × xI × xJ) := f_X7_joined_11 x1 x2 x3 x4 x5 z6 ((-1)) I J
def f_X7_joined_8 (x1 : Int32) (x2 : Int32) (x3 : Int32) (x4 : Int32) (x5 : Int32) (z6 : Option Value) (I : xI) (J : xJ) : Option (Int32 × xI × xJ) := if x4 = (-1) then f_X7_joined_9 x1 x2 x3 x4 x5 z6 I J else f_X7_joined_10 x1 x2 x3 x4 x5 z6 I J
def f_X7_joined_7 (x1 : Int32) (x2 : Int32) (x3 : Int32) (x4 : Int32) (x5 : Int32) (x6 : Int32) (I : xI) (J : xJ) : Option ((Int32 × Int32 × Int32 × Int32 × Int32 × (Option Value) × xI × xJ) ⊕ (Int32 × xI × xJ)) := some (.inl (x1, x2, x3, x4, ((x5 + 1)), (some (.int x6)), I, J))
def f_X7_joined_6 (x1 : Int32) (x2 : Int32) (x3 : Int32) (x4 : Int32) (x5 : Int32) (x6 : Int32) (I : xI) (J : xJ) : Option ((Int32 × Int32 × Int32 × Int32 × Int32 × (Option Value) × xI × xJ) ⊕ (Int32 × xI × xJ)) := f_X7_joined_7 x1 x2 x3 x6 x5 x6 I J
def f_X7_joined_5 (x1 : Int32) (x2 : Int32) (x3 : Int32) (x4 : Int32) (x5 : Int32) (x6 : Int32) (I : xI) (J : xJ) : Option ((Int32 × Int32 × Int32 × Int32 × Int32 × (Option Value) × xI × xJ) ⊕ (Int32 × xI × xJ)) := if x6 < 0 ∨ 203 ≤ x6.toNatClampNeg then none else if x4 < 0 ∨ 203 ≤ x4.toNatClampNeg then none else if (I 46 x6.toNatClampNeg) ≤ (I 46 x4.toNatClampNeg) then f_X7_joined_7 x1 x2 x3 x4 x5 x6 I J else f_X7_joined_6 x1 x2 x3 x4 x5 x6 I J
def f_X7_joined_4 (x1 : Int32) (x2 : Int32) (x3 : Int32) (x4 : Int32) (x5 : Int32) (x6 : Int32) (I : xI) (J : xJ) : Option ((Int32 × Int32 × Int32 × Int32 × Int32 × (Option Value) × xI × xJ) ⊕ (Int32 × xI × xJ)) := if x4 = (-1) then f_X7_joined_6 x1 x2 x3 x4 x5 x6 I J else f_X7_joined_5 x1 x2 x3 x4 x5 x6 I J
def f_X7_joined_3 (x1 : Int32) (x2 : Int32) (x3 : Int32) (x4 : Int32) (x5 : Int32) (z6 : Option Value) (I : xI) (J : xJ) : Option ((Int32 × Int32 × Int32 × Int32 × Int32 × (Option Value) × xI × xJ) ⊕ (Int32 × xI × xJ)) := if x5 < 0 ∨ 203 ≤ x5.toNatClampNeg then none else if (I 47 x5.toNatClampNeg) < 0 ∨ 203 ≤ ((I 47 x5.toNatClampNeg)).toNatClampNeg then none else if (x3 &&& ((I 45 ((I 47 x5.toNatClampNeg)).toNatClampNeg) ^^^ (-1))) = 0 then f_X7_joined_4 x1 x2 x3 x4 x5 ((I 47 x5.toNatClampNeg)) I J else f_X7_joined_7 x1 x2 x3 x4 x5 ((I 47 x5.toNatClampNeg)) I J
def b_X7_joined_2 (x1 : Int32) (x2 : Int32) (x3 : Int32) (x4 : Int32) (x5 : Int32) (z6 : Option Value) (I : xI) (J : xJ) : Option ((Int32 × Int32 × Int32 × Int32 × Int32 × (Option Value) × xI × xJ) ⊕ (Int32 × xI × xJ)) := if (I 43 8) ≤ x5 then ((f_X7_joined_8 x1 x2 x3 x4 x5 z6 I J)).map .inr else f_X7_joined_3 x1 x2 x3 x4 x5 z6 I J
def f_X7_joined_2 (x1 : Int32) (x2 : Int32) (x3 : Int32) (x4 : Int32) (x5 : Int32) (z6 : Option Value) (I : xI) (J : xJ) : Option (Int32 × xI × xJ) := xloop (fun s : Int32 × Int32 × Int32 × Int32 × Int32 × (Option Value) × xI × xJ => b_X7_joined_2 s.1 s.2.1 s.2.2.1 s.2.2.2.1 s.2.2.2.2.1 s.2.2.2.2.2.1 s.2.2.2.2.2.2.1 s.2.2.2.2.2.2.2) 5000 (x1, x2, x3, x4, x5, z6, I, J)
def f_X7_joined_1 (x1 : Int32) (x2 : Int32) (s0 : Int32) (I : xI) (J : xJ) : Option (Int32 × xI × xJ) := f_X7_joined_2 x1 x2 s0 ((-1)) 0 none I J
def f_X7_joined_0 (x1 : Int32) (x2 : Int32) (I : xI) (J : xJ) : Option (Int32 × xI × xJ) := (f_X11_pairOf x1 x2 I J).bind fun o => f_X7_joined_1 x1 x2 o.1 o.2.1 o.2.2
def f_X7_joined (x1 : Int32) (x2 : Int32) (I : xI) (J : xJ) : Option (Int32 × xI × xJ) := f_X7_joined_0 x1 x2 I J
theorem p_X7_joined_11 {L : Nat} {xs : Nat → Int32} {d : Nat} {Q : xO → Prop} (x1 : Int32) (x2 : Int32) (x3 : Int32) (x4 : Int32) (x5 : Int32) (z6 : Option Value) (s0 : Int32) (I : xI) (J : xJ) {t : Int32 × xI × xJ} (h : f_X7_joined_11 x1 x2 x3 x4 x5 z6 s0 I J = some t) (hC : (c_X7_joined Q) t) : Rn L xs (d + 2) 99 94 [some (.ref 43), some (.int x1), some (.int x2), some (.int x3), some (.int x4), some (.int x5), z6] [.int s0] 94 (I, J, xrf) Q := by
  unfold f_X7_joined_11 at h
  cases h
  exact Rn.ret 1 (o := ((some (.int s0)), 94, (I, J, xrf))) (fun f => rfl) hC
theorem p_X7_joined_10 {L : Nat} {xs : Nat → Int32} {d : Nat} {Q : xO → Prop} (x1 : Int32) (x2 : Int32) (x3 : Int32) (x4 : Int32) (x5 : Int32) (z6 : Option Value) (I : xI) (J : xJ) {t : Int32 × xI × xJ} (h : f_X7_joined_10 x1 x2 x3 x4 x5 z6 I J = some t) (hC : (c_X7_joined Q) t) : Rn L xs (d + 2) 99 87 [some (.ref 43), some (.int x1), some (.int x2), some (.int x3), some (.int x4), some (.int x5), z6] [] 94 (I, J, xrf) Q := by
  unfold f_X7_joined_10 at h
  obtain ⟨hc, h⟩ := xif h
  refine Rn.ok 4 (c := x4 < 0 ∨ 203 ≤ x4.toNatClampNeg) (p1 := 94) (l1 := [some (.ref 43), some (.int x1), some (.int x2), some (.int x3), some (.int x4), some (.int x5), z6]) (s1 := [.int ((I 44 x4.toNatClampNeg))]) (n1 := 94) (M1 := (I, J, xrf)) (fun f => rfl) hc ?_
  exact p_X7_joined_11 x1 x2 x3 x4 x5 z6 ((I 44 x4.toNatClampNeg)) I J h hC
theorem p_X7_joined_9 {L : Nat} {xs : Nat → Int32} {d : Nat} {Q : xO → Prop} (x1 : Int32) (x2 : Int32) (x3 : Int32) (x4 : Int32) (x5 : Int32) (z6 : Option Value) (I : xI) (J : xJ) {t : Int32 × xI × xJ} (h : f_X7_joined_9 x1 x2 x3 x4 x5 z6 I J = some t) (hC : (c_X7_joined Q) t) : Rn L xs (d + 2) 99 83 [some (.ref 43), some (.int x1), some (.int x2), some (.int x3), some (.int x4), some (.int x5), z6] [] 94 (I, J, xrf) Q := by
  unfold f_X7_joined_9 at h
  refine Rn.go 2 (j' := 99) (pc' := 94) (ls' := [some (.ref 43), some (.int x1), some (.int x2), some (.int x3), some (.int x4), some (.int x5), z6]) (st' := [.int ((-1))]) (n' := 94) (M' := (I, J, xrf)) (fun f => rfl) ?_
  exact p_X7_joined_11 x1 x2 x3 x4 x5 z6 ((-1)) I J h hC
theorem p_X7_joined_8 {L : Nat} {xs : Nat → Int32} {d : Nat} {Q : xO → Prop} (x1 : Int32) (x2 : Int32) (x3 : Int32) (x4 : Int32) (x5 : Int32) (z6 : Option Value) (I : xI) (J : xJ) {t : Int32 × xI × xJ} (h : f_X7_joined_8 x1 x2 x3 x4 x5 z6 I J = some t) (hC : (c_X7_joined Q) t) : Rn L xs (d + 2) 99 77 [some (.ref 43), some (.int x1), some (.int x2), some (.int x3), some (.int x4), some (.int x5), z6] [] 94 (I, J, xrf) Q := by
  unfold f_X7_joined_8 at h
  refine Rn.fi 3 (c := x4 = (-1)) (p1 := 83) (l1 := [some (.ref 43), some (.int x1), some (.int x2), some (.int x3), some (.int x4), some (.int x5), z6]) (s1 := []) (n1 := 94) (M1 := (I, J, xrf)) (p2 := 87) (l2 := [some (.ref 43), some (.int x1), some (.int x2), some (.int x3), some (.int x4), some (.int x5), z6]) (s2 := []) (n2 := 94) (M2 := (I, J, xrf)) (fun f => rfl) (fun hc => ?_) (fun hc => ?_)
  · rw [if_pos hc] at h
    exact p_X7_joined_9 x1 x2 x3 x4 x5 z6 I J h hC
  · rw [if_neg hc] at h
    exact p_X7_joined_10 x1 x2 x3 x4 x5 z6 I J h hC
theorem p_X7_joined_7 {L : Nat} {xs : Nat → Int32} {d : Nat} {Q : xO → Prop} (x1 : Int32) (x2 : Int32) (x3 : Int32) (x4 : Int32) (x5 : Int32) (x6 : Int32) (I : xI) (J : xJ) {t : (Int32 × Int32 × Int32 × Int32 × Int32 × (Option Value) × xI × xJ) ⊕ (Int32 × xI × xJ)} (h : f_X7_joined_7 x1 x2 x3 x4 x5 x6 I J = some t) (hC : (c_X7_joined_2 L xs d Q) t) : Rn L xs (d + 2) 99 71 [some (.ref 43), some (.int x1), some (.int x2), some (.int x3), some (.int x4), some (.int x5), some (.int x6)] [] 94 (I, J, xrf) Q := by
  unfold f_X7_joined_7 at h
  refine Rn.go 2 (j' := 99) (pc' := 12) (ls' := [some (.ref 43), some (.int x1), some (.int x2), some (.int x3), some (.int x4), some (.int ((x5 + 1))), some (.int x6)]) (st' := []) (n' := 94) (M' := (I, J, xrf)) (fun f => rfl) ?_
  cases h; exact hC
theorem p_X7_joined_6 {L : Nat} {xs : Nat → Int32} {d : Nat} {Q : xO → Prop} (x1 : Int32) (x2 : Int32) (x3 : Int32) (x4 : Int32) (x5 : Int32) (x6 : Int32) (I : xI) (J : xJ) {t : (Int32 × Int32 × Int32 × Int32 × Int32 × (Option Value) × xI × xJ) ⊕ (Int32 × xI × xJ)} (h : f_X7_joined_6 x1 x2 x3 x4 x5 x6 I J = some t) (hC : (c_X7_joined_2 L xs d Q) t) : Rn L xs (d + 2) 99 67 [some (.ref 43), some (.int x1), some (.int x2), some (.int x3), some (.int x4), some (.int x5), some (.int x6)] [] 94 (I, J, xrf) Q := by
  unfold f_X7_joined_6 at h
  refine Rn.go 2 (j' := 99) (pc' := 71) (ls' := [some (.ref 43), some (.int x1), some (.int x2), some (.int x3), some (.int x6), some (.int x5), some (.int x6)]) (st' := []) (n' := 94) (M' := (I, J, xrf)) (fun f => rfl) ?_
  exact p_X7_joined_7 x1 x2 x3 x6 x5 x6 I J h hC
theorem p_X7_joined_5 {L : Nat} {xs : Nat → Int32} {d : Nat} {Q : xO → Prop} (x1 : Int32) (x2 : Int32) (x3 : Int32) (x4 : Int32) (x5 : Int32) (x6 : Int32) (I : xI) (J : xJ) {t : (Int32 × Int32 × Int32 × Int32 × Int32 × (Option Value) × xI × xJ) ⊕ (Int32 × xI × xJ)} (h : f_X7_joined_5 x1 x2 x3 x4 x5 x6 I J = some t) (hC : (c_X7_joined_2 L xs d Q) t) : Rn L xs (d + 2) 99 50 [some (.ref 43), some (.int x1), some (.int x2), some (.int x3), some (.int x4), some (.int x5), some (.int x6)] [] 94 (I, J, xrf) Q := by
  unfold f_X7_joined_5 at h
  obtain ⟨hc, h⟩ := xif h
  refine Rn.ok 4 (c := x6 < 0 ∨ 203 ≤ x6.toNatClampNeg) (p1 := 57) (l1 := [some (.ref 43), some (.int x1), some (.int x2), some (.int x3), some (.int x4), some (.int x5), some (.int x6)]) (s1 := [.int ((I 46 x6.toNatClampNeg))]) (n1 := 94) (M1 := (I, J, xrf)) (fun f => rfl) hc ?_
  obtain ⟨hc, h⟩ := xif h
  refine Rn.ok 4 (c := x4 < 0 ∨ 203 ≤ x4.toNatClampNeg) (p1 := 64) (l1 := [some (.ref 43), some (.int x1), some (.int x2), some (.int x3), some (.int x4), some (.int x5), some (.int x6)]) (s1 := [.int ((I 46 x4.toNatClampNeg)), .int ((I 46 x6.toNatClampNeg))]) (n1 := 94) (M1 := (I, J, xrf)) (fun f => rfl) hc ?_
  refine Rn.fi 1 (c := (I 46 x6.toNatClampNeg) ≤ (I 46 x4.toNatClampNeg)) (p1 := 71) (l1 := [some (.ref 43), some (.int x1), some (.int x2), some (.int x3), some (.int x4), some (.int x5), some (.int x6)]) (s1 := []) (n1 := 94) (M1 := (I, J, xrf)) (p2 := 67) (l2 := [some (.ref 43), some (.int x1), some (.int x2), some (.int x3), some (.int x4), some (.int x5), some (.int x6)]) (s2 := []) (n2 := 94) (M2 := (I, J, xrf)) (fun f => rfl) (fun hc => ?_) (fun hc => ?_)
  · rw [if_pos hc] at h
    exact p_X7_joined_7 x1 x2 x3 x4 x5 x6 I J h hC
  · rw [if_neg hc] at h
    exact p_X7_joined_6 x1 x2 x3 x4 x5 x6 I J h hC
theorem p_X7_joined_4 {L : Nat} {xs : Nat → Int32} {d : Nat} {Q : xO → Prop} (x1 : Int32) (x2 : Int32) (x3 : Int32) (x4 : Int32) (x5 : Int32) (x6 : Int32) (I : xI) (J : xJ) {t : (Int32 × Int32 × Int32 × Int32 × Int32 × (Option Value) × xI × xJ) ⊕ (Int32 × xI × xJ)} (h : f_X7_joined_4 x1 x2 x3 x4 x5 x6 I J = some t) (hC : (c_X7_joined_2 L xs d Q) t) : Rn L xs (d + 2) 99 44 [some (.ref 43), some (.int x1), some (.int x2), some (.int x3), some (.int x4), some (.int x5), some (.int x6)] [] 94 (I, J, xrf) Q := by
  unfold f_X7_joined_4 at h
  refine Rn.fi 3 (c := x4 = (-1)) (p1 := 67) (l1 := [some (.ref 43), some (.int x1), some (.int x2), some (.int x3), some (.int x4), some (.int x5), some (.int x6)]) (s1 := []) (n1 := 94) (M1 := (I, J, xrf)) (p2 := 50) (l2 := [some (.ref 43), some (.int x1), some (.int x2), some (.int x3), some (.int x4), some (.int x5), some (.int x6)]) (s2 := []) (n2 := 94) (M2 := (I, J, xrf)) (fun f => rfl) (fun hc => ?_) (fun hc => ?_)
  · rw [if_pos hc] at h
    exact p_X7_joined_6 x1 x2 x3 x4 x5 x6 I J h hC
  · rw [if_neg hc] at h
    exact p_X7_joined_5 x1 x2 x3 x4 x5 x6 I J h hC
theorem p_X7_joined_3 {L : Nat} {xs : Nat → Int32} {d : Nat} {Q : xO → Prop} (x1 : Int32) (x2 : Int32) (x3 : Int32) (x4 : Int32) (x5 : Int32) (z6 : Option Value) (I : xI) (J : xJ) {t : (Int32 × Int32 × Int32 × Int32 × Int32 × (Option Value) × xI × xJ) ⊕ (Int32 × xI × xJ)} (h : f_X7_joined_3 x1 x2 x3 x4 x5 z6 I J = some t) (hC : (c_X7_joined_2 L xs d Q) t) : Rn L xs (d + 2) 99 21 [some (.ref 43), some (.int x1), some (.int x2), some (.int x3), some (.int x4), some (.int x5), z6] [] 94 (I, J, xrf) Q := by
  unfold f_X7_joined_3 at h
  obtain ⟨hc, h⟩ := xif h
  refine Rn.ok 4 (c := x5 < 0 ∨ 203 ≤ x5.toNatClampNeg) (p1 := 28) (l1 := [some (.ref 43), some (.int x1), some (.int x2), some (.int x3), some (.int x4), some (.int x5), z6]) (s1 := [.int ((I 47 x5.toNatClampNeg))]) (n1 := 94) (M1 := (I, J, xrf)) (fun f => rfl) hc ?_
  obtain ⟨hc, h⟩ := xif h
  refine Rn.ok 6 (c := (I 47 x5.toNatClampNeg) < 0 ∨ 203 ≤ ((I 47 x5.toNatClampNeg)).toNatClampNeg) (p1 := 38) (l1 := [some (.ref 43), some (.int x1), some (.int x2), some (.int x3), some (.int x4), some (.int x5), some (.int ((I 47 x5.toNatClampNeg)))]) (s1 := [.int ((I 45 ((I 47 x5.toNatClampNeg)).toNatClampNeg)), .int x3]) (n1 := 94) (M1 := (I, J, xrf)) (fun f => rfl) hc ?_
  refine Rn.fi 4 (c := (x3 &&& ((I 45 ((I 47 x5.toNatClampNeg)).toNatClampNeg) ^^^ (-1))) = 0) (p1 := 44) (l1 := [some (.ref 43), some (.int x1), some (.int x2), some (.int x3), some (.int x4), some (.int x5), some (.int ((I 47 x5.toNatClampNeg)))]) (s1 := []) (n1 := 94) (M1 := (I, J, xrf)) (p2 := 71) (l2 := [some (.ref 43), some (.int x1), some (.int x2), some (.int x3), some (.int x4), some (.int x5), some (.int ((I 47 x5.toNatClampNeg)))]) (s2 := []) (n2 := 94) (M2 := (I, J, xrf)) (fun f => rfl) (fun hc => ?_) (fun hc => ?_)
  · rw [if_pos hc] at h
    exact p_X7_joined_4 x1 x2 x3 x4 x5 ((I 47 x5.toNatClampNeg)) I J h hC
  · rw [if_neg hc] at h
    exact p_X7_joined_7 x1 x2 x3 x4 x5 ((I 47 x5.toNatClampNeg)) I J h hC
theorem q_X7_joined_2 {L : Nat} {xs : Nat → Int32} {d : Nat} {Q : xO → Prop} (x1 : Int32) (x2 : Int32) (x3 : Int32) (x4 : Int32) (x5 : Int32) (z6 : Option Value) (I : xI) (J : xJ) {t : (Int32 × Int32 × Int32 × Int32 × Int32 × (Option Value) × xI × xJ) ⊕ (Int32 × xI × xJ)} (h : b_X7_joined_2 x1 x2 x3 x4 x5 z6 I J = some t) (hC : (c_X7_joined_2 L xs d Q) t) : Rn L xs (d + 2) 99 12 [some (.ref 43), some (.int x1), some (.int x2), some (.int x3), some (.int x4), some (.int x5), z6] [] 94 (I, J, xrf) Q := by
  unfold b_X7_joined_2 at h
  refine Rn.fi 4 (c := (I 43 8) ≤ x5) (p1 := 77) (l1 := [some (.ref 43), some (.int x1), some (.int x2), some (.int x3), some (.int x4), some (.int x5), z6]) (s1 := []) (n1 := 94) (M1 := (I, J, xrf)) (p2 := 21) (l2 := [some (.ref 43), some (.int x1), some (.int x2), some (.int x3), some (.int x4), some (.int x5), z6]) (s2 := []) (n2 := 94) (M2 := (I, J, xrf)) (fun f => rfl) (fun hc => ?_) (fun hc => ?_)
  · rw [if_pos hc] at h
    obtain ⟨t0, h0, rfl⟩ := Option.map_eq_some_iff.mp h
    exact p_X7_joined_8 x1 x2 x3 x4 x5 z6 I J h0 hC
  · rw [if_neg hc] at h
    exact p_X7_joined_3 x1 x2 x3 x4 x5 z6 I J h hC
theorem p_X7_joined_2 {L : Nat} {xs : Nat → Int32} {d : Nat} {Q : xO → Prop} (x1 : Int32) (x2 : Int32) (x3 : Int32) (x4 : Int32) (x5 : Int32) (z6 : Option Value) (I : xI) (J : xJ) {t : Int32 × xI × xJ} (h : f_X7_joined_2 x1 x2 x3 x4 x5 z6 I J = some t) (hC : (c_X7_joined Q) t) : Rn L xs (d + 2) 99 12 [some (.ref 43), some (.int x1), some (.int x2), some (.int x3), some (.int x4), some (.int x5), z6] [] 94 (I, J, xrf) Q := by
  unfold f_X7_joined_2 at h
  exact xloop_some (P := fun s : Int32 × Int32 × Int32 × Int32 × Int32 × (Option Value) × xI × xJ => Rn L xs (d + 2) 99 12 [some (.ref 43), some (.int s.1), some (.int s.2.1), some (.int s.2.2.1), some (.int s.2.2.2.1), some (.int s.2.2.2.2.1), s.2.2.2.2.2.1] [] 94 (s.2.2.2.2.2.2.1, s.2.2.2.2.2.2.2, xrf) Q) t (fun s ⟨s', hb, hp⟩ => q_X7_joined_2 s.1 s.2.1 s.2.2.1 s.2.2.2.1 s.2.2.2.2.1 s.2.2.2.2.2.1 s.2.2.2.2.2.2.1 s.2.2.2.2.2.2.2 hb hp) (fun s hb => q_X7_joined_2 s.1 s.2.1 s.2.2.1 s.2.2.2.1 s.2.2.2.2.1 s.2.2.2.2.2.1 s.2.2.2.2.2.2.1 s.2.2.2.2.2.2.2 hb hC) _ _ h
theorem p_X7_joined_1 {L : Nat} {xs : Nat → Int32} {d : Nat} {Q : xO → Prop} (x1 : Int32) (x2 : Int32) (s0 : Int32) (I : xI) (J : xJ) {t : Int32 × xI × xJ} (h : f_X7_joined_1 x1 x2 s0 I J = some t) (hC : (c_X7_joined Q) t) : Rn L xs (d + 2) 99 5 [some (.ref 43), some (.int x1), some (.int x2), none, none, none, none] [.int s0] 94 (I, J, xrf) Q := by
  unfold f_X7_joined_1 at h
  refine Rn.go 5 (j' := 99) (pc' := 12) (ls' := [some (.ref 43), some (.int x1), some (.int x2), some (.int s0), some (.int ((-1))), some (.int 0), none]) (st' := []) (n' := 94) (M' := (I, J, xrf)) (fun f => rfl) ?_
  exact p_X7_joined_2 x1 x2 s0 ((-1)) 0 none I J h hC
theorem p_X7_joined_0 {L : Nat} {xs : Nat → Int32} {d : Nat} {Q : xO → Prop} (x1 : Int32) (x2 : Int32) (I : xI) (J : xJ) {t : Int32 × xI × xJ} (h : f_X7_joined_0 x1 x2 I J = some t) (hC : (c_X7_joined Q) t) : Rn L xs (d + 2) 99 0 [some (.ref 43), some (.int x1), some (.int x2), none, none, none, none] [] 94 (I, J, xrf) Q := by
  unfold f_X7_joined_0 at h
  refine Rn.go 2 (j' := 99) (pc' := 2) (ls' := [some (.ref 43), some (.int x1), some (.int x2), none, none, none, none]) (st' := [.int x2, .int x1]) (n' := 94) (M' := (I, J, xrf)) (fun f => rfl) ?_
  obtain ⟨o, ho, h⟩ := Option.bind_eq_some_iff.mp h
  refine Rn.call (d1 := d + 1) (j1 := 181) (ls1 := [some (.int x1), some (.int x2), none]) (rest := []) (fun f => rfl) ?_
  refine p_X11_pairOf (d := d + 0) x1 x2 I J (t := o) ho ?_
  exact p_X7_joined_1 x1 x2 o.1 o.2.1 o.2.2 h hC
theorem p_X7_joined {L : Nat} {xs : Nat → Int32} {d : Nat} {Q : xO → Prop} (x1 : Int32) (x2 : Int32) (I : xI) (J : xJ) {t : Int32 × xI × xJ} (h : f_X7_joined x1 x2 I J = some t) (hC : Q ((some (.int t.1)), 94, (t.2.1, t.2.2, xrf))) : Rn L xs (d + 2) 99 0 [some (.ref 43), some (.int x1), some (.int x2), none, none, none, none] [] 94 (I, J, xrf) Q := p_X7_joined_0 x1 x2 I J h hC
/-! X11_together -/
def c_X11_together (Q : xO → Prop) (t : Int32 × xI × xJ) : Prop := Q ((some (.int t.1)), 94, (t.2.1, t.2.2, xrf))
def f_X11_together_8 (x1 : Int32) (x2 : Int32) (s0 : Int32) (I : xI) (J : xJ) : Option (Int32 × xI × xJ) := some (s0, I, J)
def f_X11_together_7 (x1 : Int32) (x2 : Int32) (I : xI) (J : xJ) : Option (Int32 × xI × xJ) := f_X11_together_8 x1 x2 ((-1)) I J
def f_X11_together_6 (x1 : Int32) (x2 : Int32) (s0 : Int32) (I : xI) (J : xJ) : Option (Int32 × xI × xJ) := f_X11_together_8 x1 x2 s0 I J
def f_X11_together_5 (x1 : Int32) (x2 : Int32) (I : xI) (J : xJ) : Option (Int32 × xI × xJ) := (f_X7_joined x1 x2 I J).bind fun o => f_X11_together_6 x1 x2 o.1 o.2.1 o.2.2
def f_X11_together_4 (x1 : Int32) (x2 : Int32) (I : xI) (J : xJ) : Option (Int32 × xI × xJ) := (f_X11_partitionsNow I J).bind fun o => f_X11_together_5 x1 x2 o.2.1 o.2.2
def f_X11_together_3 (x1 : Int32) (x2 : Int32) (s0 : Int32) (I : xI) (J : xJ) : Option (Int32 × xI × xJ) := if s0 = 0 then f_X11_together_7 x1 x2 I J else f_X11_together_4 x1 x2 I J
def f_X11_together_2 (x1 : Int32) (x2 : Int32) (I : xI) (J : xJ) : Option (Int32 × xI × xJ) := (f_X5_hasState x2 I J).bind fun o => f_X11_together_3 x1 x2 o.1 o.2.1 o.2.2
def f_X11_together_1 (x1 : Int32) (x2 : Int32) (s0 : Int32) (I : xI) (J : xJ) : Option (Int32 × xI × xJ) := if s0 = 0 then f_X11_together_7 x1 x2 I J else f_X11_together_2 x1 x2 I J
def f_X11_together_0 (x1 : Int32) (x2 : Int32) (I : xI) (J : xJ) : Option (Int32 × xI × xJ) := (f_X5_hasState x1 I J).bind fun o => f_X11_together_1 x1 x2 o.1 o.2.1 o.2.2
def f_X11_together (x1 : Int32) (x2 : Int32) (I : xI) (J : xJ) : Option (Int32 × xI × xJ) := f_X11_together_0 x1 x2 I J
theorem p_X11_together_8 {L : Nat} {xs : Nat → Int32} {d : Nat} {Q : xO → Prop} (x1 : Int32) (x2 : Int32) (s0 : Int32) (I : xI) (J : xJ) {t : Int32 × xI × xJ} (h : f_X11_together_8 x1 x2 s0 I J = some t) (hC : (c_X11_together Q) t) : Rn L xs (d + 18) 159 35 [some (.ref 0), some (.int x1), some (.int x2)] [.int s0] 94 (I, J, xrf) Q := by
  unfold f_X11_together_8 at h
  cases h
  exact Rn.ret 1 (o := ((some (.int s0)), 94, (I, J, xrf))) (fun f => rfl) hC
theorem p_X11_together_7 {L : Nat} {xs : Nat → Int32} {d : Nat} {Q : xO → Prop} (x1 : Int32) (x2 : Int32) (I : xI) (J : xJ) {t : Int32 × xI × xJ} (h : f_X11_together_7 x1 x2 I J = some t) (hC : (c_X11_together Q) t) : Rn L xs (d + 18) 159 34 [some (.ref 0), some (.int x1), some (.int x2)] [] 94 (I, J, xrf) Q := by
  unfold f_X11_together_7 at h
  refine Rn.go 1 (j' := 159) (pc' := 35) (ls' := [some (.ref 0), some (.int x1), some (.int x2)]) (st' := [.int ((-1))]) (n' := 94) (M' := (I, J, xrf)) (fun f => rfl) ?_
  exact p_X11_together_8 x1 x2 ((-1)) I J h hC
theorem p_X11_together_6 {L : Nat} {xs : Nat → Int32} {d : Nat} {Q : xO → Prop} (x1 : Int32) (x2 : Int32) (s0 : Int32) (I : xI) (J : xJ) {t : Int32 × xI × xJ} (h : f_X11_together_6 x1 x2 s0 I J = some t) (hC : (c_X11_together Q) t) : Rn L xs (d + 18) 159 31 [some (.ref 0), some (.int x1), some (.int x2)] [.int s0] 94 (I, J, xrf) Q := by
  unfold f_X11_together_6 at h
  refine Rn.go 1 (j' := 159) (pc' := 35) (ls' := [some (.ref 0), some (.int x1), some (.int x2)]) (st' := [.int s0]) (n' := 94) (M' := (I, J, xrf)) (fun f => rfl) ?_
  exact p_X11_together_8 x1 x2 s0 I J h hC
theorem p_X11_together_5 {L : Nat} {xs : Nat → Int32} {d : Nat} {Q : xO → Prop} (x1 : Int32) (x2 : Int32) (I : xI) (J : xJ) {t : Int32 × xI × xJ} (h : f_X11_together_5 x1 x2 I J = some t) (hC : (c_X11_together Q) t) : Rn L xs (d + 18) 159 26 [some (.ref 0), some (.int x1), some (.int x2)] [.ref 43] 94 (I, J, xrf) Q := by
  unfold f_X11_together_5 at h
  refine Rn.go 2 (j' := 159) (pc' := 28) (ls' := [some (.ref 0), some (.int x1), some (.int x2)]) (st' := [.int x2, .int x1, .ref 43]) (n' := 94) (M' := (I, J, xrf)) (fun f => rfl) ?_
  obtain ⟨o, ho, h⟩ := Option.bind_eq_some_iff.mp h
  refine Rn.call (d1 := d + 17) (j1 := 99) (ls1 := [some (.ref 43), some (.int x1), some (.int x2), none, none, none, none]) (rest := []) (fun f => rfl) ?_
  refine p_X7_joined (d := d + 15) x1 x2 I J (t := o) ho ?_
  exact p_X11_together_6 x1 x2 o.1 o.2.1 o.2.2 h hC
theorem p_X11_together_4 {L : Nat} {xs : Nat → Int32} {d : Nat} {Q : xO → Prop} (x1 : Int32) (x2 : Int32) (I : xI) (J : xJ) {t : Int32 × xI × xJ} (h : f_X11_together_4 x1 x2 I J = some t) (hC : (c_X11_together Q) t) : Rn L xs (d + 18) 159 22 [some (.ref 0), some (.int x1), some (.int x2)] [] 94 (I, J, xrf) Q := by
  unfold f_X11_together_4 at h
  refine Rn.go 1 (j' := 159) (pc' := 23) (ls' := [some (.ref 0), some (.int x1), some (.int x2)]) (st' := [.ref 0]) (n' := 94) (M' := (I, J, xrf)) (fun f => rfl) ?_
  obtain ⟨o, ho, h⟩ := Option.bind_eq_some_iff.mp h
  refine Rn.call (d1 := d + 17) (j1 := 179) (ls1 := [some (.ref 0)]) (rest := []) (fun f => rfl) ?_
  refine p_X11_partitionsNow (d := d + 0) I J (t := o) ho ?_
  exact p_X11_together_5 x1 x2 o.2.1 o.2.2 h hC
theorem p_X11_together_3 {L : Nat} {xs : Nat → Int32} {d : Nat} {Q : xO → Prop} (x1 : Int32) (x2 : Int32) (s0 : Int32) (I : xI) (J : xJ) {t : Int32 × xI × xJ} (h : f_X11_together_3 x1 x2 s0 I J = some t) (hC : (c_X11_together Q) t) : Rn L xs (d + 18) 159 19 [some (.ref 0), some (.int x1), some (.int x2)] [.int s0] 94 (I, J, xrf) Q := by
  unfold f_X11_together_3 at h
  refine Rn.fi 1 (c := s0 = 0) (p1 := 34) (l1 := [some (.ref 0), some (.int x1), some (.int x2)]) (s1 := []) (n1 := 94) (M1 := (I, J, xrf)) (p2 := 22) (l2 := [some (.ref 0), some (.int x1), some (.int x2)]) (s2 := []) (n2 := 94) (M2 := (I, J, xrf)) (fun f => rfl) (fun hc => ?_) (fun hc => ?_)
  · rw [if_pos hc] at h
    exact p_X11_together_7 x1 x2 I J h hC
  · rw [if_neg hc] at h
    exact p_X11_together_4 x1 x2 I J h hC
theorem p_X11_together_2 {L : Nat} {xs : Nat → Int32} {d : Nat} {Q : xO → Prop} (x1 : Int32) (x2 : Int32) (I : xI) (J : xJ) {t : Int32 × xI × xJ} (h : f_X11_together_2 x1 x2 I J = some t) (hC : (c_X11_together Q) t) : Rn L xs (d + 18) 159 11 [some (.ref 0), some (.int x1), some (.int x2)] [] 94 (I, J, xrf) Q := by
  unfold f_X11_together_2 at h
  refine Rn.go 3 (j' := 159) (pc' := 16) (ls' := [some (.ref 0), some (.int x1), some (.int x2)]) (st' := [.int x2, .ref 1]) (n' := 94) (M' := (I, J, xrf)) (fun f => rfl) ?_
  obtain ⟨o, ho, h⟩ := Option.bind_eq_some_iff.mp h
  refine Rn.call (d1 := d + 17) (j1 := 51) (ls1 := [some (.ref 1), some (.int x2)]) (rest := []) (fun f => rfl) ?_
  refine p_X5_hasState (d := d + 16) x2 I J (t := o) ho ?_
  exact p_X11_together_3 x1 x2 o.1 o.2.1 o.2.2 h hC
theorem p_X11_together_1 {L : Nat} {xs : Nat → Int32} {d : Nat} {Q : xO → Prop} (x1 : Int32) (x2 : Int32) (s0 : Int32) (I : xI) (J : xJ) {t : Int32 × xI × xJ} (h : f_X11_together_1 x1 x2 s0 I J = some t) (hC : (c_X11_together Q) t) : Rn L xs (d + 18) 159 8 [some (.ref 0), some (.int x1), some (.int x2)] [.int s0] 94 (I, J, xrf) Q := by
  unfold f_X11_together_1 at h
  refine Rn.fi 1 (c := s0 = 0) (p1 := 34) (l1 := [some (.ref 0), some (.int x1), some (.int x2)]) (s1 := []) (n1 := 94) (M1 := (I, J, xrf)) (p2 := 11) (l2 := [some (.ref 0), some (.int x1), some (.int x2)]) (s2 := []) (n2 := 94) (M2 := (I, J, xrf)) (fun f => rfl) (fun hc => ?_) (fun hc => ?_)
  · rw [if_pos hc] at h
    exact p_X11_together_7 x1 x2 I J h hC
  · rw [if_neg hc] at h
    exact p_X11_together_2 x1 x2 I J h hC
theorem p_X11_together_0 {L : Nat} {xs : Nat → Int32} {d : Nat} {Q : xO → Prop} (x1 : Int32) (x2 : Int32) (I : xI) (J : xJ) {t : Int32 × xI × xJ} (h : f_X11_together_0 x1 x2 I J = some t) (hC : (c_X11_together Q) t) : Rn L xs (d + 18) 159 0 [some (.ref 0), some (.int x1), some (.int x2)] [] 94 (I, J, xrf) Q := by
  unfold f_X11_together_0 at h
  refine Rn.go 3 (j' := 159) (pc' := 5) (ls' := [some (.ref 0), some (.int x1), some (.int x2)]) (st' := [.int x1, .ref 1]) (n' := 94) (M' := (I, J, xrf)) (fun f => rfl) ?_
  obtain ⟨o, ho, h⟩ := Option.bind_eq_some_iff.mp h
  refine Rn.call (d1 := d + 17) (j1 := 51) (ls1 := [some (.ref 1), some (.int x1)]) (rest := []) (fun f => rfl) ?_
  refine p_X5_hasState (d := d + 16) x1 I J (t := o) ho ?_
  exact p_X11_together_1 x1 x2 o.1 o.2.1 o.2.2 h hC
theorem p_X11_together {L : Nat} {xs : Nat → Int32} {d : Nat} {Q : xO → Prop} (x1 : Int32) (x2 : Int32) (I : xI) (J : xJ) {t : Int32 × xI × xJ} (h : f_X11_together x1 x2 I J = some t) (hC : Q ((some (.int t.1)), 94, (t.2.1, t.2.2, xrf))) : Rn L xs (d + 18) 159 0 [some (.ref 0), some (.int x1), some (.int x2)] [] 94 (I, J, xrf) Q := p_X11_together_0 x1 x2 I J h hC
/-! X11_partition -/
def c_X11_partition (Q : xO → Prop) (t : Int32 × xI × xJ) : Prop := Q ((some (.int t.1)), 94, (t.2.1, t.2.2, xrf))
def f_X11_partition_7 (x1 : Int32) (x2 : Int32) (s0 : Int32) (I : xI) (J : xJ) : Option (Int32 × xI × xJ) := some (s0, I, J)
def f_X11_partition_6 (x1 : Int32) (x2 : Int32) (I : xI) (J : xJ) : Option (Int32 × xI × xJ) := f_X11_partition_7 x1 x2 ((-1)) I J
def f_X11_partition_5 (x1 : Int32) (x2 : Int32) (I : xI) (J : xJ) : Option (Int32 × xI × xJ) := if x1 < 0 ∨ 203 ≤ x1.toNatClampNeg then none else if (I 47 x1.toNatClampNeg) < 0 ∨ 203 ≤ ((I 47 x1.toNatClampNeg)).toNatClampNeg then none else f_X11_partition_7 x1 x2 ((I 44 ((I 47 x1.toNatClampNeg)).toNatClampNeg)) I J
def f_X11_partition_4 (x1 : Int32) (x2 : Int32) (I : xI) (J : xJ) : Option (Int32 × xI × xJ) := if x2 ≤ x1 then f_X11_partition_6 x1 x2 I J else f_X11_partition_5 x1 x2 I J
def f_X11_partition_3 (x1 : Int32) (x2 : Int32) (I : xI) (J : xJ) : Option (Int32 × xI × xJ) := if x1 < 0 then f_X11_partition_6 x1 x2 I J else f_X11_partition_4 x1 x2 I J
def f_X11_partition_2 (x1 : Int32) (x2 : Int32) (I : xI) (J : xJ) : Option (Int32 × xI × xJ) := some (x2, I, J)
def f_X11_partition_1 (x1 : Int32) (I : xI) (J : xJ) : Option (Int32 × xI × xJ) := if x1 = (-1) then f_X11_partition_2 x1 ((I 43 8)) I J else f_X11_partition_3 x1 ((I 43 8)) I J
def f_X11_partition_0 (x1 : Int32) (I : xI) (J : xJ) : Option (Int32 × xI × xJ) := (f_X11_partitionsNow I J).bind fun o => f_X11_partition_1 x1 o.2.1 o.2.2
def f_X11_partition (x1 : Int32) (I : xI) (J : xJ) : Option (Int32 × xI × xJ) := f_X11_partition_0 x1 I J
theorem p_X11_partition_7 {L : Nat} {xs : Nat → Int32} {d : Nat} {Q : xO → Prop} (x1 : Int32) (x2 : Int32) (s0 : Int32) (I : xI) (J : xJ) {t : Int32 × xI × xJ} (h : f_X11_partition_7 x1 x2 s0 I J = some t) (hC : (c_X11_partition Q) t) : Rn L xs (d + 18) 160 45 [some (.ref 0), some (.int x1), some (.int x2)] [.int s0] 94 (I, J, xrf) Q := by
  unfold f_X11_partition_7 at h
  cases h
  exact Rn.ret 1 (o := ((some (.int s0)), 94, (I, J, xrf))) (fun f => rfl) hC
theorem p_X11_partition_6 {L : Nat} {xs : Nat → Int32} {d : Nat} {Q : xO → Prop} (x1 : Int32) (x2 : Int32) (I : xI) (J : xJ) {t : Int32 × xI × xJ} (h : f_X11_partition_6 x1 x2 I J = some t) (hC : (c_X11_partition Q) t) : Rn L xs (d + 18) 160 44 [some (.ref 0), some (.int x1), some (.int x2)] [] 94 (I, J, xrf) Q := by
  unfold f_X11_partition_6 at h
  refine Rn.go 1 (j' := 160) (pc' := 45) (ls' := [some (.ref 0), some (.int x1), some (.int x2)]) (st' := [.int ((-1))]) (n' := 94) (M' := (I, J, xrf)) (fun f => rfl) ?_
  exact p_X11_partition_7 x1 x2 ((-1)) I J h hC
theorem p_X11_partition_5 {L : Nat} {xs : Nat → Int32} {d : Nat} {Q : xO → Prop} (x1 : Int32) (x2 : Int32) (I : xI) (J : xJ) {t : Int32 × xI × xJ} (h : f_X11_partition_5 x1 x2 I J = some t) (hC : (c_X11_partition Q) t) : Rn L xs (d + 18) 160 24 [some (.ref 0), some (.int x1), some (.int x2)] [] 94 (I, J, xrf) Q := by
  unfold f_X11_partition_5 at h
  obtain ⟨hc, h⟩ := xif h
  refine Rn.ok 8 (c := x1 < 0 ∨ 203 ≤ x1.toNatClampNeg) (p1 := 40) (l1 := [some (.ref 0), some (.int x1), some (.int x2)]) (s1 := [.int ((I 47 x1.toNatClampNeg)), .ref 44]) (n1 := 94) (M1 := (I, J, xrf)) (fun f => rfl) hc ?_
  obtain ⟨hc, h⟩ := xif h
  refine Rn.ok 1 (c := (I 47 x1.toNatClampNeg) < 0 ∨ 203 ≤ ((I 47 x1.toNatClampNeg)).toNatClampNeg) (p1 := 41) (l1 := [some (.ref 0), some (.int x1), some (.int x2)]) (s1 := [.int ((I 44 ((I 47 x1.toNatClampNeg)).toNatClampNeg))]) (n1 := 94) (M1 := (I, J, xrf)) (fun f => rfl) hc ?_
  refine Rn.go 1 (j' := 160) (pc' := 45) (ls' := [some (.ref 0), some (.int x1), some (.int x2)]) (st' := [.int ((I 44 ((I 47 x1.toNatClampNeg)).toNatClampNeg))]) (n' := 94) (M' := (I, J, xrf)) (fun f => rfl) ?_
  exact p_X11_partition_7 x1 x2 ((I 44 ((I 47 x1.toNatClampNeg)).toNatClampNeg)) I J h hC
theorem p_X11_partition_4 {L : Nat} {xs : Nat → Int32} {d : Nat} {Q : xO → Prop} (x1 : Int32) (x2 : Int32) (I : xI) (J : xJ) {t : Int32 × xI × xJ} (h : f_X11_partition_4 x1 x2 I J = some t) (hC : (c_X11_partition Q) t) : Rn L xs (d + 18) 160 19 [some (.ref 0), some (.int x1), some (.int x2)] [] 94 (I, J, xrf) Q := by
  unfold f_X11_partition_4 at h
  refine Rn.fi 3 (c := x2 ≤ x1) (p1 := 44) (l1 := [some (.ref 0), some (.int x1), some (.int x2)]) (s1 := []) (n1 := 94) (M1 := (I, J, xrf)) (p2 := 24) (l2 := [some (.ref 0), some (.int x1), some (.int x2)]) (s2 := []) (n2 := 94) (M2 := (I, J, xrf)) (fun f => rfl) (fun hc => ?_) (fun hc => ?_)
  · rw [if_pos hc] at h
    exact p_X11_partition_6 x1 x2 I J h hC
  · rw [if_neg hc] at h
    exact p_X11_partition_5 x1 x2 I J h hC
theorem p_X11_partition_3 {L : Nat} {xs : Nat → Int32} {d : Nat} {Q : xO → Prop} (x1 : Int32) (x2 : Int32) (I : xI) (J : xJ) {t : Int32 × xI × xJ} (h : f_X11_partition_3 x1 x2 I J = some t) (hC : (c_X11_partition Q) t) : Rn L xs (d + 18) 160 15 [some (.ref 0), some (.int x1), some (.int x2)] [] 94 (I, J, xrf) Q := by
  unfold f_X11_partition_3 at h
  refine Rn.fi 2 (c := x1 < 0) (p1 := 44) (l1 := [some (.ref 0), some (.int x1), some (.int x2)]) (s1 := []) (n1 := 94) (M1 := (I, J, xrf)) (p2 := 19) (l2 := [some (.ref 0), some (.int x1), some (.int x2)]) (s2 := []) (n2 := 94) (M2 := (I, J, xrf)) (fun f => rfl) (fun hc => ?_) (fun hc => ?_)
  · rw [if_pos hc] at h
    exact p_X11_partition_6 x1 x2 I J h hC
  · rw [if_neg hc] at h
    exact p_X11_partition_4 x1 x2 I J h hC
theorem p_X11_partition_2 {L : Nat} {xs : Nat → Int32} {d : Nat} {Q : xO → Prop} (x1 : Int32) (x2 : Int32) (I : xI) (J : xJ) {t : Int32 × xI × xJ} (h : f_X11_partition_2 x1 x2 I J = some t) (hC : (c_X11_partition Q) t) : Rn L xs (d + 18) 160 13 [some (.ref 0), some (.int x1), some (.int x2)] [] 94 (I, J, xrf) Q := by
  unfold f_X11_partition_2 at h
  cases h
  exact Rn.ret 2 (o := ((some (.int x2)), 94, (I, J, xrf))) (fun f => rfl) hC
theorem p_X11_partition_1 {L : Nat} {xs : Nat → Int32} {d : Nat} {Q : xO → Prop} (x1 : Int32) (I : xI) (J : xJ) {t : Int32 × xI × xJ} (h : f_X11_partition_1 x1 I J = some t) (hC : (c_X11_partition Q) t) : Rn L xs (d + 18) 160 4 [some (.ref 0), some (.int x1), none] [.ref 43] 94 (I, J, xrf) Q := by
  unfold f_X11_partition_1 at h
  refine Rn.fi 5 (c := x1 = (-1)) (p1 := 13) (l1 := [some (.ref 0), some (.int x1), some (.int ((I 43 8)))]) (s1 := []) (n1 := 94) (M1 := (I, J, xrf)) (p2 := 15) (l2 := [some (.ref 0), some (.int x1), some (.int ((I 43 8)))]) (s2 := []) (n2 := 94) (M2 := (I, J, xrf)) (fun f => rfl) (fun hc => ?_) (fun hc => ?_)
  · rw [if_pos hc] at h
    exact p_X11_partition_2 x1 ((I 43 8)) I J h hC
  · rw [if_neg hc] at h
    exact p_X11_partition_3 x1 ((I 43 8)) I J h hC
theorem p_X11_partition_0 {L : Nat} {xs : Nat → Int32} {d : Nat} {Q : xO → Prop} (x1 : Int32) (I : xI) (J : xJ) {t : Int32 × xI × xJ} (h : f_X11_partition_0 x1 I J = some t) (hC : (c_X11_partition Q) t) : Rn L xs (d + 18) 160 0 [some (.ref 0), some (.int x1), none] [] 94 (I, J, xrf) Q := by
  unfold f_X11_partition_0 at h
  refine Rn.go 1 (j' := 160) (pc' := 1) (ls' := [some (.ref 0), some (.int x1), none]) (st' := [.ref 0]) (n' := 94) (M' := (I, J, xrf)) (fun f => rfl) ?_
  obtain ⟨o, ho, h⟩ := Option.bind_eq_some_iff.mp h
  refine Rn.call (d1 := d + 17) (j1 := 179) (ls1 := [some (.ref 0)]) (rest := []) (fun f => rfl) ?_
  refine p_X11_partitionsNow (d := d + 0) I J (t := o) ho ?_
  exact p_X11_partition_1 x1 o.2.1 o.2.2 h hC
theorem p_X11_partition {L : Nat} {xs : Nat → Int32} {d : Nat} {Q : xO → Prop} (x1 : Int32) (I : xI) (J : xJ) {t : Int32 × xI × xJ} (h : f_X11_partition x1 I J = some t) (hC : Q ((some (.int t.1)), 94, (t.2.1, t.2.2, xrf))) : Rn L xs (d + 18) 160 0 [some (.ref 0), some (.int x1), none] [] 94 (I, J, xrf) Q := p_X11_partition_0 x1 I J h hC
/-! X7_intoOf -/
def c_X7_intoOf (Q : xO → Prop) (t : Int32 × xI × xJ) : Prop := Q ((some (.int t.1)), 94, (t.2.1, t.2.2, xrf))
def c_X7_intoOf_2 (L : Nat) (xs : Nat → Int32) (d : Nat) (Q : xO → Prop) (t : (Int32 × Int32 × Int32 × Int32 × xI × xJ) ⊕ (Int32 × xI × xJ)) : Prop := match t with
  | .inl s => Rn L xs (d + 2) 100 19 [some (.ref 43), some (.int s.1), some (.int s.2.1), some (.int s.2.2.1), some (.int s.2.2.2.1)] [] 94 (s.2.2.2.2.1, s.2.2.2.2.2, xrf) Q
  | .inr t => (c_X7_intoOf Q) t
def f_X7_intoOf_11 (x1 : Int32) (x2 : Int32) (x3 : Int32) (x4 : Int32) (s0 : Int32) (I : xI) (J : xJ) : Option (Int32 × xI × xJ) := some (s0, I, J)
def f_X7_intoOf_10 (x1 : Int32) (x2 : Int32) (x3 : Int32) (x4 : Int32) (I : xI) (J : xJ) : Option (Int32 × xI × xJ) := if x3 < 0 ∨ 203 ≤ x3.toNatClampNeg then none else f_X7_intoOf_11 x1 x2 x3 x4 ((I 44 x3.toNatClampNeg)) I J
def f_X7_intoOf_9 (x1 : Int32) (x2 : Int32) (x3 : Int32) (x4 : Int32) (I : xI) (J : xJ) : Option (Int32 × xI × xJ) := f_X7_intoOf_11 x1 x2 x3 x4 ((-1)) I J
def f_X7_intoOf_8 (x1 : Int32) (x2 : Int32) (x3 : Int32) (x4 : Int32) (I : xI) (J : xJ) : Option (Int32 × xI × xJ) := if x3 = (-1) then f_X7_intoOf_9 x1 x2 x3 x4 I J else f_X7_intoOf_10 x1 x2 x3 x4 I J
def f_X7_intoOf_7 (x1 : Int32) (x2 : Int32) (x3 : Int32) (x4 : Int32) (I : xI) (J : xJ) : Option ((Int32 × Int32 × Int32 × Int32 × xI × xJ) ⊕ (Int32 × xI × xJ)) := some (.inl (x1, x2, x3, ((x4 + 1)), I, J))
def f_X7_intoOf_6 (x1 : Int32) (x2 : Int32) (x3 : Int32) (x4 : Int32) (I : xI) (J : xJ) : Option ((Int32 × Int32 × Int32 × Int32 × xI × xJ) ⊕ (Int32 × xI × xJ)) := f_X7_intoOf_7 x1 x2 x4 x4 I J
def f_X7_intoOf_5 (x1 : Int32) (x2 : Int32) (x3 : Int32) (x4 : Int32) (I : xI) (J : xJ) : Option ((Int32 × Int32 × Int32 × Int32 × xI × xJ) ⊕ (Int32 × xI × xJ)) := if x4 < 0 ∨ 203 ≤ x4.toNatClampNeg then none else if x3 < 0 ∨ 203 ≤ x3.toNatClampNeg then none else if (I 46 x4.toNatClampNeg) ≤ (I 46 x3.toNatClampNeg) then f_X7_intoOf_7 x1 x2 x3 x4 I J else f_X7_intoOf_6 x1 x2 x3 x4 I J
def f_X7_intoOf_4 (x1 : Int32) (x2 : Int32) (x3 : Int32) (x4 : Int32) (I : xI) (J : xJ) : Option ((Int32 × Int32 × Int32 × Int32 × xI × xJ) ⊕ (Int32 × xI × xJ)) := if x3 = (-1) then f_X7_intoOf_6 x1 x2 x3 x4 I J else f_X7_intoOf_5 x1 x2 x3 x4 I J
def f_X7_intoOf_3 (x1 : Int32) (x2 : Int32) (x3 : Int32) (x4 : Int32) (I : xI) (J : xJ) : Option ((Int32 × Int32 × Int32 × Int32 × xI × xJ) ⊕ (Int32 × xI × xJ)) := if x4 < 0 ∨ 203 ≤ x4.toNatClampNeg then none else if (x2 &&& ((I 45 x4.toNatClampNeg) ^^^ (-1))) = 0 then f_X7_intoOf_4 x1 x2 x3 x4 I J else f_X7_intoOf_7 x1 x2 x3 x4 I J
def b_X7_intoOf_2 (x1 : Int32) (x2 : Int32) (x3 : Int32) (x4 : Int32) (I : xI) (J : xJ) : Option ((Int32 × Int32 × Int32 × Int32 × xI × xJ) ⊕ (Int32 × xI × xJ)) := if (I 43 5) ≤ x4 then ((f_X7_intoOf_8 x1 x2 x3 x4 I J)).map .inr else f_X7_intoOf_3 x1 x2 x3 x4 I J
def f_X7_intoOf_2 (x1 : Int32) (x2 : Int32) (x3 : Int32) (x4 : Int32) (I : xI) (J : xJ) : Option (Int32 × xI × xJ) := xloop (fun s : Int32 × Int32 × Int32 × Int32 × xI × xJ => b_X7_intoOf_2 s.1 s.2.1 s.2.2.1 s.2.2.2.1 s.2.2.2.2.1 s.2.2.2.2.2) 5000 (x1, x2, x3, x4, I, J)
def f_X7_intoOf_1 (x1 : Int32) (s0 : Int32) (I : xI) (J : xJ) : Option (Int32 × xI × xJ) := f_X7_intoOf_2 x1 s0 ((-1)) 0 I J
def f_X7_intoOf_0 (x1 : Int32) (I : xI) (J : xJ) : Option (Int32 × xI × xJ) := if x1 < 0 ∨ 203 ≤ x1.toNatClampNeg then none else (f_X6_followed ((I 45 x1.toNatClampNeg)) I J).bind fun o => f_X7_intoOf_1 x1 o.1 o.2.1 o.2.2
def f_X7_intoOf (x1 : Int32) (I : xI) (J : xJ) : Option (Int32 × xI × xJ) := f_X7_intoOf_0 x1 I J
theorem p_X7_intoOf_11 {L : Nat} {xs : Nat → Int32} {d : Nat} {Q : xO → Prop} (x1 : Int32) (x2 : Int32) (x3 : Int32) (x4 : Int32) (s0 : Int32) (I : xI) (J : xJ) {t : Int32 × xI × xJ} (h : f_X7_intoOf_11 x1 x2 x3 x4 s0 I J = some t) (hC : (c_X7_intoOf Q) t) : Rn L xs (d + 2) 100 87 [some (.ref 43), some (.int x1), some (.int x2), some (.int x3), some (.int x4)] [.int s0] 94 (I, J, xrf) Q := by
  unfold f_X7_intoOf_11 at h
  cases h
  exact Rn.ret 1 (o := ((some (.int s0)), 94, (I, J, xrf))) (fun f => rfl) hC
theorem p_X7_intoOf_10 {L : Nat} {xs : Nat → Int32} {d : Nat} {Q : xO → Prop} (x1 : Int32) (x2 : Int32) (x3 : Int32) (x4 : Int32) (I : xI) (J : xJ) {t : Int32 × xI × xJ} (h : f_X7_intoOf_10 x1 x2 x3 x4 I J = some t) (hC : (c_X7_intoOf Q) t) : Rn L xs (d + 2) 100 81 [some (.ref 43), some (.int x1), some (.int x2), some (.int x3), some (.int x4)] [] 94 (I, J, xrf) Q := by
  unfold f_X7_intoOf_10 at h
  obtain ⟨hc, h⟩ := xif h
  refine Rn.ok 4 (c := x3 < 0 ∨ 203 ≤ x3.toNatClampNeg) (p1 := 87) (l1 := [some (.ref 43), some (.int x1), some (.int x2), some (.int x3), some (.int x4)]) (s1 := [.int ((I 44 x3.toNatClampNeg))]) (n1 := 94) (M1 := (I, J, xrf)) (fun f => rfl) hc ?_
  exact p_X7_intoOf_11 x1 x2 x3 x4 ((I 44 x3.toNatClampNeg)) I J h hC
theorem p_X7_intoOf_9 {L : Nat} {xs : Nat → Int32} {d : Nat} {Q : xO → Prop} (x1 : Int32) (x2 : Int32) (x3 : Int32) (x4 : Int32) (I : xI) (J : xJ) {t : Int32 × xI × xJ} (h : f_X7_intoOf_9 x1 x2 x3 x4 I J = some t) (hC : (c_X7_intoOf Q) t) : Rn L xs (d + 2) 100 77 [some (.ref 43), some (.int x1), some (.int x2), some (.int x3), some (.int x4)] [] 94 (I, J, xrf) Q := by
  unfold f_X7_intoOf_9 at h
  refine Rn.go 2 (j' := 100) (pc' := 87) (ls' := [some (.ref 43), some (.int x1), some (.int x2), some (.int x3), some (.int x4)]) (st' := [.int ((-1))]) (n' := 94) (M' := (I, J, xrf)) (fun f => rfl) ?_
  exact p_X7_intoOf_11 x1 x2 x3 x4 ((-1)) I J h hC
theorem p_X7_intoOf_8 {L : Nat} {xs : Nat → Int32} {d : Nat} {Q : xO → Prop} (x1 : Int32) (x2 : Int32) (x3 : Int32) (x4 : Int32) (I : xI) (J : xJ) {t : Int32 × xI × xJ} (h : f_X7_intoOf_8 x1 x2 x3 x4 I J = some t) (hC : (c_X7_intoOf Q) t) : Rn L xs (d + 2) 100 72 [some (.ref 43), some (.int x1), some (.int x2), some (.int x3), some (.int x4)] [] 94 (I, J, xrf) Q := by
  unfold f_X7_intoOf_8 at h
  refine Rn.fi 3 (c := x3 = (-1)) (p1 := 77) (l1 := [some (.ref 43), some (.int x1), some (.int x2), some (.int x3), some (.int x4)]) (s1 := []) (n1 := 94) (M1 := (I, J, xrf)) (p2 := 81) (l2 := [some (.ref 43), some (.int x1), some (.int x2), some (.int x3), some (.int x4)]) (s2 := []) (n2 := 94) (M2 := (I, J, xrf)) (fun f => rfl) (fun hc => ?_) (fun hc => ?_)
  · rw [if_pos hc] at h
    exact p_X7_intoOf_9 x1 x2 x3 x4 I J h hC
  · rw [if_neg hc] at h
    exact p_X7_intoOf_10 x1 x2 x3 x4 I J h hC
theorem p_X7_intoOf_7 {L : Nat} {xs : Nat → Int32} {d : Nat} {Q : xO → Prop} (x1 : Int32) (x2 : Int32) (x3 : Int32) (x4 : Int32) (I : xI) (J : xJ) {t : (Int32 × Int32 × Int32 × Int32 × xI × xJ) ⊕ (Int32 × xI × xJ)} (h : f_X7_intoOf_7 x1 x2 x3 x4 I J = some t) (hC : (c_X7_intoOf_2 L xs d Q) t) : Rn L xs (d + 2) 100 66 [some (.ref 43), some (.int x1), some (.int x2), some (.int x3), some (.int x4)] [] 94 (I, J, xrf) Q := by
  unfold f_X7_intoOf_7 at h
  refine Rn.go 2 (j' := 100) (pc' := 19) (ls' := [some (.ref 43), some (.int x1), some (.int x2), some (.int x3), some (.int ((x4 + 1)))]) (st' := []) (n' := 94) (M' := (I, J, xrf)) (fun f => rfl) ?_
  cases h; exact hC
theorem p_X7_intoOf_6 {L : Nat} {xs : Nat → Int32} {d : Nat} {Q : xO → Prop} (x1 : Int32) (x2 : Int32) (x3 : Int32) (x4 : Int32) (I : xI) (J : xJ) {t : (Int32 × Int32 × Int32 × Int32 × xI × xJ) ⊕ (Int32 × xI × xJ)} (h : f_X7_intoOf_6 x1 x2 x3 x4 I J = some t) (hC : (c_X7_intoOf_2 L xs d Q) t) : Rn L xs (d + 2) 100 63 [some (.ref 43), some (.int x1), some (.int x2), some (.int x3), some (.int x4)] [] 94 (I, J, xrf) Q := by
  unfold f_X7_intoOf_6 at h
  refine Rn.go 2 (j' := 100) (pc' := 66) (ls' := [some (.ref 43), some (.int x1), some (.int x2), some (.int x4), some (.int x4)]) (st' := []) (n' := 94) (M' := (I, J, xrf)) (fun f => rfl) ?_
  exact p_X7_intoOf_7 x1 x2 x4 x4 I J h hC
theorem p_X7_intoOf_5 {L : Nat} {xs : Nat → Int32} {d : Nat} {Q : xO → Prop} (x1 : Int32) (x2 : Int32) (x3 : Int32) (x4 : Int32) (I : xI) (J : xJ) {t : (Int32 × Int32 × Int32 × Int32 × xI × xJ) ⊕ (Int32 × xI × xJ)} (h : f_X7_intoOf_5 x1 x2 x3 x4 I J = some t) (hC : (c_X7_intoOf_2 L xs d Q) t) : Rn L xs (d + 2) 100 47 [some (.ref 43), some (.int x1), some (.int x2), some (.int x3), some (.int x4)] [] 94 (I, J, xrf) Q := by
  unfold f_X7_intoOf_5 at h
  obtain ⟨hc, h⟩ := xif h
  refine Rn.ok 4 (c := x4 < 0 ∨ 203 ≤ x4.toNatClampNeg) (p1 := 54) (l1 := [some (.ref 43), some (.int x1), some (.int x2), some (.int x3), some (.int x4)]) (s1 := [.int ((I 46 x4.toNatClampNeg))]) (n1 := 94) (M1 := (I, J, xrf)) (fun f => rfl) hc ?_
  obtain ⟨hc, h⟩ := xif h
  refine Rn.ok 4 (c := x3 < 0 ∨ 203 ≤ x3.toNatClampNeg) (p1 := 60) (l1 := [some (.ref 43), some (.int x1), some (.int x2), some (.int x3), some (.int x4)]) (s1 := [.int ((I 46 x3.toNatClampNeg)), .int ((I 46 x4.toNatClampNeg))]) (n1 := 94) (M1 := (I, J, xrf)) (fun f => rfl) hc ?_
  refine Rn.fi 1 (c := (I 46 x4.toNatClampNeg) ≤ (I 46 x3.toNatClampNeg)) (p1 := 66) (l1 := [some (.ref 43), some (.int x1), some (.int x2), some (.int x3), some (.int x4)]) (s1 := []) (n1 := 94) (M1 := (I, J, xrf)) (p2 := 63) (l2 := [some (.ref 43), some (.int x1), some (.int x2), some (.int x3), some (.int x4)]) (s2 := []) (n2 := 94) (M2 := (I, J, xrf)) (fun f => rfl) (fun hc => ?_) (fun hc => ?_)
  · rw [if_pos hc] at h
    exact p_X7_intoOf_7 x1 x2 x3 x4 I J h hC
  · rw [if_neg hc] at h
    exact p_X7_intoOf_6 x1 x2 x3 x4 I J h hC
theorem p_X7_intoOf_4 {L : Nat} {xs : Nat → Int32} {d : Nat} {Q : xO → Prop} (x1 : Int32) (x2 : Int32) (x3 : Int32) (x4 : Int32) (I : xI) (J : xJ) {t : (Int32 × Int32 × Int32 × Int32 × xI × xJ) ⊕ (Int32 × xI × xJ)} (h : f_X7_intoOf_4 x1 x2 x3 x4 I J = some t) (hC : (c_X7_intoOf_2 L xs d Q) t) : Rn L xs (d + 2) 100 42 [some (.ref 43), some (.int x1), some (.int x2), some (.int x3), some (.int x4)] [] 94 (I, J, xrf) Q := by
  unfold f_X7_intoOf_4 at h
  refine Rn.fi 3 (c := x3 = (-1)) (p1 := 63) (l1 := [some (.ref 43), some (.int x1), some (.int x2), some (.int x3), some (.int x4)]) (s1 := []) (n1 := 94) (M1 := (I, J, xrf)) (p2 := 47) (l2 := [some (.ref 43), some (.int x1), some (.int x2), some (.int x3), some (.int x4)]) (s2 := []) (n2 := 94) (M2 := (I, J, xrf)) (fun f => rfl) (fun hc => ?_) (fun hc => ?_)
  · rw [if_pos hc] at h
    exact p_X7_intoOf_6 x1 x2 x3 x4 I J h hC
  · rw [if_neg hc] at h
    exact p_X7_intoOf_5 x1 x2 x3 x4 I J h hC
theorem p_X7_intoOf_3 {L : Nat} {xs : Nat → Int32} {d : Nat} {Q : xO → Prop} (x1 : Int32) (x2 : Int32) (x3 : Int32) (x4 : Int32) (I : xI) (J : xJ) {t : (Int32 × Int32 × Int32 × Int32 × xI × xJ) ⊕ (Int32 × xI × xJ)} (h : f_X7_intoOf_3 x1 x2 x3 x4 I J = some t) (hC : (c_X7_intoOf_2 L xs d Q) t) : Rn L xs (d + 2) 100 28 [some (.ref 43), some (.int x1), some (.int x2), some (.int x3), some (.int x4)] [] 94 (I, J, xrf) Q := by
  unfold f_X7_intoOf_3 at h
  obtain ⟨hc, h⟩ := xif h
  refine Rn.ok 5 (c := x4 < 0 ∨ 203 ≤ x4.toNatClampNeg) (p1 := 36) (l1 := [some (.ref 43), some (.int x1), some (.int x2), some (.int x3), some (.int x4)]) (s1 := [.int ((I 45 x4.toNatClampNeg)), .int x2]) (n1 := 94) (M1 := (I, J, xrf)) (fun f => rfl) hc ?_
  refine Rn.fi 4 (c := (x2 &&& ((I 45 x4.toNatClampNeg) ^^^ (-1))) = 0) (p1 := 42) (l1 := [some (.ref 43), some (.int x1), some (.int x2), some (.int x3), some (.int x4)]) (s1 := []) (n1 := 94) (M1 := (I, J, xrf)) (p2 := 66) (l2 := [some (.ref 43), some (.int x1), some (.int x2), some (.int x3), some (.int x4)]) (s2 := []) (n2 := 94) (M2 := (I, J, xrf)) (fun f => rfl) (fun hc => ?_) (fun hc => ?_)
  · rw [if_pos hc] at h
    exact p_X7_intoOf_4 x1 x2 x3 x4 I J h hC
  · rw [if_neg hc] at h
    exact p_X7_intoOf_7 x1 x2 x3 x4 I J h hC
theorem q_X7_intoOf_2 {L : Nat} {xs : Nat → Int32} {d : Nat} {Q : xO → Prop} (x1 : Int32) (x2 : Int32) (x3 : Int32) (x4 : Int32) (I : xI) (J : xJ) {t : (Int32 × Int32 × Int32 × Int32 × xI × xJ) ⊕ (Int32 × xI × xJ)} (h : b_X7_intoOf_2 x1 x2 x3 x4 I J = some t) (hC : (c_X7_intoOf_2 L xs d Q) t) : Rn L xs (d + 2) 100 19 [some (.ref 43), some (.int x1), some (.int x2), some (.int x3), some (.int x4)] [] 94 (I, J, xrf) Q := by
  unfold b_X7_intoOf_2 at h
  refine Rn.fi 4 (c := (I 43 5) ≤ x4) (p1 := 72) (l1 := [some (.ref 43), some (.int x1), some (.int x2), some (.int x3), some (.int x4)]) (s1 := []) (n1 := 94) (M1 := (I, J, xrf)) (p2 := 28) (l2 := [some (.ref 43), some (.int x1), some (.int x2), some (.int x3), some (.int x4)]) (s2 := []) (n2 := 94) (M2 := (I, J, xrf)) (fun f => rfl) (fun hc => ?_) (fun hc => ?_)
  · rw [if_pos hc] at h
    obtain ⟨t0, h0, rfl⟩ := Option.map_eq_some_iff.mp h
    exact p_X7_intoOf_8 x1 x2 x3 x4 I J h0 hC
  · rw [if_neg hc] at h
    exact p_X7_intoOf_3 x1 x2 x3 x4 I J h hC
theorem p_X7_intoOf_2 {L : Nat} {xs : Nat → Int32} {d : Nat} {Q : xO → Prop} (x1 : Int32) (x2 : Int32) (x3 : Int32) (x4 : Int32) (I : xI) (J : xJ) {t : Int32 × xI × xJ} (h : f_X7_intoOf_2 x1 x2 x3 x4 I J = some t) (hC : (c_X7_intoOf Q) t) : Rn L xs (d + 2) 100 19 [some (.ref 43), some (.int x1), some (.int x2), some (.int x3), some (.int x4)] [] 94 (I, J, xrf) Q := by
  unfold f_X7_intoOf_2 at h
  exact xloop_some (P := fun s : Int32 × Int32 × Int32 × Int32 × xI × xJ => Rn L xs (d + 2) 100 19 [some (.ref 43), some (.int s.1), some (.int s.2.1), some (.int s.2.2.1), some (.int s.2.2.2.1)] [] 94 (s.2.2.2.2.1, s.2.2.2.2.2, xrf) Q) t (fun s ⟨s', hb, hp⟩ => q_X7_intoOf_2 s.1 s.2.1 s.2.2.1 s.2.2.2.1 s.2.2.2.2.1 s.2.2.2.2.2 hb hp) (fun s hb => q_X7_intoOf_2 s.1 s.2.1 s.2.2.1 s.2.2.2.1 s.2.2.2.2.1 s.2.2.2.2.2 hb hC) _ _ h
theorem p_X7_intoOf_1 {L : Nat} {xs : Nat → Int32} {d : Nat} {Q : xO → Prop} (x1 : Int32) (s0 : Int32) (I : xI) (J : xJ) {t : Int32 × xI × xJ} (h : f_X7_intoOf_1 x1 s0 I J = some t) (hC : (c_X7_intoOf Q) t) : Rn L xs (d + 2) 100 13 [some (.ref 43), some (.int x1), none, none, none] [.int s0] 94 (I, J, xrf) Q := by
  unfold f_X7_intoOf_1 at h
  refine Rn.go 5 (j' := 100) (pc' := 19) (ls' := [some (.ref 43), some (.int x1), some (.int s0), some (.int ((-1))), some (.int 0)]) (st' := []) (n' := 94) (M' := (I, J, xrf)) (fun f => rfl) ?_
  exact p_X7_intoOf_2 x1 s0 ((-1)) 0 I J h hC
theorem p_X7_intoOf_0 {L : Nat} {xs : Nat → Int32} {d : Nat} {Q : xO → Prop} (x1 : Int32) (I : xI) (J : xJ) {t : Int32 × xI × xJ} (h : f_X7_intoOf_0 x1 I J = some t) (hC : (c_X7_intoOf Q) t) : Rn L xs (d + 2) 100 0 [some (.ref 43), some (.int x1), none, none, none] [] 94 (I, J, xrf) Q := by
  unfold f_X7_intoOf_0 at h
  obtain ⟨hc, h⟩ := xif h
  refine Rn.ok 6 (c := x1 < 0 ∨ 203 ≤ x1.toNatClampNeg) (p1 := 10) (l1 := [some (.ref 43), some (.int x1), none, none, none]) (s1 := [.int ((I 45 x1.toNatClampNeg)), .ref 32]) (n1 := 94) (M1 := (I, J, xrf)) (fun f => rfl) hc ?_
  obtain ⟨o, ho, h⟩ := Option.bind_eq_some_iff.mp h
  refine Rn.call (d1 := d + 1) (j1 := 78) (ls1 := [some (.ref 32), some (.int ((I 45 x1.toNatClampNeg))), none, none]) (rest := []) (fun f => rfl) ?_
  refine p_X6_followed (d := d + 0) ((I 45 x1.toNatClampNeg)) I J (t := o) ho ?_
  exact p_X7_intoOf_1 x1 o.1 o.2.1 o.2.2 h hC
theorem p_X7_intoOf {L : Nat} {xs : Nat → Int32} {d : Nat} {Q : xO → Prop} (x1 : Int32) (I : xI) (J : xJ) {t : Int32 × xI × xJ} (h : f_X7_intoOf x1 I J = some t) (hC : Q ((some (.int t.1)), 94, (t.2.1, t.2.2, xrf))) : Rn L xs (d + 2) 100 0 [some (.ref 43), some (.int x1), none, none, none] [] 94 (I, J, xrf) Q := p_X7_intoOf_0 x1 I J h hC
/-! X11_into -/
def c_X11_into (Q : xO → Prop) (t : Int32 × xI × xJ) : Prop := Q ((some (.int t.1)), 94, (t.2.1, t.2.2, xrf))
def f_X11_into_5 (x1 : Int32) (x2 : Int32) (s0 : Int32) (I : xI) (J : xJ) : Option (Int32 × xI × xJ) := some (s0, I, J)
def f_X11_into_4 (x1 : Int32) (x2 : Int32) (I : xI) (J : xJ) : Option (Int32 × xI × xJ) := (f_X7_intoOf x2 I J).bind fun o => f_X11_into_5 x1 x2 o.1 o.2.1 o.2.2
def f_X11_into_3 (x1 : Int32) (x2 : Int32) (I : xI) (J : xJ) : Option (Int32 × xI × xJ) := f_X11_into_5 x1 x2 ((-1)) I J
def f_X11_into_2 (x1 : Int32) (s0 : Int32) (I : xI) (J : xJ) : Option (Int32 × xI × xJ) := if s0 = (-1) then f_X11_into_3 x1 s0 I J else f_X11_into_4 x1 s0 I J
def f_X11_into_1 (x1 : Int32) (I : xI) (J : xJ) : Option (Int32 × xI × xJ) := (f_X7_indexOf x1 I J).bind fun o => f_X11_into_2 x1 o.1 o.2.1 o.2.2
def f_X11_into_0 (x1 : Int32) (I : xI) (J : xJ) : Option (Int32 × xI × xJ) := (f_X11_partitionsNow I J).bind fun o => f_X11_into_1 x1 o.2.1 o.2.2
def f_X11_into (x1 : Int32) (I : xI) (J : xJ) : Option (Int32 × xI × xJ) := f_X11_into_0 x1 I J
theorem p_X11_into_5 {L : Nat} {xs : Nat → Int32} {d : Nat} {Q : xO → Prop} (x1 : Int32) (x2 : Int32) (s0 : Int32) (I : xI) (J : xJ) {t : Int32 × xI × xJ} (h : f_X11_into_5 x1 x2 s0 I J = some t) (hC : (c_X11_into Q) t) : Rn L xs (d + 18) 161 26 [some (.ref 0), some (.int x1), some (.int x2)] [.int s0] 94 (I, J, xrf) Q := by
  unfold f_X11_into_5 at h
  cases h
  exact Rn.ret 1 (o := ((some (.int s0)), 94, (I, J, xrf))) (fun f => rfl) hC
theorem p_X11_into_4 {L : Nat} {xs : Nat → Int32} {d : Nat} {Q : xO → Prop} (x1 : Int32) (x2 : Int32) (I : xI) (J : xJ) {t : Int32 × xI × xJ} (h : f_X11_into_4 x1 x2 I J = some t) (hC : (c_X11_into Q) t) : Rn L xs (d + 18) 161 18 [some (.ref 0), some (.int x1), some (.int x2)] [] 94 (I, J, xrf) Q := by
  unfold f_X11_into_4 at h
  refine Rn.go 3 (j' := 161) (pc' := 23) (ls' := [some (.ref 0), some (.int x1), some (.int x2)]) (st' := [.int x2, .ref 43]) (n' := 94) (M' := (I, J, xrf)) (fun f => rfl) ?_
  obtain ⟨o, ho, h⟩ := Option.bind_eq_some_iff.mp h
  refine Rn.call (d1 := d + 17) (j1 := 100) (ls1 := [some (.ref 43), some (.int x2), none, none, none]) (rest := []) (fun f => rfl) ?_
  refine p_X7_intoOf (d := d + 15) x2 I J (t := o) ho ?_
  exact p_X11_into_5 x1 x2 o.1 o.2.1 o.2.2 h hC
theorem p_X11_into_3 {L : Nat} {xs : Nat → Int32} {d : Nat} {Q : xO → Prop} (x1 : Int32) (x2 : Int32) (I : xI) (J : xJ) {t : Int32 × xI × xJ} (h : f_X11_into_3 x1 x2 I J = some t) (hC : (c_X11_into Q) t) : Rn L xs (d + 18) 161 14 [some (.ref 0), some (.int x1), some (.int x2)] [] 94 (I, J, xrf) Q := by
  unfold f_X11_into_3 at h
  refine Rn.go 2 (j' := 161) (pc' := 26) (ls' := [some (.ref 0), some (.int x1), some (.int x2)]) (st' := [.int ((-1))]) (n' := 94) (M' := (I, J, xrf)) (fun f => rfl) ?_
  exact p_X11_into_5 x1 x2 ((-1)) I J h hC
theorem p_X11_into_2 {L : Nat} {xs : Nat → Int32} {d : Nat} {Q : xO → Prop} (x1 : Int32) (s0 : Int32) (I : xI) (J : xJ) {t : Int32 × xI × xJ} (h : f_X11_into_2 x1 s0 I J = some t) (hC : (c_X11_into Q) t) : Rn L xs (d + 18) 161 8 [some (.ref 0), some (.int x1), none] [.int s0] 94 (I, J, xrf) Q := by
  unfold f_X11_into_2 at h
  refine Rn.fi 4 (c := s0 = (-1)) (p1 := 14) (l1 := [some (.ref 0), some (.int x1), some (.int s0)]) (s1 := []) (n1 := 94) (M1 := (I, J, xrf)) (p2 := 18) (l2 := [some (.ref 0), some (.int x1), some (.int s0)]) (s2 := []) (n2 := 94) (M2 := (I, J, xrf)) (fun f => rfl) (fun hc => ?_) (fun hc => ?_)
  · rw [if_pos hc] at h
    exact p_X11_into_3 x1 s0 I J h hC
  · rw [if_neg hc] at h
    exact p_X11_into_4 x1 s0 I J h hC
theorem p_X11_into_1 {L : Nat} {xs : Nat → Int32} {d : Nat} {Q : xO → Prop} (x1 : Int32) (I : xI) (J : xJ) {t : Int32 × xI × xJ} (h : f_X11_into_1 x1 I J = some t) (hC : (c_X11_into Q) t) : Rn L xs (d + 18) 161 4 [some (.ref 0), some (.int x1), none] [.ref 43] 94 (I, J, xrf) Q := by
  unfold f_X11_into_1 at h
  refine Rn.go 1 (j' := 161) (pc' := 5) (ls' := [some (.ref 0), some (.int x1), none]) (st' := [.int x1, .ref 43]) (n' := 94) (M' := (I, J, xrf)) (fun f => rfl) ?_
  obtain ⟨o, ho, h⟩ := Option.bind_eq_some_iff.mp h
  refine Rn.call (d1 := d + 17) (j1 := 93) (ls1 := [some (.ref 43), some (.int x1), none]) (rest := []) (fun f => rfl) ?_
  refine p_X7_indexOf (d := d + 16) x1 I J (t := o) ho ?_
  exact p_X11_into_2 x1 o.1 o.2.1 o.2.2 h hC
theorem p_X11_into_0 {L : Nat} {xs : Nat → Int32} {d : Nat} {Q : xO → Prop} (x1 : Int32) (I : xI) (J : xJ) {t : Int32 × xI × xJ} (h : f_X11_into_0 x1 I J = some t) (hC : (c_X11_into Q) t) : Rn L xs (d + 18) 161 0 [some (.ref 0), some (.int x1), none] [] 94 (I, J, xrf) Q := by
  unfold f_X11_into_0 at h
  refine Rn.go 1 (j' := 161) (pc' := 1) (ls' := [some (.ref 0), some (.int x1), none]) (st' := [.ref 0]) (n' := 94) (M' := (I, J, xrf)) (fun f => rfl) ?_
  obtain ⟨o, ho, h⟩ := Option.bind_eq_some_iff.mp h
  refine Rn.call (d1 := d + 17) (j1 := 179) (ls1 := [some (.ref 0)]) (rest := []) (fun f => rfl) ?_
  refine p_X11_partitionsNow (d := d + 0) I J (t := o) ho ?_
  exact p_X11_into_1 x1 o.2.1 o.2.2 h hC
theorem p_X11_into {L : Nat} {xs : Nat → Int32} {d : Nat} {Q : xO → Prop} (x1 : Int32) (I : xI) (J : xJ) {t : Int32 × xI × xJ} (h : f_X11_into x1 I J = some t) (hC : Q ((some (.int t.1)), 94, (t.2.1, t.2.2, xrf))) : Rn L xs (d + 18) 161 0 [some (.ref 0), some (.int x1), none] [] 94 (I, J, xrf) Q := p_X11_into_0 x1 I J h hC
/-! X7_trySplit -/
def c_X7_trySplit (Q : xO → Prop) (t : Unit × xI × xJ) : Prop := Q (none, 94, (t.2.1, t.2.2, xrf))
def f_X7_trySplit_9 (x1 : Int32) (x2 : Int32) (x3 : Int32) (x4 : Int32) (I : xI) (J : xJ) : Option (Unit × xI × xJ) := some ((), I, J)
def f_X7_trySplit_8 (x1 : Int32) (x2 : Int32) (x3 : Int32) (x4 : Int32) (I : xI) (J : xJ) : Option (Unit × xI × xJ) := if x1 < 0 ∨ 203 ≤ x1.toNatClampNeg then none else if x2 < 0 ∨ 203 ≤ x2.toNatClampNeg then none else f_X7_trySplit_9 x1 x2 x3 x4 ((xup ((xup ((xup I 43 10 ((I 44 x1.toNatClampNeg)))) 43 11 ((((xup I 43 10 ((I 44 x1.toNatClampNeg)))) 44 x2.toNatClampNeg)))) 43 12 x3)) J
def f_X7_trySplit_7 (x1 : Int32) (x2 : Int32) (x3 : Int32) (x4 : Int32) (I : xI) (J : xJ) : Option (Unit × xI × xJ) := if (I 43 12) ≤ x3 then f_X7_trySplit_9 x1 x2 x3 x4 I J else f_X7_trySplit_8 x1 x2 x3 x4 I J
def f_X7_trySplit_6 (x1 : Int32) (x2 : Int32) (x3 : Int32) (x4 : Int32) (I : xI) (J : xJ) : Option (Unit × xI × xJ) := if (I 43 12) = (-2) then f_X7_trySplit_8 x1 x2 x3 x4 I J else f_X7_trySplit_7 x1 x2 x3 x4 I J
def f_X7_trySplit_5 (x1 : Int32) (x2 : Int32) (x3 : Int32) (x4 : Int32) (I : xI) (J : xJ) : Option (Unit × xI × xJ) := if x1 < 0 ∨ 203 ≤ x1.toNatClampNeg then none else if x2 < 0 ∨ 203 ≤ x2.toNatClampNeg then none else if ((I 45 x1.toNatClampNeg) &&& (I 45 x2.toNatClampNeg)) = 0 then f_X7_trySplit_6 x1 x2 x3 x4 I J else f_X7_trySplit_9 x1 x2 x3 x4 I J
def f_X7_trySplit_4 (x1 : Int32) (x2 : Int32) (x3 : Int32) (s0 : Int32) (I : xI) (J : xJ) : Option (Unit × xI × xJ) := if s0 = 0 then f_X7_trySplit_9 x1 x2 x3 s0 I J else f_X7_trySplit_5 x1 x2 x3 s0 I J
def f_X7_trySplit_3 (x1 : Int32) (x2 : Int32) (x3 : Int32) (I : xI) (J : xJ) : Option (Unit × xI × xJ) := f_X7_trySplit_4 x1 x2 x3 0 I J
def f_X7_trySplit_2 (x1 : Int32) (x2 : Int32) (x3 : Int32) (I : xI) (J : xJ) : Option (Unit × xI × xJ) := f_X7_trySplit_4 x1 x2 x3 1 I J
def f_X7_trySplit_1 (x1 : Int32) (x2 : Int32) (x3 : Int32) (I : xI) (J : xJ) : Option (Unit × xI × xJ) := if x2 < 0 ∨ 203 ≤ x2.toNatClampNeg then none else if (I 43 6) ≤ (I 46 x2.toNatClampNeg) then f_X7_trySplit_3 x1 x2 x3 I J else f_X7_trySplit_2 x1 x2 x3 I J
def f_X7_trySplit_0 (x1 : Int32) (x2 : Int32) (I : xI) (J : xJ) : Option (Unit × xI × xJ) := if x1 < 0 ∨ 203 ≤ x1.toNatClampNeg then none else if x2 < 0 ∨ 203 ≤ x2.toNatClampNeg then none else if x1 < 0 ∨ 203 ≤ x1.toNatClampNeg then none else if (I 43 6) ≤ (I 46 x1.toNatClampNeg) then f_X7_trySplit_3 x1 x2 (((I 46 x1.toNatClampNeg) + (I 46 x2.toNatClampNeg))) I J else f_X7_trySplit_1 x1 x2 (((I 46 x1.toNatClampNeg) + (I 46 x2.toNatClampNeg))) I J
def f_X7_trySplit (x1 : Int32) (x2 : Int32) (I : xI) (J : xJ) : Option (Unit × xI × xJ) := f_X7_trySplit_0 x1 x2 I J
theorem p_X7_trySplit_9 {L : Nat} {xs : Nat → Int32} {d : Nat} {Q : xO → Prop} (x1 : Int32) (x2 : Int32) (x3 : Int32) (x4 : Int32) (I : xI) (J : xJ) {t : Unit × xI × xJ} (h : f_X7_trySplit_9 x1 x2 x3 x4 I J = some t) (hC : (c_X7_trySplit Q) t) : Rn L xs (d + 1) 103 110 [some (.ref 43), some (.int x1), some (.int x2), some (.int x3), some (.int x4)] [] 94 (I, J, xrf) Q := by
  unfold f_X7_trySplit_9 at h
  cases h
  exact Rn.ret 1 (o := (none, 94, (I, J, xrf))) (fun f => rfl) hC
theorem p_X7_trySplit_8 {L : Nat} {xs : Nat → Int32} {d : Nat} {Q : xO → Prop} (x1 : Int32) (x2 : Int32) (x3 : Int32) (x4 : Int32) (I : xI) (J : xJ) {t : Unit × xI × xJ} (h : f_X7_trySplit_8 x1 x2 x3 x4 I J = some t) (hC : (c_X7_trySplit Q) t) : Rn L xs (d + 1) 103 85 [some (.ref 43), some (.int x1), some (.int x2), some (.int x3), some (.int x4)] [] 94 (I, J, xrf) Q := by
  unfold f_X7_trySplit_8 at h
  obtain ⟨hc, h⟩ := xif h
  refine Rn.ok 5 (c := x1 < 0 ∨ 203 ≤ x1.toNatClampNeg) (p1 := 92) (l1 := [some (.ref 43), some (.int x1), some (.int x2), some (.int x3), some (.int x4)]) (s1 := [.int ((I 44 x1.toNatClampNeg)), .ref 43]) (n1 := 94) (M1 := (I, J, xrf)) (fun f => rfl) hc ?_
  obtain ⟨hc, h⟩ := xif h
  refine Rn.ok 6 (c := x2 < 0 ∨ 203 ≤ x2.toNatClampNeg) (p1 := 102) (l1 := [some (.ref 43), some (.int x1), some (.int x2), some (.int x3), some (.int x4)]) (s1 := [.int ((((xup I 43 10 ((I 44 x1.toNatClampNeg)))) 44 x2.toNatClampNeg)), .ref 43]) (n1 := 94) (M1 := ((xup I 43 10 ((I 44 x1.toNatClampNeg))), J, xrf)) (fun f => rfl) hc ?_
  refine Rn.go 4 (j' := 103) (pc' := 110) (ls' := [some (.ref 43), some (.int x1), some (.int x2), some (.int x3), some (.int x4)]) (st' := []) (n' := 94) (M' := ((xup ((xup ((xup I 43 10 ((I 44 x1.toNatClampNeg)))) 43 11 ((((xup I 43 10 ((I 44 x1.toNatClampNeg)))) 44 x2.toNatClampNeg)))) 43 12 x3), J, xrf)) (fun f => rfl) ?_
  exact p_X7_trySplit_9 x1 x2 x3 x4 ((xup ((xup ((xup I 43 10 ((I 44 x1.toNatClampNeg)))) 43 11 ((((xup I 43 10 ((I 44 x1.toNatClampNeg)))) 44 x2.toNatClampNeg)))) 43 12 x3)) J h hC
theorem p_X7_trySplit_7 {L : Nat} {xs : Nat → Int32} {d : Nat} {Q : xO → Prop} (x1 : Int32) (x2 : Int32) (x3 : Int32) (x4 : Int32) (I : xI) (J : xJ) {t : Unit × xI × xJ} (h : f_X7_trySplit_7 x1 x2 x3 x4 I J = some t) (hC : (c_X7_trySplit Q) t) : Rn L xs (d + 1) 103 77 [some (.ref 43), some (.int x1), some (.int x2), some (.int x3), some (.int x4)] [] 94 (I, J, xrf) Q := by
  unfold f_X7_trySplit_7 at h
  refine Rn.fi 4 (c := (I 43 12) ≤ x3) (p1 := 110) (l1 := [some (.ref 43), some (.int x1), some (.int x2), some (.int x3), some (.int x4)]) (s1 := []) (n1 := 94) (M1 := (I, J, xrf)) (p2 := 85) (l2 := [some (.ref 43), some (.int x1), some (.int x2), some (.int x3), some (.int x4)]) (s2 := []) (n2 := 94) (M2 := (I, J, xrf)) (fun f => rfl) (fun hc => ?_) (fun hc => ?_)
  · rw [if_pos hc] at h
    exact p_X7_trySplit_9 x1 x2 x3 x4 I J h hC
  · rw [if_neg hc] at h
    exact p_X7_trySplit_8 x1 x2 x3 x4 I J h hC
theorem p_X7_trySplit_6 {L : Nat} {xs : Nat → Int32} {d : Nat} {Q : xO → Prop} (x1 : Int32) (x2 : Int32) (x3 : Int32) (x4 : Int32) (I : xI) (J : xJ) {t : Unit × xI × xJ} (h : f_X7_trySplit_6 x1 x2 x3 x4 I J = some t) (hC : (c_X7_trySplit Q) t) : Rn L xs (d + 1) 103 68 [some (.ref 43), some (.int x1), some (.int x2), some (.int x3), some (.int x4)] [] 94 (I, J, xrf) Q := by
  unfold f_X7_trySplit_6 at h
  refine Rn.fi 4 (c := (I 43 12) = (-2)) (p1 := 85) (l1 := [some (.ref 43), some (.int x1), some (.int x2), some (.int x3), some (.int x4)]) (s1 := []) (n1 := 94) (M1 := (I, J, xrf)) (p2 := 77) (l2 := [some (.ref 43), some (.int x1), some (.int x2), some (.int x3), some (.int x4)]) (s2 := []) (n2 := 94) (M2 := (I, J, xrf)) (fun f => rfl) (fun hc => ?_) (fun hc => ?_)
  · rw [if_pos hc] at h
    exact p_X7_trySplit_8 x1 x2 x3 x4 I J h hC
  · rw [if_neg hc] at h
    exact p_X7_trySplit_7 x1 x2 x3 x4 I J h hC
theorem p_X7_trySplit_5 {L : Nat} {xs : Nat → Int32} {d : Nat} {Q : xO → Prop} (x1 : Int32) (x2 : Int32) (x3 : Int32) (x4 : Int32) (I : xI) (J : xJ) {t : Unit × xI × xJ} (h : f_X7_trySplit_5 x1 x2 x3 x4 I J = some t) (hC : (c_X7_trySplit Q) t) : Rn L xs (d + 1) 103 52 [some (.ref 43), some (.int x1), some (.int x2), some (.int x3), some (.int x4)] [] 94 (I, J, xrf) Q := by
  unfold f_X7_trySplit_5 at h
  obtain ⟨hc, h⟩ := xif h
  refine Rn.ok 4 (c := x1 < 0 ∨ 203 ≤ x1.toNatClampNeg) (p1 := 58) (l1 := [some (.ref 43), some (.int x1), some (.int x2), some (.int x3), some (.int x4)]) (s1 := [.int ((I 45 x1.toNatClampNeg))]) (n1 := 94) (M1 := (I, J, xrf)) (fun f => rfl) hc ?_
  obtain ⟨hc, h⟩ := xif h
  refine Rn.ok 4 (c := x2 < 0 ∨ 203 ≤ x2.toNatClampNeg) (p1 := 64) (l1 := [some (.ref 43), some (.int x1), some (.int x2), some (.int x3), some (.int x4)]) (s1 := [.int ((I 45 x2.toNatClampNeg)), .int ((I 45 x1.toNatClampNeg))]) (n1 := 94) (M1 := (I, J, xrf)) (fun f => rfl) hc ?_
  refine Rn.fi 2 (c := ((I 45 x1.toNatClampNeg) &&& (I 45 x2.toNatClampNeg)) = 0) (p1 := 68) (l1 := [some (.ref 43), some (.int x1), some (.int x2), some (.int x3), some (.int x4)]) (s1 := []) (n1 := 94) (M1 := (I, J, xrf)) (p2 := 110) (l2 := [some (.ref 43), some (.int x1), some (.int x2), some (.int x3), some (.int x4)]) (s2 := []) (n2 := 94) (M2 := (I, J, xrf)) (fun f => rfl) (fun hc => ?_) (fun hc => ?_)
  · rw [if_pos hc] at h
    exact p_X7_trySplit_6 x1 x2 x3 x4 I J h hC
  · rw [if_neg hc] at h
    exact p_X7_trySplit_9 x1 x2 x3 x4 I J h hC
theorem p_X7_trySplit_4 {L : Nat} {xs : Nat → Int32} {d : Nat} {Q : xO → Prop} (x1 : Int32) (x2 : Int32) (x3 : Int32) (s0 : Int32) (I : xI) (J : xJ) {t : Unit × xI × xJ} (h : f_X7_trySplit_4 x1 x2 x3 s0 I J = some t) (hC : (c_X7_trySplit Q) t) : Rn L xs (d + 1) 103 45 [some (.ref 43), some (.int x1), some (.int x2), some (.int x3), none] [.int s0] 94 (I, J, xrf) Q := by
  unfold f_X7_trySplit_4 at h
  refine Rn.fi 3 (c := s0 = 0) (p1 := 110) (l1 := [some (.ref 43), some (.int x1), some (.int x2), some (.int x3), some (.int s0)]) (s1 := []) (n1 := 94) (M1 := (I, J, xrf)) (p2 := 52) (l2 := [some (.ref 43), some (.int x1), some (.int x2), some (.int x3), some (.int s0)]) (s2 := []) (n2 := 94) (M2 := (I, J, xrf)) (fun f => rfl) (fun hc => ?_) (fun hc => ?_)
  · rw [if_pos hc] at h
    exact p_X7_trySplit_9 x1 x2 x3 s0 I J h hC
  · rw [if_neg hc] at h
    exact p_X7_trySplit_5 x1 x2 x3 s0 I J h hC
theorem p_X7_trySplit_3 {L : Nat} {xs : Nat → Int32} {d : Nat} {Q : xO → Prop} (x1 : Int32) (x2 : Int32) (x3 : Int32) (I : xI) (J : xJ) {t : Unit × xI × xJ} (h : f_X7_trySplit_3 x1 x2 x3 I J = some t) (hC : (c_X7_trySplit Q) t) : Rn L xs (d + 1) 103 44 [some (.ref 43), some (.int x1), some (.int x2), some (.int x3), none] [] 94 (I, J, xrf) Q := by
  unfold f_X7_trySplit_3 at h
  refine Rn.go 1 (j' := 103) (pc' := 45) (ls' := [some (.ref 43), some (.int x1), some (.int x2), some (.int x3), none]) (st' := [.int 0]) (n' := 94) (M' := (I, J, xrf)) (fun f => rfl) ?_
  exact p_X7_trySplit_4 x1 x2 x3 0 I J h hC
theorem p_X7_trySplit_2 {L : Nat} {xs : Nat → Int32} {d : Nat} {Q : xO → Prop} (x1 : Int32) (x2 : Int32) (x3 : Int32) (I : xI) (J : xJ) {t : Unit × xI × xJ} (h : f_X7_trySplit_2 x1 x2 x3 I J = some t) (hC : (c_X7_trySplit Q) t) : Rn L xs (d + 1) 103 40 [some (.ref 43), some (.int x1), some (.int x2), some (.int x3), none] [] 94 (I, J, xrf) Q := by
  unfold f_X7_trySplit_2 at h
  refine Rn.go 2 (j' := 103) (pc' := 45) (ls' := [some (.ref 43), some (.int x1), some (.int x2), some (.int x3), none]) (st' := [.int 1]) (n' := 94) (M' := (I, J, xrf)) (fun f => rfl) ?_
  exact p_X7_trySplit_4 x1 x2 x3 1 I J h hC
theorem p_X7_trySplit_1 {L : Nat} {xs : Nat → Int32} {d : Nat} {Q : xO → Prop} (x1 : Int32) (x2 : Int32) (x3 : Int32) (I : xI) (J : xJ) {t : Unit × xI × xJ} (h : f_X7_trySplit_1 x1 x2 x3 I J = some t) (hC : (c_X7_trySplit Q) t) : Rn L xs (d + 1) 103 27 [some (.ref 43), some (.int x1), some (.int x2), some (.int x3), none] [] 94 (I, J, xrf) Q := by
  unfold f_X7_trySplit_1 at h
  obtain ⟨hc, h⟩ := xif h
  refine Rn.ok 4 (c := x2 < 0 ∨ 203 ≤ x2.toNatClampNeg) (p1 := 33) (l1 := [some (.ref 43), some (.int x1), some (.int x2), some (.int x3), none]) (s1 := [.int ((I 46 x2.toNatClampNeg))]) (n1 := 94) (M1 := (I, J, xrf)) (fun f => rfl) hc ?_
  refine Rn.fi 3 (c := (I 43 6) ≤ (I 46 x2.toNatClampNeg)) (p1 := 44) (l1 := [some (.ref 43), some (.int x1), some (.int x2), some (.int x3), none]) (s1 := []) (n1 := 94) (M1 := (I, J, xrf)) (p2 := 40) (l2 := [some (.ref 43), some (.int x1), some (.int x2), some (.int x3), none]) (s2 := []) (n2 := 94) (M2 := (I, J, xrf)) (fun f => rfl) (fun hc => ?_) (fun hc => ?_)
  · rw [if_pos hc] at h
    exact p_X7_trySplit_3 x1 x2 x3 I J h hC
  · rw [if_neg hc] at h
    exact p_X7_trySplit_2 x1 x2 x3 I J h hC
theorem p_X7_trySplit_0 {L : Nat} {xs : Nat → Int32} {d : Nat} {Q : xO → Prop} (x1 : Int32) (x2 : Int32) (I : xI) (J : xJ) {t : Unit × xI × xJ} (h : f_X7_trySplit_0 x1 x2 I J = some t) (hC : (c_X7_trySplit Q) t) : Rn L xs (d + 1) 103 0 [some (.ref 43), some (.int x1), some (.int x2), none, none] [] 94 (I, J, xrf) Q := by
  unfold f_X7_trySplit_0 at h
  obtain ⟨hc, h⟩ := xif h
  refine Rn.ok 4 (c := x1 < 0 ∨ 203 ≤ x1.toNatClampNeg) (p1 := 6) (l1 := [some (.ref 43), some (.int x1), some (.int x2), none, none]) (s1 := [.int ((I 46 x1.toNatClampNeg))]) (n1 := 94) (M1 := (I, J, xrf)) (fun f => rfl) hc ?_
  obtain ⟨hc, h⟩ := xif h
  refine Rn.ok 4 (c := x2 < 0 ∨ 203 ≤ x2.toNatClampNeg) (p1 := 12) (l1 := [some (.ref 43), some (.int x1), some (.int x2), none, none]) (s1 := [.int ((I 46 x2.toNatClampNeg)), .int ((I 46 x1.toNatClampNeg))]) (n1 := 94) (M1 := (I, J, xrf)) (fun f => rfl) hc ?_
  obtain ⟨hc, h⟩ := xif h
  refine Rn.ok 6 (c := x1 < 0 ∨ 203 ≤ x1.toNatClampNeg) (p1 := 20) (l1 := [some (.ref 43), some (.int x1), some (.int x2), some (.int (((I 46 x1.toNatClampNeg) + (I 46 x2.toNatClampNeg)))), none]) (s1 := [.int ((I 46 x1.toNatClampNeg))]) (n1 := 94) (M1 := (I, J, xrf)) (fun f => rfl) hc ?_
  refine Rn.fi 3 (c := (I 43 6) ≤ (I 46 x1.toNatClampNeg)) (p1 := 44) (l1 := [some (.ref 43), some (.int x1), some (.int x2), some (.int (((I 46 x1.toNatClampNeg) + (I 46 x2.toNatClampNeg)))), none]) (s1 := []) (n1 := 94) (M1 := (I, J, xrf)) (p2 := 27) (l2 := [some (.ref 43), some (.int x1), some (.int x2), some (.int (((I 46 x1.toNatClampNeg) + (I 46 x2.toNatClampNeg)))), none]) (s2 := []) (n2 := 94) (M2 := (I, J, xrf)) (fun f => rfl) (fun hc => ?_) (fun hc => ?_)
  · rw [if_pos hc] at h
    exact p_X7_trySplit_3 x1 x2 (((I 46 x1.toNatClampNeg) + (I 46 x2.toNatClampNeg))) I J h hC
  · rw [if_neg hc] at h
    exact p_X7_trySplit_1 x1 x2 (((I 46 x1.toNatClampNeg) + (I 46 x2.toNatClampNeg))) I J h hC
theorem p_X7_trySplit {L : Nat} {xs : Nat → Int32} {d : Nat} {Q : xO → Prop} (x1 : Int32) (x2 : Int32) (I : xI) (J : xJ) {t : Unit × xI × xJ} (h : f_X7_trySplit x1 x2 I J = some t) (hC : Q (none, 94, (t.2.1, t.2.2, xrf))) : Rn L xs (d + 1) 103 0 [some (.ref 43), some (.int x1), some (.int x2), none, none] [] 94 (I, J, xrf) Q := p_X7_trySplit_0 x1 x2 I J h hC
/-! X7_refreshSplit -/
def c_X7_refreshSplit (Q : xO → Prop) (t : Unit × xI × xJ) : Prop := Q (none, 94, (t.2.1, t.2.2, xrf))
def c_X7_refreshSplit_3 (L : Nat) (xs : Nat → Int32) (d : Nat) (Q : xO → Prop) (t : (Int32 × (Option Value) × xI × xJ) ⊕ (Unit × xI × xJ)) : Prop := match t with
  | .inl s => Rn L xs (d + 2) 102 46 [some (.ref 43), some (.int s.1), s.2.1] [] 94 (s.2.2.1, s.2.2.2, xrf) Q
  | .inr t => (c_X7_refreshSplit Q) t
def c_X7_refreshSplit_5 (L : Nat) (xs : Nat → Int32) (d : Nat) (Q : xO → Prop) (t : (Int32 × Int32 × xI × xJ) ⊕ ((Int32 × (Option Value) × xI × xJ) ⊕ (Unit × xI × xJ))) : Prop := match t with
  | .inl s => Rn L xs (d + 2) 102 58 [some (.ref 43), some (.int s.1), some (.int s.2.1)] [] 94 (s.2.2.1, s.2.2.2, xrf) Q
  | .inr t => (c_X7_refreshSplit_3 L xs d Q) t
def f_X7_refreshSplit_9 (x1 : Int32) (z2 : Option Value) (I : xI) (J : xJ) : Option (Unit × xI × xJ) := some ((), I, J)
def f_X7_refreshSplit_8 (x1 : Int32) (x2 : Int32) (I : xI) (J : xJ) : Option ((Int32 × (Option Value) × xI × xJ) ⊕ (Unit × xI × xJ)) := some (.inl (((x1 + 1)), (some (.int x2)), I, J))
def f_X7_refreshSplit_7 (x1 : Int32) (x2 : Int32) (I : xI) (J : xJ) : Option ((Int32 × Int32 × xI × xJ) ⊕ ((Int32 × (Option Value) × xI × xJ) ⊕ (Unit × xI × xJ))) := some (.inl (x1, ((x2 + 1)), I, J))
def f_X7_refreshSplit_6 (x1 : Int32) (x2 : Int32) (I : xI) (J : xJ) : Option ((Int32 × Int32 × xI × xJ) ⊕ ((Int32 × (Option Value) × xI × xJ) ⊕ (Unit × xI × xJ))) := if x1 < 0 ∨ 203 ≤ x1.toNatClampNeg then none else if x2 < 0 ∨ 203 ≤ x2.toNatClampNeg then none else (f_X7_trySplit ((I 47 x1.toNatClampNeg)) ((I 47 x2.toNatClampNeg)) I J).bind fun o => f_X7_refreshSplit_7 x1 x2 o.2.1 o.2.2
def b_X7_refreshSplit_5 (x1 : Int32) (x2 : Int32) (I : xI) (J : xJ) : Option ((Int32 × Int32 × xI × xJ) ⊕ ((Int32 × (Option Value) × xI × xJ) ⊕ (Unit × xI × xJ))) := if (I 43 8) ≤ x2 then ((f_X7_refreshSplit_8 x1 x2 I J)).map .inr else f_X7_refreshSplit_6 x1 x2 I J
def f_X7_refreshSplit_5 (x1 : Int32) (x2 : Int32) (I : xI) (J : xJ) : Option ((Int32 × (Option Value) × xI × xJ) ⊕ (Unit × xI × xJ)) := xloop (fun s : Int32 × Int32 × xI × xJ => b_X7_refreshSplit_5 s.1 s.2.1 s.2.2.1 s.2.2.2) 5000 (x1, x2, I, J)
def f_X7_refreshSplit_4 (x1 : Int32) (z2 : Option Value) (I : xI) (J : xJ) : Option ((Int32 × (Option Value) × xI × xJ) ⊕ (Unit × xI × xJ)) := f_X7_refreshSplit_5 x1 ((x1 + 1)) I J
def b_X7_refreshSplit_3 (x1 : Int32) (z2 : Option Value) (I : xI) (J : xJ) : Option ((Int32 × (Option Value) × xI × xJ) ⊕ (Unit × xI × xJ)) := if (I 43 8) ≤ x1 then ((f_X7_refreshSplit_9 x1 z2 I J)).map .inr else f_X7_refreshSplit_4 x1 z2 I J
def f_X7_refreshSplit_3 (x1 : Int32) (z2 : Option Value) (I : xI) (J : xJ) : Option (Unit × xI × xJ) := xloop (fun s : Int32 × (Option Value) × xI × xJ => b_X7_refreshSplit_3 s.1 s.2.1 s.2.2.1 s.2.2.2) 5000 (x1, z2, I, J)
def f_X7_refreshSplit_2 (I : xI) (J : xJ) : Option (Unit × xI × xJ) := f_X7_refreshSplit_3 0 none ((xup ((xup ((xup ((xup I 43 13 ((I 1 2)))) 43 10 ((-2)))) 43 11 ((-2)))) 43 12 ((-2)))) J
def f_X7_refreshSplit_1 (I : xI) (J : xJ) : Option (Unit × xI × xJ) := some ((), I, J)
def f_X7_refreshSplit_0 (I : xI) (J : xJ) : Option (Unit × xI × xJ) := if (I 43 13) = (I 1 2) then f_X7_refreshSplit_1 I J else f_X7_refreshSplit_2 I J
def f_X7_refreshSplit (I : xI) (J : xJ) : Option (Unit × xI × xJ) := f_X7_refreshSplit_0 I J
theorem p_X7_refreshSplit_9 {L : Nat} {xs : Nat → Int32} {d : Nat} {Q : xO → Prop} (x1 : Int32) (z2 : Option Value) (I : xI) (J : xJ) {t : Unit × xI × xJ} (h : f_X7_refreshSplit_9 x1 z2 I J = some t) (hC : (c_X7_refreshSplit Q) t) : Rn L xs (d + 2) 102 94 [some (.ref 43), some (.int x1), z2] [] 94 (I, J, xrf) Q := by
  unfold f_X7_refreshSplit_9 at h
  cases h
  exact Rn.ret 1 (o := (none, 94, (I, J, xrf))) (fun f => rfl) hC
theorem p_X7_refreshSplit_8 {L : Nat} {xs : Nat → Int32} {d : Nat} {Q : xO → Prop} (x1 : Int32) (x2 : Int32) (I : xI) (J : xJ) {t : (Int32 × (Option Value) × xI × xJ) ⊕ (Unit × xI × xJ)} (h : f_X7_refreshSplit_8 x1 x2 I J = some t) (hC : (c_X7_refreshSplit_3 L xs d Q) t) : Rn L xs (d + 2) 102 88 [some (.ref 43), some (.int x1), some (.int x2)] [] 94 (I, J, xrf) Q := by
  unfold f_X7_refreshSplit_8 at h
  refine Rn.go 2 (j' := 102) (pc' := 46) (ls' := [some (.ref 43), some (.int ((x1 + 1))), some (.int x2)]) (st' := []) (n' := 94) (M' := (I, J, xrf)) (fun f => rfl) ?_
  cases h; exact hC
theorem p_X7_refreshSplit_7 {L : Nat} {xs : Nat → Int32} {d : Nat} {Q : xO → Prop} (x1 : Int32) (x2 : Int32) (I : xI) (J : xJ) {t : (Int32 × Int32 × xI × xJ) ⊕ ((Int32 × (Option Value) × xI × xJ) ⊕ (Unit × xI × xJ))} (h : f_X7_refreshSplit_7 x1 x2 I J = some t) (hC : (c_X7_refreshSplit_5 L xs d Q) t) : Rn L xs (d + 2) 102 82 [some (.ref 43), some (.int x1), some (.int x2)] [] 94 (I, J, xrf) Q := by
  unfold f_X7_refreshSplit_7 at h
  refine Rn.go 2 (j' := 102) (pc' := 58) (ls' := [some (.ref 43), some (.int x1), some (.int ((x2 + 1)))]) (st' := []) (n' := 94) (M' := (I, J, xrf)) (fun f => rfl) ?_
  cases h; exact hC
theorem p_X7_refreshSplit_6 {L : Nat} {xs : Nat → Int32} {d : Nat} {Q : xO → Prop} (x1 : Int32) (x2 : Int32) (I : xI) (J : xJ) {t : (Int32 × Int32 × xI × xJ) ⊕ ((Int32 × (Option Value) × xI × xJ) ⊕ (Unit × xI × xJ))} (h : f_X7_refreshSplit_6 x1 x2 I J = some t) (hC : (c_X7_refreshSplit_5 L xs d Q) t) : Rn L xs (d + 2) 102 66 [some (.ref 43), some (.int x1), some (.int x2)] [] 94 (I, J, xrf) Q := by
  unfold f_X7_refreshSplit_6 at h
  obtain ⟨hc, h⟩ := xif h
  refine Rn.ok 5 (c := x1 < 0 ∨ 203 ≤ x1.toNatClampNeg) (p1 := 73) (l1 := [some (.ref 43), some (.int x1), some (.int x2)]) (s1 := [.int ((I 47 x1.toNatClampNeg)), .ref 43]) (n1 := 94) (M1 := (I, J, xrf)) (fun f => rfl) hc ?_
  obtain ⟨hc, h⟩ := xif h
  refine Rn.ok 4 (c := x2 < 0 ∨ 203 ≤ x2.toNatClampNeg) (p1 := 79) (l1 := [some (.ref 43), some (.int x1), some (.int x2)]) (s1 := [.int ((I 47 x2.toNatClampNeg)), .int ((I 47 x1.toNatClampNeg)), .ref 43]) (n1 := 94) (M1 := (I, J, xrf)) (fun f => rfl) hc ?_
  obtain ⟨o, ho, h⟩ := Option.bind_eq_some_iff.mp h
  refine Rn.call (d1 := d + 1) (j1 := 103) (ls1 := [some (.ref 43), some (.int ((I 47 x1.toNatClampNeg))), some (.int ((I 47 x2.toNatClampNeg))), none, none]) (rest := []) (fun f => rfl) ?_
  refine p_X7_trySplit (d := d + 0) ((I 47 x1.toNatClampNeg)) ((I 47 x2.toNatClampNeg)) I J (t := o) ho ?_
  exact p_X7_refreshSplit_7 x1 x2 o.2.1 o.2.2 h hC
theorem q_X7_refreshSplit_5 {L : Nat} {xs : Nat → Int32} {d : Nat} {Q : xO → Prop} (x1 : Int32) (x2 : Int32) (I : xI) (J : xJ) {t : (Int32 × Int32 × xI × xJ) ⊕ ((Int32 × (Option Value) × xI × xJ) ⊕ (Unit × xI × xJ))} (h : b_X7_refreshSplit_5 x1 x2 I J = some t) (hC : (c_X7_refreshSplit_5 L xs d Q) t) : Rn L xs (d + 2) 102 58 [some (.ref 43), some (.int x1), some (.int x2)] [] 94 (I, J, xrf) Q := by
  unfold b_X7_refreshSplit_5 at h
  refine Rn.fi 4 (c := (I 43 8) ≤ x2) (p1 := 88) (l1 := [some (.ref 43), some (.int x1), some (.int x2)]) (s1 := []) (n1 := 94) (M1 := (I, J, xrf)) (p2 := 66) (l2 := [some (.ref 43), some (.int x1), some (.int x2)]) (s2 := []) (n2 := 94) (M2 := (I, J, xrf)) (fun f => rfl) (fun hc => ?_) (fun hc => ?_)
  · rw [if_pos hc] at h
    obtain ⟨t0, h0, rfl⟩ := Option.map_eq_some_iff.mp h
    exact p_X7_refreshSplit_8 x1 x2 I J h0 hC
  · rw [if_neg hc] at h
    exact p_X7_refreshSplit_6 x1 x2 I J h hC
theorem p_X7_refreshSplit_5 {L : Nat} {xs : Nat → Int32} {d : Nat} {Q : xO → Prop} (x1 : Int32) (x2 : Int32) (I : xI) (J : xJ) {t : (Int32 × (Option Value) × xI × xJ) ⊕ (Unit × xI × xJ)} (h : f_X7_refreshSplit_5 x1 x2 I J = some t) (hC : (c_X7_refreshSplit_3 L xs d Q) t) : Rn L xs (d + 2) 102 58 [some (.ref 43), some (.int x1), some (.int x2)] [] 94 (I, J, xrf) Q := by
  unfold f_X7_refreshSplit_5 at h
  exact xloop_some (P := fun s : Int32 × Int32 × xI × xJ => Rn L xs (d + 2) 102 58 [some (.ref 43), some (.int s.1), some (.int s.2.1)] [] 94 (s.2.2.1, s.2.2.2, xrf) Q) t (fun s ⟨s', hb, hp⟩ => q_X7_refreshSplit_5 s.1 s.2.1 s.2.2.1 s.2.2.2 hb hp) (fun s hb => q_X7_refreshSplit_5 s.1 s.2.1 s.2.2.1 s.2.2.2 hb hC) _ _ h
theorem p_X7_refreshSplit_4 {L : Nat} {xs : Nat → Int32} {d : Nat} {Q : xO → Prop} (x1 : Int32) (z2 : Option Value) (I : xI) (J : xJ) {t : (Int32 × (Option Value) × xI × xJ) ⊕ (Unit × xI × xJ)} (h : f_X7_refreshSplit_4 x1 z2 I J = some t) (hC : (c_X7_refreshSplit_3 L xs d Q) t) : Rn L xs (d + 2) 102 54 [some (.ref 43), some (.int x1), z2] [] 94 (I, J, xrf) Q := by
  unfold f_X7_refreshSplit_4 at h
  refine Rn.go 4 (j' := 102) (pc' := 58) (ls' := [some (.ref 43), some (.int x1), some (.int ((x1 + 1)))]) (st' := []) (n' := 94) (M' := (I, J, xrf)) (fun f => rfl) ?_
  exact p_X7_refreshSplit_5 x1 ((x1 + 1)) I J h hC
theorem q_X7_refreshSplit_3 {L : Nat} {xs : Nat → Int32} {d : Nat} {Q : xO → Prop} (x1 : Int32) (z2 : Option Value) (I : xI) (J : xJ) {t : (Int32 × (Option Value) × xI × xJ) ⊕ (Unit × xI × xJ)} (h : b_X7_refreshSplit_3 x1 z2 I J = some t) (hC : (c_X7_refreshSplit_3 L xs d Q) t) : Rn L xs (d + 2) 102 46 [some (.ref 43), some (.int x1), z2] [] 94 (I, J, xrf) Q := by
  unfold b_X7_refreshSplit_3 at h
  refine Rn.fi 4 (c := (I 43 8) ≤ x1) (p1 := 94) (l1 := [some (.ref 43), some (.int x1), z2]) (s1 := []) (n1 := 94) (M1 := (I, J, xrf)) (p2 := 54) (l2 := [some (.ref 43), some (.int x1), z2]) (s2 := []) (n2 := 94) (M2 := (I, J, xrf)) (fun f => rfl) (fun hc => ?_) (fun hc => ?_)
  · rw [if_pos hc] at h
    obtain ⟨t0, h0, rfl⟩ := Option.map_eq_some_iff.mp h
    exact p_X7_refreshSplit_9 x1 z2 I J h0 hC
  · rw [if_neg hc] at h
    exact p_X7_refreshSplit_4 x1 z2 I J h hC
theorem p_X7_refreshSplit_3 {L : Nat} {xs : Nat → Int32} {d : Nat} {Q : xO → Prop} (x1 : Int32) (z2 : Option Value) (I : xI) (J : xJ) {t : Unit × xI × xJ} (h : f_X7_refreshSplit_3 x1 z2 I J = some t) (hC : (c_X7_refreshSplit Q) t) : Rn L xs (d + 2) 102 46 [some (.ref 43), some (.int x1), z2] [] 94 (I, J, xrf) Q := by
  unfold f_X7_refreshSplit_3 at h
  exact xloop_some (P := fun s : Int32 × (Option Value) × xI × xJ => Rn L xs (d + 2) 102 46 [some (.ref 43), some (.int s.1), s.2.1] [] 94 (s.2.2.1, s.2.2.2, xrf) Q) t (fun s ⟨s', hb, hp⟩ => q_X7_refreshSplit_3 s.1 s.2.1 s.2.2.1 s.2.2.2 hb hp) (fun s hb => q_X7_refreshSplit_3 s.1 s.2.1 s.2.2.1 s.2.2.2 hb hC) _ _ h
theorem p_X7_refreshSplit_2 {L : Nat} {xs : Nat → Int32} {d : Nat} {Q : xO → Prop} (I : xI) (J : xJ) {t : Unit × xI × xJ} (h : f_X7_refreshSplit_2 I J = some t) (hC : (c_X7_refreshSplit Q) t) : Rn L xs (d + 2) 102 15 [some (.ref 43), none, none] [] 94 (I, J, xrf) Q := by
  unfold f_X7_refreshSplit_2 at h
  refine Rn.go 16 (j' := 102) (pc' := 46) (ls' := [some (.ref 43), some (.int 0), none]) (st' := []) (n' := 94) (M' := ((xup ((xup ((xup ((xup I 43 13 ((I 1 2)))) 43 10 ((-2)))) 43 11 ((-2)))) 43 12 ((-2))), J, xrf)) (fun f => rfl) ?_
  exact p_X7_refreshSplit_3 0 none ((xup ((xup ((xup ((xup I 43 13 ((I 1 2)))) 43 10 ((-2)))) 43 11 ((-2)))) 43 12 ((-2)))) J h hC
theorem p_X7_refreshSplit_1 {L : Nat} {xs : Nat → Int32} {d : Nat} {Q : xO → Prop} (I : xI) (J : xJ) {t : Unit × xI × xJ} (h : f_X7_refreshSplit_1 I J = some t) (hC : (c_X7_refreshSplit Q) t) : Rn L xs (d + 2) 102 14 [some (.ref 43), none, none] [] 94 (I, J, xrf) Q := by
  unfold f_X7_refreshSplit_1 at h
  cases h
  exact Rn.ret 1 (o := (none, 94, (I, J, xrf))) (fun f => rfl) hC
theorem p_X7_refreshSplit_0 {L : Nat} {xs : Nat → Int32} {d : Nat} {Q : xO → Prop} (I : xI) (J : xJ) {t : Unit × xI × xJ} (h : f_X7_refreshSplit_0 I J = some t) (hC : (c_X7_refreshSplit Q) t) : Rn L xs (d + 2) 102 0 [some (.ref 43), none, none] [] 94 (I, J, xrf) Q := by
  unfold f_X7_refreshSplit_0 at h
  refine Rn.fi 6 (c := (I 43 13) = (I 1 2)) (p1 := 14) (l1 := [some (.ref 43), none, none]) (s1 := []) (n1 := 94) (M1 := (I, J, xrf)) (p2 := 15) (l2 := [some (.ref 43), none, none]) (s2 := []) (n2 := 94) (M2 := (I, J, xrf)) (fun f => rfl) (fun hc => ?_) (fun hc => ?_)
  · rw [if_pos hc] at h
    exact p_X7_refreshSplit_1 I J h hC
  · rw [if_neg hc] at h
    exact p_X7_refreshSplit_2 I J h hC
theorem p_X7_refreshSplit {L : Nat} {xs : Nat → Int32} {d : Nat} {Q : xO → Prop} (I : xI) (J : xJ) {t : Unit × xI × xJ} (h : f_X7_refreshSplit I J = some t) (hC : Q (none, 94, (t.2.1, t.2.2, xrf))) : Rn L xs (d + 2) 102 0 [some (.ref 43), none, none] [] 94 (I, J, xrf) Q := p_X7_refreshSplit_0 I J h hC
/-! X11_split -/
def c_X11_split (Q : xO → Prop) (t : Int32 × xI × xJ) : Prop := Q ((some (.int t.1)), 94, (t.2.1, t.2.2, xrf))
def f_X11_split_2 (x1 : Int32) (I : xI) (J : xJ) : Option (Int32 × xI × xJ) := some ((-1), I, J)
def f_X11_split_7 (x1 : Int32) (I : xI) (J : xJ) : Option (Int32 × xI × xJ) := some ((I 43 10), I, J)
def f_X11_split_8 (x1 : Int32) (I : xI) (J : xJ) : Option (Int32 × xI × xJ) := some ((I 43 11), I, J)
def f_X11_split_9 (x1 : Int32) (I : xI) (J : xJ) : Option (Int32 × xI × xJ) := some ((I 43 12), I, J)
def f_X11_split_6 (x1 : Int32) (s0 : Int32) (I : xI) (J : xJ) : Option (Int32 × xI × xJ) := if s0 = 0 then f_X11_split_7 x1 I J else if s0 = 1 then f_X11_split_8 x1 I J else f_X11_split_9 x1 I J
def f_X11_split_5 (x1 : Int32) (I : xI) (J : xJ) : Option (Int32 × xI × xJ) := f_X11_split_6 x1 x1 I J
def f_X11_split_4 (x1 : Int32) (I : xI) (J : xJ) : Option (Int32 × xI × xJ) := (f_X7_refreshSplit I J).bind fun o => f_X11_split_5 x1 o.2.1 o.2.2
def f_X11_split_3 (x1 : Int32) (I : xI) (J : xJ) : Option (Int32 × xI × xJ) := (f_X11_partitionsNow I J).bind fun o => f_X11_split_4 x1 o.2.1 o.2.2
def f_X11_split_1 (x1 : Int32) (I : xI) (J : xJ) : Option (Int32 × xI × xJ) := if x1 ≤ 2 then f_X11_split_3 x1 I J else f_X11_split_2 x1 I J
def f_X11_split_0 (x1 : Int32) (I : xI) (J : xJ) : Option (Int32 × xI × xJ) := if x1 < 0 then f_X11_split_2 x1 I J else f_X11_split_1 x1 I J
def f_X11_split (x1 : Int32) (I : xI) (J : xJ) : Option (Int32 × xI × xJ) := f_X11_split_0 x1 I J
theorem p_X11_split_2 {L : Nat} {xs : Nat → Int32} {d : Nat} {Q : xO → Prop} (x1 : Int32) (I : xI) (J : xJ) {t : Int32 × xI × xJ} (h : f_X11_split_2 x1 I J = some t) (hC : (c_X11_split Q) t) : Rn L xs (d + 18) 162 9 [some (.ref 0), some (.int x1)] [] 94 (I, J, xrf) Q := by
  unfold f_X11_split_2 at h
  cases h
  exact Rn.ret 2 (o := ((some (.int ((-1)))), 94, (I, J, xrf))) (fun f => rfl) hC
theorem p_X11_split_7 {L : Nat} {xs : Nat → Int32} {d : Nat} {Q : xO → Prop} (x1 : Int32) (I : xI) (J : xJ) {t : Int32 × xI × xJ} (h : f_X11_split_7 x1 I J = some t) (hC : (c_X11_split Q) t) : Rn L xs (d + 18) 162 44 [some (.ref 0), some (.int x1)] [] 94 (I, J, xrf) Q := by
  unfold f_X11_split_7 at h
  cases h
  exact Rn.ret 4 (o := ((some (.int ((I 43 10)))), 94, (I, J, xrf))) (fun f => rfl) hC
theorem p_X11_split_8 {L : Nat} {xs : Nat → Int32} {d : Nat} {Q : xO → Prop} (x1 : Int32) (I : xI) (J : xJ) {t : Int32 × xI × xJ} (h : f_X11_split_8 x1 I J = some t) (hC : (c_X11_split Q) t) : Rn L xs (d + 18) 162 52 [some (.ref 0), some (.int x1)] [] 94 (I, J, xrf) Q := by
  unfold f_X11_split_8 at h
  cases h
  exact Rn.ret 4 (o := ((some (.int ((I 43 11)))), 94, (I, J, xrf))) (fun f => rfl) hC
theorem p_X11_split_9 {L : Nat} {xs : Nat → Int32} {d : Nat} {Q : xO → Prop} (x1 : Int32) (I : xI) (J : xJ) {t : Int32 × xI × xJ} (h : f_X11_split_9 x1 I J = some t) (hC : (c_X11_split Q) t) : Rn L xs (d + 18) 162 60 [some (.ref 0), some (.int x1)] [] 94 (I, J, xrf) Q := by
  unfold f_X11_split_9 at h
  cases h
  exact Rn.ret 4 (o := ((some (.int ((I 43 12)))), 94, (I, J, xrf))) (fun f => rfl) hC
theorem p_X11_split_6 {L : Nat} {xs : Nat → Int32} {d : Nat} {Q : xO → Prop} (x1 : Int32) (s0 : Int32) (I : xI) (J : xJ) {t : Int32 × xI × xJ} (h : f_X11_split_6 x1 s0 I J = some t) (hC : (c_X11_split Q) t) : Rn L xs (d + 18) 162 19 [some (.ref 0), some (.int x1)] [.int s0] 94 (I, J, xrf) Q := by
  unfold f_X11_split_6 at h
  by_cases hc0 : s0 = 0
  · rw [if_pos hc0] at h; subst hc0
    refine Rn.go 1 (j' := 162) (pc' := 44) (ls' := [some (.ref 0), some (.int x1)]) (st' := []) (n' := 94) (M' := (I, J, xrf)) (fun f => rfl) ?_
    exact p_X11_split_7 x1 I J h hC
  rw [if_neg hc0] at h
  by_cases hc1 : s0 = 1
  · rw [if_pos hc1] at h; subst hc1
    refine Rn.go 1 (j' := 162) (pc' := 52) (ls' := [some (.ref 0), some (.int x1)]) (st' := []) (n' := 94) (M' := (I, J, xrf)) (fun f => rfl) ?_
    exact p_X11_split_8 x1 I J h hC
  rw [if_neg hc1] at h
  refine Rn.go 1 (d' := (d + 18)) (j' := 162) (pc' := 60) (ls' := [some (.ref 0), some (.int x1)]) (st' := []) (n' := 94) (M' := (I, J, xrf)) (fun f => by show xrun L xs f _ _ (xtg 19 (Op.lookupswitch.offset [(0, 25), (1, 33)] 41 (Int32.toInt s0))) _ _ _ _ = _; rw [lv_osw (a := 0) hc0 rfl, lv_osw (a := 1) hc1 rfl] <;> rfl) ?_
  exact p_X11_split_9 x1 I J h hC
theorem p_X11_split_5 {L : Nat} {xs : Nat → Int32} {d : Nat} {Q : xO → Prop} (x1 : Int32) (I : xI) (J : xJ) {t : Int32 × xI × xJ} (h : f_X11_split_5 x1 I J = some t) (hC : (c_X11_split Q) t) : Rn L xs (d + 18) 162 18 [some (.ref 0), some (.int x1)] [] 94 (I, J, xrf) Q := by
  unfold f_X11_split_5 at h
  refine Rn.go 1 (j' := 162) (pc' := 19) (ls' := [some (.ref 0), some (.int x1)]) (st' := [.int x1]) (n' := 94) (M' := (I, J, xrf)) (fun f => rfl) ?_
  exact p_X11_split_6 x1 x1 I J h hC
theorem p_X11_split_4 {L : Nat} {xs : Nat → Int32} {d : Nat} {Q : xO → Prop} (x1 : Int32) (I : xI) (J : xJ) {t : Int32 × xI × xJ} (h : f_X11_split_4 x1 I J = some t) (hC : (c_X11_split Q) t) : Rn L xs (d + 18) 162 15 [some (.ref 0), some (.int x1)] [.ref 43] 94 (I, J, xrf) Q := by
  unfold f_X11_split_4 at h
  obtain ⟨o, ho, h⟩ := Option.bind_eq_some_iff.mp h
  refine Rn.call (d1 := d + 17) (j1 := 102) (ls1 := [some (.ref 43), none, none]) (rest := []) (fun f => rfl) ?_
  refine p_X7_refreshSplit (d := d + 15) I J (t := o) ho ?_
  exact p_X11_split_5 x1 o.2.1 o.2.2 h hC
theorem p_X11_split_3 {L : Nat} {xs : Nat → Int32} {d : Nat} {Q : xO → Prop} (x1 : Int32) (I : xI) (J : xJ) {t : Int32 × xI × xJ} (h : f_X11_split_3 x1 I J = some t) (hC : (c_X11_split Q) t) : Rn L xs (d + 18) 162 11 [some (.ref 0), some (.int x1)] [] 94 (I, J, xrf) Q := by
  unfold f_X11_split_3 at h
  refine Rn.go 1 (j' := 162) (pc' := 12) (ls' := [some (.ref 0), some (.int x1)]) (st' := [.ref 0]) (n' := 94) (M' := (I, J, xrf)) (fun f => rfl) ?_
  obtain ⟨o, ho, h⟩ := Option.bind_eq_some_iff.mp h
  refine Rn.call (d1 := d + 17) (j1 := 179) (ls1 := [some (.ref 0)]) (rest := []) (fun f => rfl) ?_
  refine p_X11_partitionsNow (d := d + 0) I J (t := o) ho ?_
  exact p_X11_split_4 x1 o.2.1 o.2.2 h hC
theorem p_X11_split_1 {L : Nat} {xs : Nat → Int32} {d : Nat} {Q : xO → Prop} (x1 : Int32) (I : xI) (J : xJ) {t : Int32 × xI × xJ} (h : f_X11_split_1 x1 I J = some t) (hC : (c_X11_split Q) t) : Rn L xs (d + 18) 162 4 [some (.ref 0), some (.int x1)] [] 94 (I, J, xrf) Q := by
  unfold f_X11_split_1 at h
  refine Rn.fi 3 (c := x1 ≤ 2) (p1 := 11) (l1 := [some (.ref 0), some (.int x1)]) (s1 := []) (n1 := 94) (M1 := (I, J, xrf)) (p2 := 9) (l2 := [some (.ref 0), some (.int x1)]) (s2 := []) (n2 := 94) (M2 := (I, J, xrf)) (fun f => rfl) (fun hc => ?_) (fun hc => ?_)
  · rw [if_pos hc] at h
    exact p_X11_split_3 x1 I J h hC
  · rw [if_neg hc] at h
    exact p_X11_split_2 x1 I J h hC
theorem p_X11_split_0 {L : Nat} {xs : Nat → Int32} {d : Nat} {Q : xO → Prop} (x1 : Int32) (I : xI) (J : xJ) {t : Int32 × xI × xJ} (h : f_X11_split_0 x1 I J = some t) (hC : (c_X11_split Q) t) : Rn L xs (d + 18) 162 0 [some (.ref 0), some (.int x1)] [] 94 (I, J, xrf) Q := by
  unfold f_X11_split_0 at h
  refine Rn.fi 2 (c := x1 < 0) (p1 := 9) (l1 := [some (.ref 0), some (.int x1)]) (s1 := []) (n1 := 94) (M1 := (I, J, xrf)) (p2 := 4) (l2 := [some (.ref 0), some (.int x1)]) (s2 := []) (n2 := 94) (M2 := (I, J, xrf)) (fun f => rfl) (fun hc => ?_) (fun hc => ?_)
  · rw [if_pos hc] at h
    exact p_X11_split_2 x1 I J h hC
  · rw [if_neg hc] at h
    exact p_X11_split_1 x1 I J h hC
theorem p_X11_split {L : Nat} {xs : Nat → Int32} {d : Nat} {Q : xO → Prop} (x1 : Int32) (I : xI) (J : xJ) {t : Int32 × xI × xJ} (h : f_X11_split x1 I J = some t) (hC : Q ((some (.int t.1)), 94, (t.2.1, t.2.2, xrf))) : Rn L xs (d + 18) 162 0 [some (.ref 0), some (.int x1)] [] 94 (I, J, xrf) Q := p_X11_split_0 x1 I J h hC
/-! X7_goingIndexOf -/
def c_X7_goingIndexOf (Q : xO → Prop) (t : Int32 × xI × xJ) : Prop := Q ((some (.int t.1)), 94, (t.2.1, t.2.2, xrf))
def f_X7_goingIndexOf_6 (x1 : Int32) (x2 : Int32) (s0 : Int32) (I : xI) (J : xJ) : Option (Int32 × xI × xJ) := some (s0, I, J)
def f_X7_goingIndexOf_5 (x1 : Int32) (x2 : Int32) (I : xI) (J : xJ) : Option (Int32 × xI × xJ) := f_X7_goingIndexOf_6 x1 x2 ((-1)) I J
def f_X7_goingIndexOf_4 (x1 : Int32) (x2 : Int32) (I : xI) (J : xJ) : Option (Int32 × xI × xJ) := f_X7_goingIndexOf_6 x1 x2 x2 I J
def f_X7_goingIndexOf_3 (x1 : Int32) (x2 : Int32) (s0 : Int32) (I : xI) (J : xJ) : Option (Int32 × xI × xJ) := if s0 = 0 then f_X7_goingIndexOf_5 x1 x2 I J else f_X7_goingIndexOf_4 x1 x2 I J
def f_X7_goingIndexOf_2 (x1 : Int32) (x2 : Int32) (I : xI) (J : xJ) : Option (Int32 × xI × xJ) := (f_X7_stays x2 I J).bind fun o => f_X7_goingIndexOf_3 x1 x2 o.1 o.2.1 o.2.2
def f_X7_goingIndexOf_1 (x1 : Int32) (s0 : Int32) (I : xI) (J : xJ) : Option (Int32 × xI × xJ) := if s0 = (-1) then f_X7_goingIndexOf_5 x1 s0 I J else f_X7_goingIndexOf_2 x1 s0 I J
def f_X7_goingIndexOf_0 (x1 : Int32) (I : xI) (J : xJ) : Option (Int32 × xI × xJ) := (f_X7_indexOf x1 I J).bind fun o => f_X7_goingIndexOf_1 x1 o.1 o.2.1 o.2.2
def f_X7_goingIndexOf (x1 : Int32) (I : xI) (J : xJ) : Option (Int32 × xI × xJ) := f_X7_goingIndexOf_0 x1 I J
theorem p_X7_goingIndexOf_6 {L : Nat} {xs : Nat → Int32} {d : Nat} {Q : xO → Prop} (x1 : Int32) (x2 : Int32) (s0 : Int32) (I : xI) (J : xJ) {t : Int32 × xI × xJ} (h : f_X7_goingIndexOf_6 x1 x2 s0 I J = some t) (hC : (c_X7_goingIndexOf Q) t) : Rn L xs (d + 3) 94 24 [some (.ref 43), some (.int x1), some (.int x2)] [.int s0] 94 (I, J, xrf) Q := by
  unfold f_X7_goingIndexOf_6 at h
  cases h
  exact Rn.ret 1 (o := ((some (.int s0)), 94, (I, J, xrf))) (fun f => rfl) hC
theorem p_X7_goingIndexOf_5 {L : Nat} {xs : Nat → Int32} {d : Nat} {Q : xO → Prop} (x1 : Int32) (x2 : Int32) (I : xI) (J : xJ) {t : Int32 × xI × xJ} (h : f_X7_goingIndexOf_5 x1 x2 I J = some t) (hC : (c_X7_goingIndexOf Q) t) : Rn L xs (d + 3) 94 23 [some (.ref 43), some (.int x1), some (.int x2)] [] 94 (I, J, xrf) Q := by
  unfold f_X7_goingIndexOf_5 at h
  refine Rn.go 1 (j' := 94) (pc' := 24) (ls' := [some (.ref 43), some (.int x1), some (.int x2)]) (st' := [.int ((-1))]) (n' := 94) (M' := (I, J, xrf)) (fun f => rfl) ?_
  exact p_X7_goingIndexOf_6 x1 x2 ((-1)) I J h hC
theorem p_X7_goingIndexOf_4 {L : Nat} {xs : Nat → Int32} {d : Nat} {Q : xO → Prop} (x1 : Int32) (x2 : Int32) (I : xI) (J : xJ) {t : Int32 × xI × xJ} (h : f_X7_goingIndexOf_4 x1 x2 I J = some t) (hC : (c_X7_goingIndexOf Q) t) : Rn L xs (d + 3) 94 19 [some (.ref 43), some (.int x1), some (.int x2)] [] 94 (I, J, xrf) Q := by
  unfold f_X7_goingIndexOf_4 at h
  refine Rn.go 2 (j' := 94) (pc' := 24) (ls' := [some (.ref 43), some (.int x1), some (.int x2)]) (st' := [.int x2]) (n' := 94) (M' := (I, J, xrf)) (fun f => rfl) ?_
  exact p_X7_goingIndexOf_6 x1 x2 x2 I J h hC
theorem p_X7_goingIndexOf_3 {L : Nat} {xs : Nat → Int32} {d : Nat} {Q : xO → Prop} (x1 : Int32) (x2 : Int32) (s0 : Int32) (I : xI) (J : xJ) {t : Int32 × xI × xJ} (h : f_X7_goingIndexOf_3 x1 x2 s0 I J = some t) (hC : (c_X7_goingIndexOf Q) t) : Rn L xs (d + 3) 94 16 [some (.ref 43), some (.int x1), some (.int x2)] [.int s0] 94 (I, J, xrf) Q := by
  unfold f_X7_goingIndexOf_3 at h
  refine Rn.fi 1 (c := s0 = 0) (p1 := 23) (l1 := [some (.ref 43), some (.int x1), some (.int x2)]) (s1 := []) (n1 := 94) (M1 := (I, J, xrf)) (p2 := 19) (l2 := [some (.ref 43), some (.int x1), some (.int x2)]) (s2 := []) (n2 := 94) (M2 := (I, J, xrf)) (fun f => rfl) (fun hc => ?_) (fun hc => ?_)
  · rw [if_pos hc] at h
    exact p_X7_goingIndexOf_5 x1 x2 I J h hC
  · rw [if_neg hc] at h
    exact p_X7_goingIndexOf_4 x1 x2 I J h hC
theorem p_X7_goingIndexOf_2 {L : Nat} {xs : Nat → Int32} {d : Nat} {Q : xO → Prop} (x1 : Int32) (x2 : Int32) (I : xI) (J : xJ) {t : Int32 × xI × xJ} (h : f_X7_goingIndexOf_2 x1 x2 I J = some t) (hC : (c_X7_goingIndexOf Q) t) : Rn L xs (d + 3) 94 11 [some (.ref 43), some (.int x1), some (.int x2)] [] 94 (I, J, xrf) Q := by
  unfold f_X7_goingIndexOf_2 at h
  refine Rn.go 2 (j' := 94) (pc' := 13) (ls' := [some (.ref 43), some (.int x1), some (.int x2)]) (st' := [.int x2, .ref 43]) (n' := 94) (M' := (I, J, xrf)) (fun f => rfl) ?_
  obtain ⟨o, ho, h⟩ := Option.bind_eq_some_iff.mp h
  refine Rn.call (d1 := d + 2) (j1 := 95) (ls1 := [some (.ref 43), some (.int x2)]) (rest := []) (fun f => rfl) ?_
  refine p_X7_stays (d := d + 0) x2 I J (t := o) ho ?_
  exact p_X7_goingIndexOf_3 x1 x2 o.1 o.2.1 o.2.2 h hC
theorem p_X7_goingIndexOf_1 {L : Nat} {xs : Nat → Int32} {d : Nat} {Q : xO → Prop} (x1 : Int32) (s0 : Int32) (I : xI) (J : xJ) {t : Int32 × xI × xJ} (h : f_X7_goingIndexOf_1 x1 s0 I J = some t) (hC : (c_X7_goingIndexOf Q) t) : Rn L xs (d + 3) 94 5 [some (.ref 43), some (.int x1), none] [.int s0] 94 (I, J, xrf) Q := by
  unfold f_X7_goingIndexOf_1 at h
  refine Rn.fi 4 (c := s0 = (-1)) (p1 := 23) (l1 := [some (.ref 43), some (.int x1), some (.int s0)]) (s1 := []) (n1 := 94) (M1 := (I, J, xrf)) (p2 := 11) (l2 := [some (.ref 43), some (.int x1), some (.int s0)]) (s2 := []) (n2 := 94) (M2 := (I, J, xrf)) (fun f => rfl) (fun hc => ?_) (fun hc => ?_)
  · rw [if_pos hc] at h
    exact p_X7_goingIndexOf_5 x1 s0 I J h hC
  · rw [if_neg hc] at h
    exact p_X7_goingIndexOf_2 x1 s0 I J h hC
theorem p_X7_goingIndexOf_0 {L : Nat} {xs : Nat → Int32} {d : Nat} {Q : xO → Prop} (x1 : Int32) (I : xI) (J : xJ) {t : Int32 × xI × xJ} (h : f_X7_goingIndexOf_0 x1 I J = some t) (hC : (c_X7_goingIndexOf Q) t) : Rn L xs (d + 3) 94 0 [some (.ref 43), some (.int x1), none] [] 94 (I, J, xrf) Q := by
  unfold f_X7_goingIndexOf_0 at h
  refine Rn.go 2 (j' := 94) (pc' := 2) (ls' := [some (.ref 43), some (.int x1), none]) (st' := [.int x1, .ref 43]) (n' := 94) (M' := (I, J, xrf)) (fun f => rfl) ?_
  obtain ⟨o, ho, h⟩ := Option.bind_eq_some_iff.mp h
  refine Rn.call (d1 := d + 2) (j1 := 93) (ls1 := [some (.ref 43), some (.int x1), none]) (rest := []) (fun f => rfl) ?_
  refine p_X7_indexOf (d := d + 1) x1 I J (t := o) ho ?_
  exact p_X7_goingIndexOf_1 x1 o.1 o.2.1 o.2.2 h hC
theorem p_X7_goingIndexOf {L : Nat} {xs : Nat → Int32} {d : Nat} {Q : xO → Prop} (x1 : Int32) (I : xI) (J : xJ) {t : Int32 × xI × xJ} (h : f_X7_goingIndexOf x1 I J = some t) (hC : Q ((some (.int t.1)), 94, (t.2.1, t.2.2, xrf))) : Rn L xs (d + 3) 94 0 [some (.ref 43), some (.int x1), none] [] 94 (I, J, xrf) Q := p_X7_goingIndexOf_0 x1 I J h hC
