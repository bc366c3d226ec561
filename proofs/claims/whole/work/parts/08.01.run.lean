/-! X8_stateIn -/
def c_X8_stateIn (Q : xO → Prop) (t : Int32 × xI × xJ) : Prop := Q ((some (.int t.1)), 94, (t.2.1, t.2.2, xrf))
def c_X8_stateIn_4 (L : Nat) (xs : Nat → Int32) (d : Nat) (Q : xO → Prop) (t : (Int32 × Int32 × (Option Value) × xI × xJ) ⊕ (Int32 × xI × xJ)) : Prop := match t with
  | .inl s => Rn L xs (d + 3) 115 12 [some (.ref 30), some (.int s.1), some (.int s.2.1), s.2.2.1] [] 94 (s.2.2.2.1, s.2.2.2.2, xrf) Q
  | .inr t => (c_X8_stateIn Q) t
def f_X8_stateIn_10 (x1 : Int32) (x2 : Int32) (z3 : Option Value) (I : xI) (J : xJ) : Option (Int32 × xI × xJ) := some ((-1), I, J)
def f_X8_stateIn_9 (x1 : Int32) (x2 : Int32) (x3 : Int32) (I : xI) (J : xJ) : Option ((Int32 × Int32 × (Option Value) × xI × xJ) ⊕ (Int32 × xI × xJ)) := some (.inl (x1, ((x2 + 1)), (some (.int x3)), I, J))
def f_X8_stateIn_8 (x1 : Int32) (x2 : Int32) (x3 : Int32) (I : xI) (J : xJ) : Option (Int32 × xI × xJ) := some (x2, I, J)
def f_X8_stateIn_7 (x1 : Int32) (x2 : Int32) (x3 : Int32) (s0 : Int32) (I : xI) (J : xJ) : Option ((Int32 × Int32 × (Option Value) × xI × xJ) ⊕ (Int32 × xI × xJ)) := if s0 = 0 then f_X8_stateIn_9 x1 x2 x3 I J else ((f_X8_stateIn_8 x1 x2 x3 I J)).map .inr
def f_X8_stateIn_6 (x1 : Int32) (x2 : Int32) (x3 : Int32) (I : xI) (J : xJ) : Option ((Int32 × Int32 × (Option Value) × xI × xJ) ⊕ (Int32 × xI × xJ)) := if x3 < 0 ∨ 400 ≤ x3.toNatClampNeg then none else if x1 < 0 ∨ 400 ≤ x1.toNatClampNeg then none else if x3 < 0 ∨ 400 ≤ x3.toNatClampNeg then none else (f_X9_saysAlike ((I 28 x3.toNatClampNeg)) ((I 28 x1.toNatClampNeg)) ((I 29 x3.toNatClampNeg)) I J).bind fun o => f_X8_stateIn_7 x1 x2 x3 o.1 o.2.1 o.2.2
def f_X8_stateIn_5 (x1 : Int32) (x2 : Int32) (z3 : Option Value) (I : xI) (J : xJ) : Option ((Int32 × Int32 × (Option Value) × xI × xJ) ⊕ (Int32 × xI × xJ)) := if x2 < 0 ∨ 6 ≤ x2.toNatClampNeg then none else if (I 31 x2.toNatClampNeg) < 0 ∨ 400 ≤ ((I 31 x2.toNatClampNeg)).toNatClampNeg then none else if x1 < 0 ∨ 400 ≤ x1.toNatClampNeg then none else if (I 29 ((I 31 x2.toNatClampNeg)).toNatClampNeg) = (I 29 x1.toNatClampNeg) then f_X8_stateIn_6 x1 x2 ((I 31 x2.toNatClampNeg)) I J else f_X8_stateIn_9 x1 x2 ((I 31 x2.toNatClampNeg)) I J
def b_X8_stateIn_4 (x1 : Int32) (x2 : Int32) (z3 : Option Value) (I : xI) (J : xJ) : Option ((Int32 × Int32 × (Option Value) × xI × xJ) ⊕ (Int32 × xI × xJ)) := if (I 30 3) ≤ x2 then ((f_X8_stateIn_10 x1 x2 z3 I J)).map .inr else f_X8_stateIn_5 x1 x2 z3 I J
def f_X8_stateIn_4 (x1 : Int32) (x2 : Int32) (z3 : Option Value) (I : xI) (J : xJ) : Option (Int32 × xI × xJ) := xloop (fun s : Int32 × Int32 × (Option Value) × xI × xJ => b_X8_stateIn_4 s.1 s.2.1 s.2.2.1 s.2.2.2.1 s.2.2.2.2) 5000 (x1, x2, z3, I, J)
def f_X8_stateIn_3 (x1 : Int32) (I : xI) (J : xJ) : Option (Int32 × xI × xJ) := f_X8_stateIn_4 x1 0 none I J
def f_X8_stateIn_2 (x1 : Int32) (I : xI) (J : xJ) : Option (Int32 × xI × xJ) := some ((-1), I, J)
def f_X8_stateIn_1 (x1 : Int32) (s0 : Int32) (I : xI) (J : xJ) : Option (Int32 × xI × xJ) := if s0 = 0 then f_X8_stateIn_2 x1 I J else f_X8_stateIn_3 x1 I J
def f_X8_stateIn_0 (x1 : Int32) (I : xI) (J : xJ) : Option (Int32 × xI × xJ) := (f_X8_isToken x1 I J).bind fun o => f_X8_stateIn_1 x1 o.1 o.2.1 o.2.2
def f_X8_stateIn (x1 : Int32) (I : xI) (J : xJ) : Option (Int32 × xI × xJ) := f_X8_stateIn_0 x1 I J
theorem p_X8_stateIn_10 {L : Nat} {xs : Nat → Int32} {d : Nat} {Q : xO → Prop} (x1 : Int32) (x2 : Int32) (z3 : Option Value) (I : xI) (J : xJ) {t : Int32 × xI × xJ} (h : f_X8_stateIn_10 x1 x2 z3 I J = some t) (hC : (c_X8_stateIn Q) t) : Rn L xs (d + 3) 115 93 [some (.ref 30), some (.int x1), some (.int x2), z3] [] 94 (I, J, xrf) Q := by
  unfold f_X8_stateIn_10 at h
  cases h
  exact Rn.ret 2 (o := ((some (.int ((-1)))), 94, (I, J, xrf))) (fun f => rfl) hC
theorem p_X8_stateIn_9 {L : Nat} {xs : Nat → Int32} {d : Nat} {Q : xO → Prop} (x1 : Int32) (x2 : Int32) (x3 : Int32) (I : xI) (J : xJ) {t : (Int32 × Int32 × (Option Value) × xI × xJ) ⊕ (Int32 × xI × xJ)} (h : f_X8_stateIn_9 x1 x2 x3 I J = some t) (hC : (c_X8_stateIn_4 L xs d Q) t) : Rn L xs (d + 3) 115 87 [some (.ref 30), some (.int x1), some (.int x2), some (.int x3)] [] 94 (I, J, xrf) Q := by
  unfold f_X8_stateIn_9 at h
  refine Rn.go 2 (j' := 115) (pc' := 12) (ls' := [some (.ref 30), some (.int x1), some (.int ((x2 + 1))), some (.int x3)]) (st' := []) (n' := 94) (M' := (I, J, xrf)) (fun f => rfl) ?_
  cases h; exact hC
theorem p_X8_stateIn_8 {L : Nat} {xs : Nat → Int32} {d : Nat} {Q : xO → Prop} (x1 : Int32) (x2 : Int32) (x3 : Int32) (I : xI) (J : xJ) {t : Int32 × xI × xJ} (h : f_X8_stateIn_8 x1 x2 x3 I J = some t) (hC : (c_X8_stateIn Q) t) : Rn L xs (d + 3) 115 85 [some (.ref 30), some (.int x1), some (.int x2), some (.int x3)] [] 94 (I, J, xrf) Q := by
  unfold f_X8_stateIn_8 at h
  cases h
  exact Rn.ret 2 (o := ((some (.int x2)), 94, (I, J, xrf))) (fun f => rfl) hC
theorem p_X8_stateIn_7 {L : Nat} {xs : Nat → Int32} {d : Nat} {Q : xO → Prop} (x1 : Int32) (x2 : Int32) (x3 : Int32) (s0 : Int32) (I : xI) (J : xJ) {t : (Int32 × Int32 × (Option Value) × xI × xJ) ⊕ (Int32 × xI × xJ)} (h : f_X8_stateIn_7 x1 x2 x3 s0 I J = some t) (hC : (c_X8_stateIn_4 L xs d Q) t) : Rn L xs (d + 3) 115 82 [some (.ref 30), some (.int x1), some (.int x2), some (.int x3)] [.int s0] 94 (I, J, xrf) Q := by
  unfold f_X8_stateIn_7 at h
  refine Rn.fi 1 (c := s0 = 0) (p1 := 87) (l1 := [some (.ref 30), some (.int x1), some (.int x2), some (.int x3)]) (s1 := []) (n1 := 94) (M1 := (I, J, xrf)) (p2 := 85) (l2 := [some (.ref 30), some (.int x1), some (.int x2), some (.int x3)]) (s2 := []) (n2 := 94) (M2 := (I, J, xrf)) (fun f => rfl) (fun hc => ?_) (fun hc => ?_)
  · rw [if_pos hc] at h
    exact p_X8_stateIn_9 x1 x2 x3 I J h hC
  · rw [if_neg hc] at h
    obtain ⟨t0, h0, rfl⟩ := Option.map_eq_some_iff.mp h
    exact p_X8_stateIn_8 x1 x2 x3 I J h0 hC
theorem p_X8_stateIn_6 {L : Nat} {xs : Nat → Int32} {d : Nat} {Q : xO → Prop} (x1 : Int32) (x2 : Int32) (x3 : Int32) (I : xI) (J : xJ) {t : (Int32 × Int32 × (Option Value) × xI × xJ) ⊕ (Int32 × xI × xJ)} (h : f_X8_stateIn_6 x1 x2 x3 I J = some t) (hC : (c_X8_stateIn_4 L xs d Q) t) : Rn L xs (d + 3) 115 48 [some (.ref 30), some (.int x1), some (.int x2), some (.int x3)] [] 94 (I, J, xrf) Q := by
  unfold f_X8_stateIn_6 at h
  obtain ⟨hc, h⟩ := xif h
  refine Rn.ok 7 (c := x3 < 0 ∨ 400 ≤ x3.toNatClampNeg) (p1 := 61) (l1 := [some (.ref 30), some (.int x1), some (.int x2), some (.int x3)]) (s1 := [.int ((I 28 x3.toNatClampNeg)), .ref 24]) (n1 := 94) (M1 := (I, J, xrf)) (fun f => rfl) hc ?_
  obtain ⟨hc, h⟩ := xif h
  refine Rn.ok 5 (c := x1 < 0 ∨ 400 ≤ x1.toNatClampNeg) (p1 := 70) (l1 := [some (.ref 30), some (.int x1), some (.int x2), some (.int x3)]) (s1 := [.int ((I 28 x1.toNatClampNeg)), .int ((I 28 x3.toNatClampNeg)), .ref 24]) (n1 := 94) (M1 := (I, J, xrf)) (fun f => rfl) hc ?_
  obtain ⟨hc, h⟩ := xif h
  refine Rn.ok 5 (c := x3 < 0 ∨ 400 ≤ x3.toNatClampNeg) (p1 := 79) (l1 := [some (.ref 30), some (.int x1), some (.int x2), some (.int x3)]) (s1 := [.int ((I 29 x3.toNatClampNeg)), .int ((I 28 x1.toNatClampNeg)), .int ((I 28 x3.toNatClampNeg)), .ref 24]) (n1 := 94) (M1 := (I, J, xrf)) (fun f => rfl) hc ?_
  obtain ⟨o, ho, h⟩ := Option.bind_eq_some_iff.mp h
  refine Rn.call (d1 := d + 2) (j1 := 127) (ls1 := [some (.ref 24), some (.int ((I 28 x3.toNatClampNeg))), some (.int ((I 28 x1.toNatClampNeg))), some (.int ((I 29 x3.toNatClampNeg))), none]) (rest := []) (fun f => rfl) ?_
  refine p_X9_saysAlike (d := d + 0) ((I 28 x3.toNatClampNeg)) ((I 28 x1.toNatClampNeg)) ((I 29 x3.toNatClampNeg)) I J (t := o) ho ?_
  exact p_X8_stateIn_7 x1 x2 x3 o.1 o.2.1 o.2.2 h hC
theorem p_X8_stateIn_5 {L : Nat} {xs : Nat → Int32} {d : Nat} {Q : xO → Prop} (x1 : Int32) (x2 : Int32) (z3 : Option Value) (I : xI) (J : xJ) {t : (Int32 × Int32 × (Option Value) × xI × xJ) ⊕ (Int32 × xI × xJ)} (h : f_X8_stateIn_5 x1 x2 z3 I J = some t) (hC : (c_X8_stateIn_4 L xs d Q) t) : Rn L xs (d + 3) 115 20 [some (.ref 30), some (.int x1), some (.int x2), z3] [] 94 (I, J, xrf) Q := by
  unfold f_X8_stateIn_5 at h
  obtain ⟨hc, h⟩ := xif h
  refine Rn.ok 4 (c := x2 < 0 ∨ 6 ≤ x2.toNatClampNeg) (p1 := 26) (l1 := [some (.ref 30), some (.int x1), some (.int x2), z3]) (s1 := [.int ((I 31 x2.toNatClampNeg))]) (n1 := 94) (M1 := (I, J, xrf)) (fun f => rfl) hc ?_
  obtain ⟨hc, h⟩ := xif h
  refine Rn.ok 6 (c := (I 31 x2.toNatClampNeg) < 0 ∨ 400 ≤ ((I 31 x2.toNatClampNeg)).toNatClampNeg) (p1 := 36) (l1 := [some (.ref 30), some (.int x1), some (.int x2), some (.int ((I 31 x2.toNatClampNeg)))]) (s1 := [.int ((I 29 ((I 31 x2.toNatClampNeg)).toNatClampNeg))]) (n1 := 94) (M1 := (I, J, xrf)) (fun f => rfl) hc ?_
  obtain ⟨hc, h⟩ := xif h
  refine Rn.ok 5 (c := x1 < 0 ∨ 400 ≤ x1.toNatClampNeg) (p1 := 45) (l1 := [some (.ref 30), some (.int x1), some (.int x2), some (.int ((I 31 x2.toNatClampNeg)))]) (s1 := [.int ((I 29 x1.toNatClampNeg)), .int ((I 29 ((I 31 x2.toNatClampNeg)).toNatClampNeg))]) (n1 := 94) (M1 := (I, J, xrf)) (fun f => rfl) hc ?_
  refine Rn.fi 1 (c := (I 29 ((I 31 x2.toNatClampNeg)).toNatClampNeg) = (I 29 x1.toNatClampNeg)) (p1 := 48) (l1 := [some (.ref 30), some (.int x1), some (.int x2), some (.int ((I 31 x2.toNatClampNeg)))]) (s1 := []) (n1 := 94) (M1 := (I, J, xrf)) (p2 := 87) (l2 := [some (.ref 30), some (.int x1), some (.int x2), some (.int ((I 31 x2.toNatClampNeg)))]) (s2 := []) (n2 := 94) (M2 := (I, J, xrf)) (fun f => rfl) (fun hc => ?_) (fun hc => ?_)
  · rw [if_pos hc] at h
    exact p_X8_stateIn_6 x1 x2 ((I 31 x2.toNatClampNeg)) I J h hC
  · rw [if_neg hc] at h
    exact p_X8_stateIn_9 x1 x2 ((I 31 x2.toNatClampNeg)) I J h hC
theorem q_X8_stateIn_4 {L : Nat} {xs : Nat → Int32} {d : Nat} {Q : xO → Prop} (x1 : Int32) (x2 : Int32) (z3 : Option Value) (I : xI) (J : xJ) {t : (Int32 × Int32 × (Option Value) × xI × xJ) ⊕ (Int32 × xI × xJ)} (h : b_X8_stateIn_4 x1 x2 z3 I J = some t) (hC : (c_X8_stateIn_4 L xs d Q) t) : Rn L xs (d + 3) 115 12 [some (.ref 30), some (.int x1), some (.int x2), z3] [] 94 (I, J, xrf) Q := by
  unfold b_X8_stateIn_4 at h
  refine Rn.fi 4 (c := (I 30 3) ≤ x2) (p1 := 93) (l1 := [some (.ref 30), some (.int x1), some (.int x2), z3]) (s1 := []) (n1 := 94) (M1 := (I, J, xrf)) (p2 := 20) (l2 := [some (.ref 30), some (.int x1), some (.int x2), z3]) (s2 := []) (n2 := 94) (M2 := (I, J, xrf)) (fun f => rfl) (fun hc => ?_) (fun hc => ?_)
  · rw [if_pos hc] at h
    obtain ⟨t0, h0, rfl⟩ := Option.map_eq_some_iff.mp h
    exact p_X8_stateIn_10 x1 x2 z3 I J h0 hC
  · rw [if_neg hc] at h
    exact p_X8_stateIn_5 x1 x2 z3 I J h hC
theorem p_X8_stateIn_4 {L : Nat} {xs : Nat → Int32} {d : Nat} {Q : xO → Prop} (x1 : Int32) (x2 : Int32) (z3 : Option Value) (I : xI) (J : xJ) {t : Int32 × xI × xJ} (h : f_X8_stateIn_4 x1 x2 z3 I J = some t) (hC : (c_X8_stateIn Q) t) : Rn L xs (d + 3) 115 12 [some (.ref 30), some (.int x1), some (.int x2), z3] [] 94 (I, J, xrf) Q := by
  unfold f_X8_stateIn_4 at h
  exact xloop_some (P := fun s : Int32 × Int32 × (Option Value) × xI × xJ => Rn L xs (d + 3) 115 12 [some (.ref 30), some (.int s.1), some (.int s.2.1), s.2.2.1] [] 94 (s.2.2.2.1, s.2.2.2.2, xrf) Q) t (fun s ⟨s', hb, hp⟩ => q_X8_stateIn_4 s.1 s.2.1 s.2.2.1 s.2.2.2.1 s.2.2.2.2 hb hp) (fun s hb => q_X8_stateIn_4 s.1 s.2.1 s.2.2.1 s.2.2.2.1 s.2.2.2.2 hb hC) _ _ h
theorem p_X8_stateIn_3 {L : Nat} {xs : Nat → Int32} {d : Nat} {Q : xO → Prop} (x1 : Int32) (I : xI) (J : xJ) {t : Int32 × xI × xJ} (h : f_X8_stateIn_3 x1 I J = some t) (hC : (c_X8_stateIn Q) t) : Rn L xs (d + 3) 115 10 [some (.ref 30), some (.int x1), none, none] [] 94 (I, J, xrf) Q := by
  unfold f_X8_stateIn_3 at h
  refine Rn.go 2 (j' := 115) (pc' := 12) (ls' := [some (.ref 30), some (.int x1), some (.int 0), none]) (st' := []) (n' := 94) (M' := (I, J, xrf)) (fun f => rfl) ?_
  exact p_X8_stateIn_4 x1 0 none I J h hC
theorem p_X8_stateIn_2 {L : Nat} {xs : Nat → Int32} {d : Nat} {Q : xO → Prop} (x1 : Int32) (I : xI) (J : xJ) {t : Int32 × xI × xJ} (h : f_X8_stateIn_2 x1 I J = some t) (hC : (c_X8_stateIn Q) t) : Rn L xs (d + 3) 115 8 [some (.ref 30), some (.int x1), none, none] [] 94 (I, J, xrf) Q := by
  unfold f_X8_stateIn_2 at h
  cases h
  exact Rn.ret 2 (o := ((some (.int ((-1)))), 94, (I, J, xrf))) (fun f => rfl) hC
theorem p_X8_stateIn_1 {L : Nat} {xs : Nat → Int32} {d : Nat} {Q : xO → Prop} (x1 : Int32) (s0 : Int32) (I : xI) (J : xJ) {t : Int32 × xI × xJ} (h : f_X8_stateIn_1 x1 s0 I J = some t) (hC : (c_X8_stateIn Q) t) : Rn L xs (d + 3) 115 5 [some (.ref 30), some (.int x1), none, none] [.int s0] 94 (I, J, xrf) Q := by
  unfold f_X8_stateIn_1 at h
  refine Rn.fi 1 (c := s0 = 0) (p1 := 8) (l1 := [some (.ref 30), some (.int x1), none, none]) (s1 := []) (n1 := 94) (M1 := (I, J, xrf)) (p2 := 10) (l2 := [some (.ref 30), some (.int x1), none, none]) (s2 := []) (n2 := 94) (M2 := (I, J, xrf)) (fun f => rfl) (fun hc => ?_) (fun hc => ?_)
  · rw [if_pos hc] at h
    exact p_X8_stateIn_2 x1 I J h hC
  · rw [if_neg hc] at h
    exact p_X8_stateIn_3 x1 I J h hC
theorem p_X8_stateIn_0 {L : Nat} {xs : Nat → Int32} {d : Nat} {Q : xO → Prop} (x1 : Int32) (I : xI) (J : xJ) {t : Int32 × xI × xJ} (h : f_X8_stateIn_0 x1 I J = some t) (hC : (c_X8_stateIn Q) t) : Rn L xs (d + 3) 115 0 [some (.ref 30), some (.int x1), none, none] [] 94 (I, J, xrf) Q := by
  unfold f_X8_stateIn_0 at h
  refine Rn.go 2 (j' := 115) (pc' := 2) (ls' := [some (.ref 30), some (.int x1), none, none]) (st' := [.int x1, .ref 30]) (n' := 94) (M' := (I, J, xrf)) (fun f => rfl) ?_
  obtain ⟨o, ho, h⟩ := Option.bind_eq_some_iff.mp h
  refine Rn.call (d1 := d + 2) (j1 := 112) (ls1 := [some (.ref 30), some (.int x1)]) (rest := []) (fun f => rfl) ?_
  refine p_X8_isToken (d := d + 1) x1 I J (t := o) ho ?_
  exact p_X8_stateIn_1 x1 o.1 o.2.1 o.2.2 h hC
theorem p_X8_stateIn {L : Nat} {xs : Nat → Int32} {d : Nat} {Q : xO → Prop} (x1 : Int32) (I : xI) (J : xJ) {t : Int32 × xI × xJ} (h : f_X8_stateIn x1 I J = some t) (hC : Q ((some (.int t.1)), 94, (t.2.1, t.2.2, xrf))) : Rn L xs (d + 3) 115 0 [some (.ref 30), some (.int x1), none, none] [] 94 (I, J, xrf) Q := p_X8_stateIn_0 x1 I J h hC
/-! X8_failIf -/
def c_X8_failIf (Q : xO → Prop) (t : Unit × xI × xJ) : Prop := Q (none, 94, (t.2.1, t.2.2, xrf))
def f_X8_failIf_5 (x1 : Int32) (x2 : Int32) (x3 : Int32) (I : xI) (J : xJ) : Option (Unit × xI × xJ) := some ((), I, J)
def f_X8_failIf_4 (x1 : Int32) (x2 : Int32) (x3 : Int32) (I : xI) (J : xJ) : Option (Unit × xI × xJ) := if x3 < 0 ∨ 400 ≤ x3.toNatClampNeg then none else f_X8_failIf_5 x1 x2 x3 ((xup ((xup I 30 5 x2)) 30 6 ((((xup I 30 5 x2)) 28 x3.toNatClampNeg)))) J
def f_X8_failIf_3 (x1 : Int32) (x2 : Int32) (x3 : Int32) (s0 : Int32) (I : xI) (J : xJ) : Option (Unit × xI × xJ) := if s0 = 0 then f_X8_failIf_5 x1 x2 x3 I J else f_X8_failIf_4 x1 x2 x3 I J
def f_X8_failIf_2 (x1 : Int32) (x2 : Int32) (x3 : Int32) (I : xI) (J : xJ) : Option (Unit × xI × xJ) := (f_X8_isToken x3 I J).bind fun o => f_X8_failIf_3 x1 x2 x3 o.1 o.2.1 o.2.2
def f_X8_failIf_1 (x1 : Int32) (x2 : Int32) (x3 : Int32) (I : xI) (J : xJ) : Option (Unit × xI × xJ) := if (I 30 5) = 0 then f_X8_failIf_2 x1 x2 x3 I J else f_X8_failIf_5 x1 x2 x3 I J
def f_X8_failIf_0 (x1 : Int32) (x2 : Int32) (x3 : Int32) (I : xI) (J : xJ) : Option (Unit × xI × xJ) := if x1 = 0 then f_X8_failIf_5 x1 x2 x3 I J else f_X8_failIf_1 x1 x2 x3 I J
def f_X8_failIf (x1 : Int32) (x2 : Int32) (x3 : Int32) (I : xI) (J : xJ) : Option (Unit × xI × xJ) := f_X8_failIf_0 x1 x2 x3 I J
theorem p_X8_failIf_5 {L : Nat} {xs : Nat → Int32} {d : Nat} {Q : xO → Prop} (x1 : Int32) (x2 : Int32) (x3 : Int32) (I : xI) (J : xJ) {t : Unit × xI × xJ} (h : f_X8_failIf_5 x1 x2 x3 I J = some t) (hC : (c_X8_failIf Q) t) : Rn L xs (d + 2) 111 37 [some (.ref 30), some (.int x1), some (.int x2), some (.int x3)] [] 94 (I, J, xrf) Q := by
  unfold f_X8_failIf_5 at h
  cases h
  exact Rn.ret 1 (o := (none, 94, (I, J, xrf))) (fun f => rfl) hC
theorem p_X8_failIf_4 {L : Nat} {xs : Nat → Int32} {d : Nat} {Q : xO → Prop} (x1 : Int32) (x2 : Int32) (x3 : Int32) (I : xI) (J : xJ) {t : Unit × xI × xJ} (h : f_X8_failIf_4 x1 x2 x3 I J = some t) (hC : (c_X8_failIf Q) t) : Rn L xs (d + 2) 111 19 [some (.ref 30), some (.int x1), some (.int x2), some (.int x3)] [] 94 (I, J, xrf) Q := by
  unfold f_X8_failIf_4 at h
  obtain ⟨hc, h⟩ := xif h
  refine Rn.ok 9 (c := x3 < 0 ∨ 400 ≤ x3.toNatClampNeg) (p1 := 34) (l1 := [some (.ref 30), some (.int x1), some (.int x2), some (.int x3)]) (s1 := [.int ((((xup I 30 5 x2)) 28 x3.toNatClampNeg)), .ref 30]) (n1 := 94) (M1 := ((xup I 30 5 x2), J, xrf)) (fun f => rfl) hc ?_
  refine Rn.go 1 (j' := 111) (pc' := 37) (ls' := [some (.ref 30), some (.int x1), some (.int x2), some (.int x3)]) (st' := []) (n' := 94) (M' := ((xup ((xup I 30 5 x2)) 30 6 ((((xup I 30 5 x2)) 28 x3.toNatClampNeg))), J, xrf)) (fun f => rfl) ?_
  exact p_X8_failIf_5 x1 x2 x3 ((xup ((xup I 30 5 x2)) 30 6 ((((xup I 30 5 x2)) 28 x3.toNatClampNeg)))) J h hC
theorem p_X8_failIf_3 {L : Nat} {xs : Nat → Int32} {d : Nat} {Q : xO → Prop} (x1 : Int32) (x2 : Int32) (x3 : Int32) (s0 : Int32) (I : xI) (J : xJ) {t : Unit × xI × xJ} (h : f_X8_failIf_3 x1 x2 x3 s0 I J = some t) (hC : (c_X8_failIf Q) t) : Rn L xs (d + 2) 111 16 [some (.ref 30), some (.int x1), some (.int x2), some (.int x3)] [.int s0] 94 (I, J, xrf) Q := by
  unfold f_X8_failIf_3 at h
  refine Rn.fi 1 (c := s0 = 0) (p1 := 37) (l1 := [some (.ref 30), some (.int x1), some (.int x2), some (.int x3)]) (s1 := []) (n1 := 94) (M1 := (I, J, xrf)) (p2 := 19) (l2 := [some (.ref 30), some (.int x1), some (.int x2), some (.int x3)]) (s2 := []) (n2 := 94) (M2 := (I, J, xrf)) (fun f => rfl) (fun hc => ?_) (fun hc => ?_)
  · rw [if_pos hc] at h
    exact p_X8_failIf_5 x1 x2 x3 I J h hC
  · rw [if_neg hc] at h
    exact p_X8_failIf_4 x1 x2 x3 I J h hC
theorem p_X8_failIf_2 {L : Nat} {xs : Nat → Int32} {d : Nat} {Q : xO → Prop} (x1 : Int32) (x2 : Int32) (x3 : Int32) (I : xI) (J : xJ) {t : Unit × xI × xJ} (h : f_X8_failIf_2 x1 x2 x3 I J = some t) (hC : (c_X8_failIf Q) t) : Rn L xs (d + 2) 111 11 [some (.ref 30), some (.int x1), some (.int x2), some (.int x3)] [] 94 (I, J, xrf) Q := by
  unfold f_X8_failIf_2 at h
  refine Rn.go 2 (j' := 111) (pc' := 13) (ls' := [some (.ref 30), some (.int x1), some (.int x2), some (.int x3)]) (st' := [.int x3, .ref 30]) (n' := 94) (M' := (I, J, xrf)) (fun f => rfl) ?_
  obtain ⟨o, ho, h⟩ := Option.bind_eq_some_iff.mp h
  refine Rn.call (d1 := d + 1) (j1 := 112) (ls1 := [some (.ref 30), some (.int x3)]) (rest := []) (fun f => rfl) ?_
  refine p_X8_isToken (d := d + 0) x3 I J (t := o) ho ?_
  exact p_X8_failIf_3 x1 x2 x3 o.1 o.2.1 o.2.2 h hC
theorem p_X8_failIf_1 {L : Nat} {xs : Nat → Int32} {d : Nat} {Q : xO → Prop} (x1 : Int32) (x2 : Int32) (x3 : Int32) (I : xI) (J : xJ) {t : Unit × xI × xJ} (h : f_X8_failIf_1 x1 x2 x3 I J = some t) (hC : (c_X8_failIf Q) t) : Rn L xs (d + 2) 111 4 [some (.ref 30), some (.int x1), some (.int x2), some (.int x3)] [] 94 (I, J, xrf) Q := by
  unfold f_X8_failIf_1 at h
  refine Rn.fi 3 (c := (I 30 5) = 0) (p1 := 11) (l1 := [some (.ref 30), some (.int x1), some (.int x2), some (.int x3)]) (s1 := []) (n1 := 94) (M1 := (I, J, xrf)) (p2 := 37) (l2 := [some (.ref 30), some (.int x1), some (.int x2), some (.int x3)]) (s2 := []) (n2 := 94) (M2 := (I, J, xrf)) (fun f => rfl) (fun hc => ?_) (fun hc => ?_)
  · rw [if_pos hc] at h
    exact p_X8_failIf_2 x1 x2 x3 I J h hC
  · rw [if_neg hc] at h
    exact p_X8_failIf_5 x1 x2 x3 I J h hC
theorem p_X8_failIf_0 {L : Nat} {xs : Nat → Int32} {d : Nat} {Q : xO → Prop} (x1 : Int32) (x2 : Int32) (x3 : Int32) (I : xI) (J : xJ) {t : Unit × xI × xJ} (h : f_X8_failIf_0 x1 x2 x3 I J = some t) (hC : (c_X8_failIf Q) t) : Rn L xs (d + 2) 111 0 [some (.ref 30), some (.int x1), some (.int x2), some (.int x3)] [] 94 (I, J, xrf) Q := by
  unfold f_X8_failIf_0 at h
  refine Rn.fi 2 (c := x1 = 0) (p1 := 37) (l1 := [some (.ref 30), some (.int x1), some (.int x2), some (.int x3)]) (s1 := []) (n1 := 94) (M1 := (I, J, xrf)) (p2 := 4) (l2 := [some (.ref 30), some (.int x1), some (.int x2), some (.int x3)]) (s2 := []) (n2 := 94) (M2 := (I, J, xrf)) (fun f => rfl) (fun hc => ?_) (fun hc => ?_)
  · rw [if_pos hc] at h
    exact p_X8_failIf_5 x1 x2 x3 I J h hC
  · rw [if_neg hc] at h
    exact p_X8_failIf_1 x1 x2 x3 I J h hC
theorem p_X8_failIf {L : Nat} {xs : Nat → Int32} {d : Nat} {Q : xO → Prop} (x1 : Int32) (x2 : Int32) (x3 : Int32) (I : xI) (J : xJ) {t : Unit × xI × xJ} (h : f_X8_failIf x1 x2 x3 I J = some t) (hC : Q (none, 94, (t.2.1, t.2.2, xrf))) : Rn L xs (d + 2) 111 0 [some (.ref 30), some (.int x1), some (.int x2), some (.int x3)] [] 94 (I, J, xrf) Q := p_X8_failIf_0 x1 x2 x3 I J h hC
/-! X8_isOpen -/
def c_X8_isOpen (Q : xO → Prop) (t : Int32 × xI × xJ) : Prop := Q ((some (.int t.1)), 94, (t.2.1, t.2.2, xrf))
def f_X8_isOpen_5 (x1 : Int32) (s0 : Int32) (I : xI) (J : xJ) : Option (Int32 × xI × xJ) := if s0 = 0 ∨ s0 = 1 then some (s0, I, J) else none
def f_X8_isOpen_4 (x1 : Int32) (I : xI) (J : xJ) : Option (Int32 × xI × xJ) := f_X8_isOpen_5 x1 0 I J
def f_X8_isOpen_3 (x1 : Int32) (I : xI) (J : xJ) : Option (Int32 × xI × xJ) := f_X8_isOpen_5 x1 1 I J
def f_X8_isOpen_2 (x1 : Int32) (I : xI) (J : xJ) : Option (Int32 × xI × xJ) := if x1 < 0 ∨ 400 ≤ x1.toNatClampNeg then none else if (I 27 x1.toNatClampNeg) = 8 then f_X8_isOpen_3 x1 I J else f_X8_isOpen_4 x1 I J
def f_X8_isOpen_1 (x1 : Int32) (s0 : Int32) (I : xI) (J : xJ) : Option (Int32 × xI × xJ) := if s0 = 0 then f_X8_isOpen_4 x1 I J else f_X8_isOpen_2 x1 I J
def f_X8_isOpen_0 (x1 : Int32) (I : xI) (J : xJ) : Option (Int32 × xI × xJ) := (f_X8_isToken x1 I J).bind fun o => f_X8_isOpen_1 x1 o.1 o.2.1 o.2.2
def f_X8_isOpen (x1 : Int32) (I : xI) (J : xJ) : Option (Int32 × xI × xJ) := f_X8_isOpen_0 x1 I J
theorem p_X8_isOpen_5 {L : Nat} {xs : Nat → Int32} {d : Nat} {Q : xO → Prop} (x1 : Int32) (s0 : Int32) (I : xI) (J : xJ) {t : Int32 × xI × xJ} (h : f_X8_isOpen_5 x1 s0 I J = some t) (hC : (c_X8_isOpen Q) t) : Rn L xs (d + 2) 113 27 [some (.ref 30), some (.int x1)] [.int s0] 94 (I, J, xrf) Q := by
  unfold f_X8_isOpen_5 at h
  obtain ⟨hc, h⟩ := xifT h
  cases h
  exact Rn.retT 1 (c := s0 = 0 ∨ s0 = 1) (o := ((some (.int s0)), 94, (I, J, xrf))) (fun f => rfl) hc hC
theorem p_X8_isOpen_4 {L : Nat} {xs : Nat → Int32} {d : Nat} {Q : xO → Prop} (x1 : Int32) (I : xI) (J : xJ) {t : Int32 × xI × xJ} (h : f_X8_isOpen_4 x1 I J = some t) (hC : (c_X8_isOpen Q) t) : Rn L xs (d + 2) 113 26 [some (.ref 30), some (.int x1)] [] 94 (I, J, xrf) Q := by
  unfold f_X8_isOpen_4 at h
  refine Rn.go 1 (j' := 113) (pc' := 27) (ls' := [some (.ref 30), some (.int x1)]) (st' := [.int 0]) (n' := 94) (M' := (I, J, xrf)) (fun f => rfl) ?_
  exact p_X8_isOpen_5 x1 0 I J h hC
theorem p_X8_isOpen_3 {L : Nat} {xs : Nat → Int32} {d : Nat} {Q : xO → Prop} (x1 : Int32) (I : xI) (J : xJ) {t : Int32 × xI × xJ} (h : f_X8_isOpen_3 x1 I J = some t) (hC : (c_X8_isOpen Q) t) : Rn L xs (d + 2) 113 22 [some (.ref 30), some (.int x1)] [] 94 (I, J, xrf) Q := by
  unfold f_X8_isOpen_3 at h
  refine Rn.go 2 (j' := 113) (pc' := 27) (ls' := [some (.ref 30), some (.int x1)]) (st' := [.int 1]) (n' := 94) (M' := (I, J, xrf)) (fun f => rfl) ?_
  exact p_X8_isOpen_5 x1 1 I J h hC
theorem p_X8_isOpen_2 {L : Nat} {xs : Nat → Int32} {d : Nat} {Q : xO → Prop} (x1 : Int32) (I : xI) (J : xJ) {t : Int32 × xI × xJ} (h : f_X8_isOpen_2 x1 I J = some t) (hC : (c_X8_isOpen Q) t) : Rn L xs (d + 2) 113 8 [some (.ref 30), some (.int x1)] [] 94 (I, J, xrf) Q := by
  unfold f_X8_isOpen_2 at h
  obtain ⟨hc, h⟩ := xif h
  refine Rn.ok 5 (c := x1 < 0 ∨ 400 ≤ x1.toNatClampNeg) (p1 := 17) (l1 := [some (.ref 30), some (.int x1)]) (s1 := [.int ((I 27 x1.toNatClampNeg))]) (n1 := 94) (M1 := (I, J, xrf)) (fun f => rfl) hc ?_
  refine Rn.fi 2 (c := (I 27 x1.toNatClampNeg) = 8) (p1 := 22) (l1 := [some (.ref 30), some (.int x1)]) (s1 := []) (n1 := 94) (M1 := (I, J, xrf)) (p2 := 26) (l2 := [some (.ref 30), some (.int x1)]) (s2 := []) (n2 := 94) (M2 := (I, J, xrf)) (fun f => rfl) (fun hc => ?_) (fun hc => ?_)
  · rw [if_pos hc] at h
    exact p_X8_isOpen_3 x1 I J h hC
  · rw [if_neg hc] at h
    exact p_X8_isOpen_4 x1 I J h hC
theorem p_X8_isOpen_1 {L : Nat} {xs : Nat → Int32} {d : Nat} {Q : xO → Prop} (x1 : Int32) (s0 : Int32) (I : xI) (J : xJ) {t : Int32 × xI × xJ} (h : f_X8_isOpen_1 x1 s0 I J = some t) (hC : (c_X8_isOpen Q) t) : Rn L xs (d + 2) 113 5 [some (.ref 30), some (.int x1)] [.int s0] 94 (I, J, xrf) Q := by
  unfold f_X8_isOpen_1 at h
  refine Rn.fi 1 (c := s0 = 0) (p1 := 26) (l1 := [some (.ref 30), some (.int x1)]) (s1 := []) (n1 := 94) (M1 := (I, J, xrf)) (p2 := 8) (l2 := [some (.ref 30), some (.int x1)]) (s2 := []) (n2 := 94) (M2 := (I, J, xrf)) (fun f => rfl) (fun hc => ?_) (fun hc => ?_)
  · rw [if_pos hc] at h
    exact p_X8_isOpen_4 x1 I J h hC
  · rw [if_neg hc] at h
    exact p_X8_isOpen_2 x1 I J h hC
theorem p_X8_isOpen_0 {L : Nat} {xs : Nat → Int32} {d : Nat} {Q : xO → Prop} (x1 : Int32) (I : xI) (J : xJ) {t : Int32 × xI × xJ} (h : f_X8_isOpen_0 x1 I J = some t) (hC : (c_X8_isOpen Q) t) : Rn L xs (d + 2) 113 0 [some (.ref 30), some (.int x1)] [] 94 (I, J, xrf) Q := by
  unfold f_X8_isOpen_0 at h
  refine Rn.go 2 (j' := 113) (pc' := 2) (ls' := [some (.ref 30), some (.int x1)]) (st' := [.int x1, .ref 30]) (n' := 94) (M' := (I, J, xrf)) (fun f => rfl) ?_
  obtain ⟨o, ho, h⟩ := Option.bind_eq_some_iff.mp h
  refine Rn.call (d1 := d + 1) (j1 := 112) (ls1 := [some (.ref 30), some (.int x1)]) (rest := []) (fun f => rfl) ?_
  refine p_X8_isToken (d := d + 0) x1 I J (t := o) ho ?_
  exact p_X8_isOpen_1 x1 o.1 o.2.1 o.2.2 h hC
theorem p_X8_isOpen {L : Nat} {xs : Nat → Int32} {d : Nat} {Q : xO → Prop} (x1 : Int32) (I : xI) (J : xJ) {t : Int32 × xI × xJ} (h : f_X8_isOpen x1 I J = some t) (hC : Q ((some (.int t.1)), 94, (t.2.1, t.2.2, xrf))) : Rn L xs (d + 2) 113 0 [some (.ref 30), some (.int x1)] [] 94 (I, J, xrf) Q := p_X8_isOpen_0 x1 I J h hC
/-! X8_checkLine -/
def c_X8_checkLine (Q : xO → Prop) (t : Unit × xI × xJ) : Prop := Q (none, 94, (t.2.1, t.2.2, xrf))
def f_X8_checkLine_52 (x1 : Int32) (I : xI) (J : xJ) : Option (Unit × xI × xJ) := some ((), I, J)
def f_X8_checkLine_9 (x1 : Int32) (I : xI) (J : xJ) : Option (Unit × xI × xJ) := f_X8_checkLine_52 x1 I J
def f_X8_checkLine_8 (x1 : Int32) (s1 : Int32) (I : xI) (J : xJ) : Option (Unit × xI × xJ) := (f_X8_failIf s1 3 ((x1 + 1)) I J).bind fun o => f_X8_checkLine_9 x1 o.2.1 o.2.2
def f_X8_checkLine_7 (x1 : Int32) (I : xI) (J : xJ) : Option (Unit × xI × xJ) := f_X8_checkLine_8 x1 0 I J
def f_X8_checkLine_6 (x1 : Int32) (I : xI) (J : xJ) : Option (Unit × xI × xJ) := f_X8_checkLine_8 x1 1 I J
def f_X8_checkLine_5 (x1 : Int32) (s2 : Int32) (I : xI) (J : xJ) : Option (Unit × xI × xJ) := if s2 < 0 ∨ 6 ≤ s2.toNatClampNeg then none else if (I 31 s2.toNatClampNeg) = (x1 + 1) then f_X8_checkLine_7 x1 I J else f_X8_checkLine_6 x1 I J
def f_X8_checkLine_4 (x1 : Int32) (I : xI) (J : xJ) : Option (Unit × xI × xJ) := (f_X8_stateIn ((x1 + 1)) I J).bind fun o => f_X8_checkLine_5 x1 o.1 o.2.1 o.2.2
def f_X8_checkLine_3 (x1 : Int32) (s1 : Int32) (I : xI) (J : xJ) : Option (Unit × xI × xJ) := if s1 < 0 then f_X8_checkLine_7 x1 I J else f_X8_checkLine_4 x1 I J
def f_X8_checkLine_2 (x1 : Int32) (I : xI) (J : xJ) : Option (Unit × xI × xJ) := (f_X8_stateIn ((x1 + 1)) I J).bind fun o => f_X8_checkLine_3 x1 o.1 o.2.1 o.2.2
def f_X8_checkLine_16 (x1 : Int32) (I : xI) (J : xJ) : Option (Unit × xI × xJ) := f_X8_checkLine_52 x1 I J
def f_X8_checkLine_15 (x1 : Int32) (s1 : Int32) (I : xI) (J : xJ) : Option (Unit × xI × xJ) := (f_X8_failIf s1 5 ((x1 + 1)) I J).bind fun o => f_X8_checkLine_16 x1 o.2.1 o.2.2
def f_X8_checkLine_14 (x1 : Int32) (I : xI) (J : xJ) : Option (Unit × xI × xJ) := f_X8_checkLine_15 x1 0 I J
def f_X8_checkLine_13 (x1 : Int32) (I : xI) (J : xJ) : Option (Unit × xI × xJ) := f_X8_checkLine_15 x1 1 I J
def f_X8_checkLine_12 (x1 : Int32) (s1 : Int32) (I : xI) (J : xJ) : Option (Unit × xI × xJ) := if s1 = 0 then f_X8_checkLine_13 x1 I J else f_X8_checkLine_14 x1 I J
def f_X8_checkLine_11 (x1 : Int32) (s1 : Int32) (I : xI) (J : xJ) : Option (Unit × xI × xJ) := (f_X8_isInputs s1 I J).bind fun o => f_X8_checkLine_12 x1 o.1 o.2.1 o.2.2
def f_X8_checkLine_10 (x1 : Int32) (I : xI) (J : xJ) : Option (Unit × xI × xJ) := (f_X8_valueOf ((x1 + 1)) I J).bind fun o => f_X8_checkLine_11 x1 o.1 o.2.1 o.2.2
def f_X8_checkLine_41 (x1 : Int32) (I : xI) (J : xJ) : Option (Unit × xI × xJ) := f_X8_checkLine_52 x1 I J
def f_X8_checkLine_40 (x1 : Int32) (s1 : Int32) (I : xI) (J : xJ) : Option (Unit × xI × xJ) := (f_X8_failIf s1 5 ((x1 + 4)) I J).bind fun o => f_X8_checkLine_41 x1 o.2.1 o.2.2
def f_X8_checkLine_39 (x1 : Int32) (I : xI) (J : xJ) : Option (Unit × xI × xJ) := f_X8_checkLine_40 x1 0 I J
def f_X8_checkLine_38 (x1 : Int32) (I : xI) (J : xJ) : Option (Unit × xI × xJ) := f_X8_checkLine_40 x1 1 I J
def f_X8_checkLine_37 (x1 : Int32) (s1 : Int32) (I : xI) (J : xJ) : Option (Unit × xI × xJ) := if s1 ≤ 3 then f_X8_checkLine_39 x1 I J else f_X8_checkLine_38 x1 I J
def f_X8_checkLine_36 (x1 : Int32) (I : xI) (J : xJ) : Option (Unit × xI × xJ) := (f_X8_valueOf ((x1 + 4)) I J).bind fun o => f_X8_checkLine_37 x1 o.1 o.2.1 o.2.2
def f_X8_checkLine_35 (x1 : Int32) (s1 : Int32) (I : xI) (J : xJ) : Option (Unit × xI × xJ) := if s1 = 0 then f_X8_checkLine_36 x1 I J else f_X8_checkLine_39 x1 I J
def f_X8_checkLine_34 (x1 : Int32) (I : xI) (J : xJ) : Option (Unit × xI × xJ) := (f_X8_isOpen ((x1 + 4)) I J).bind fun o => f_X8_checkLine_35 x1 o.1 o.2.1 o.2.2
def f_X8_checkLine_33 (x1 : Int32) (s1 : Int32) (I : xI) (J : xJ) : Option (Unit × xI × xJ) := (f_X8_failIf s1 4 ((x1 + 3)) I J).bind fun o => f_X8_checkLine_34 x1 o.2.1 o.2.2
def f_X8_checkLine_32 (x1 : Int32) (I : xI) (J : xJ) : Option (Unit × xI × xJ) := f_X8_checkLine_33 x1 0 I J
def f_X8_checkLine_31 (x1 : Int32) (I : xI) (J : xJ) : Option (Unit × xI × xJ) := f_X8_checkLine_33 x1 1 I J
def f_X8_checkLine_30 (x1 : Int32) (s1 : Int32) (I : xI) (J : xJ) : Option (Unit × xI × xJ) := if 0 ≤ s1 then f_X8_checkLine_32 x1 I J else f_X8_checkLine_31 x1 I J
def f_X8_checkLine_29 (x1 : Int32) (I : xI) (J : xJ) : Option (Unit × xI × xJ) := (f_X8_stateIn ((x1 + 3)) I J).bind fun o => f_X8_checkLine_30 x1 o.1 o.2.1 o.2.2
def f_X8_checkLine_28 (x1 : Int32) (s1 : Int32) (I : xI) (J : xJ) : Option (Unit × xI × xJ) := if s1 = 0 then f_X8_checkLine_29 x1 I J else f_X8_checkLine_32 x1 I J
def f_X8_checkLine_27 (x1 : Int32) (I : xI) (J : xJ) : Option (Unit × xI × xJ) := (f_X8_isOpen ((x1 + 3)) I J).bind fun o => f_X8_checkLine_28 x1 o.1 o.2.1 o.2.2
def f_X8_checkLine_26 (x1 : Int32) (s1 : Int32) (I : xI) (J : xJ) : Option (Unit × xI × xJ) := (f_X8_failIf s1 5 ((x1 + 2)) I J).bind fun o => f_X8_checkLine_27 x1 o.2.1 o.2.2
def f_X8_checkLine_25 (x1 : Int32) (I : xI) (J : xJ) : Option (Unit × xI × xJ) := f_X8_checkLine_26 x1 0 I J
def f_X8_checkLine_24 (x1 : Int32) (I : xI) (J : xJ) : Option (Unit × xI × xJ) := f_X8_checkLine_26 x1 1 I J
def f_X8_checkLine_23 (x1 : Int32) (s1 : Int32) (I : xI) (J : xJ) : Option (Unit × xI × xJ) := if s1 < (I 30 4) then f_X8_checkLine_25 x1 I J else f_X8_checkLine_24 x1 I J
def f_X8_checkLine_22 (x1 : Int32) (I : xI) (J : xJ) : Option (Unit × xI × xJ) := (f_X8_valueOf ((x1 + 2)) I J).bind fun o => f_X8_checkLine_23 x1 o.1 o.2.1 o.2.2
def f_X8_checkLine_21 (x1 : Int32) (s1 : Int32) (I : xI) (J : xJ) : Option (Unit × xI × xJ) := (f_X8_failIf s1 4 ((x1 + 1)) I J).bind fun o => f_X8_checkLine_22 x1 o.2.1 o.2.2
def f_X8_checkLine_20 (x1 : Int32) (I : xI) (J : xJ) : Option (Unit × xI × xJ) := f_X8_checkLine_21 x1 0 I J
def f_X8_checkLine_19 (x1 : Int32) (I : xI) (J : xJ) : Option (Unit × xI × xJ) := f_X8_checkLine_21 x1 1 I J
def f_X8_checkLine_18 (x1 : Int32) (s1 : Int32) (I : xI) (J : xJ) : Option (Unit × xI × xJ) := if 0 ≤ s1 then f_X8_checkLine_20 x1 I J else f_X8_checkLine_19 x1 I J
def f_X8_checkLine_17 (x1 : Int32) (I : xI) (J : xJ) : Option (Unit × xI × xJ) := (f_X8_stateIn ((x1 + 1)) I J).bind fun o => f_X8_checkLine_18 x1 o.1 o.2.1 o.2.2
def f_X8_checkLine_51 (x1 : Int32) (s1 : Int32) (I : xI) (J : xJ) : Option (Unit × xI × xJ) := (f_X8_failIf s1 5 ((x1 + 2)) I J).bind fun o => f_X8_checkLine_52 x1 o.2.1 o.2.2
def f_X8_checkLine_50 (x1 : Int32) (I : xI) (J : xJ) : Option (Unit × xI × xJ) := f_X8_checkLine_51 x1 0 I J
def f_X8_checkLine_49 (x1 : Int32) (I : xI) (J : xJ) : Option (Unit × xI × xJ) := f_X8_checkLine_51 x1 1 I J
def f_X8_checkLine_48 (x1 : Int32) (s1 : Int32) (I : xI) (J : xJ) : Option (Unit × xI × xJ) := if s1 < 8 then f_X8_checkLine_50 x1 I J else f_X8_checkLine_49 x1 I J
def f_X8_checkLine_47 (x1 : Int32) (I : xI) (J : xJ) : Option (Unit × xI × xJ) := (f_X8_valueOf ((x1 + 2)) I J).bind fun o => f_X8_checkLine_48 x1 o.1 o.2.1 o.2.2
def f_X8_checkLine_46 (x1 : Int32) (s1 : Int32) (I : xI) (J : xJ) : Option (Unit × xI × xJ) := (f_X8_failIf s1 4 ((x1 + 1)) I J).bind fun o => f_X8_checkLine_47 x1 o.2.1 o.2.2
def f_X8_checkLine_45 (x1 : Int32) (I : xI) (J : xJ) : Option (Unit × xI × xJ) := f_X8_checkLine_46 x1 0 I J
def f_X8_checkLine_44 (x1 : Int32) (I : xI) (J : xJ) : Option (Unit × xI × xJ) := f_X8_checkLine_46 x1 1 I J
def f_X8_checkLine_43 (x1 : Int32) (s1 : Int32) (I : xI) (J : xJ) : Option (Unit × xI × xJ) := if 0 ≤ s1 then f_X8_checkLine_45 x1 I J else f_X8_checkLine_44 x1 I J
def f_X8_checkLine_42 (x1 : Int32) (I : xI) (J : xJ) : Option (Unit × xI × xJ) := (f_X8_stateIn ((x1 + 1)) I J).bind fun o => f_X8_checkLine_43 x1 o.1 o.2.1 o.2.2
def f_X8_checkLine_1 (x1 : Int32) (s0 : Int32) (I : xI) (J : xJ) : Option (Unit × xI × xJ) := if s0 = 4 then f_X8_checkLine_2 x1 I J else if s0 = 5 then f_X8_checkLine_10 x1 I J else if s0 = 6 then f_X8_checkLine_17 x1 I J else f_X8_checkLine_42 x1 I J
def f_X8_checkLine_0 (x1 : Int32) (I : xI) (J : xJ) : Option (Unit × xI × xJ) := if x1 < 0 ∨ 400 ≤ x1.toNatClampNeg then none else f_X8_checkLine_1 x1 ((I 27 x1.toNatClampNeg)) I J
def f_X8_checkLine (x1 : Int32) (I : xI) (J : xJ) : Option (Unit × xI × xJ) := f_X8_checkLine_0 x1 I J
theorem p_X8_checkLine_52 {L : Nat} {xs : Nat → Int32} {d : Nat} {Q : xO → Prop} (x1 : Int32) (I : xI) (J : xJ) {t : Unit × xI × xJ} (h : f_X8_checkLine_52 x1 I J = some t) (hC : (c_X8_checkLine Q) t) : Rn L xs (d + 4) 110 277 [some (.ref 30), some (.int x1)] [] 94 (I, J, xrf) Q := by
  unfold f_X8_checkLine_52 at h
  cases h
  exact Rn.ret 1 (o := (none, 94, (I, J, xrf))) (fun f => rfl) hC
theorem p_X8_checkLine_9 {L : Nat} {xs : Nat → Int32} {d : Nat} {Q : xO → Prop} (x1 : Int32) (I : xI) (J : xJ) {t : Unit × xI × xJ} (h : f_X8_checkLine_9 x1 I J = some t) (hC : (c_X8_checkLine Q) t) : Rn L xs (d + 4) 110 77 [some (.ref 30), some (.int x1)] [] 94 (I, J, xrf) Q := by
  unfold f_X8_checkLine_9 at h
  refine Rn.go 1 (j' := 110) (pc' := 277) (ls' := [some (.ref 30), some (.int x1)]) (st' := []) (n' := 94) (M' := (I, J, xrf)) (fun f => rfl) ?_
  exact p_X8_checkLine_52 x1 I J h hC
theorem p_X8_checkLine_8 {L : Nat} {xs : Nat → Int32} {d : Nat} {Q : xO → Prop} (x1 : Int32) (s1 : Int32) (I : xI) (J : xJ) {t : Unit × xI × xJ} (h : f_X8_checkLine_8 x1 s1 I J = some t) (hC : (c_X8_checkLine Q) t) : Rn L xs (d + 4) 110 70 [some (.ref 30), some (.int x1)] [.int s1, .ref 30] 94 (I, J, xrf) Q := by
  unfold f_X8_checkLine_8 at h
  refine Rn.go 4 (j' := 110) (pc' := 74) (ls' := [some (.ref 30), some (.int x1)]) (st' := [.int ((x1 + 1)), .int 3, .int s1, .ref 30]) (n' := 94) (M' := (I, J, xrf)) (fun f => rfl) ?_
  obtain ⟨o, ho, h⟩ := Option.bind_eq_some_iff.mp h
  refine Rn.call (d1 := d + 3) (j1 := 111) (ls1 := [some (.ref 30), some (.int s1), some (.int 3), some (.int ((x1 + 1)))]) (rest := []) (fun f => rfl) ?_
  refine p_X8_failIf (d := d + 1) s1 3 ((x1 + 1)) I J (t := o) ho ?_
  exact p_X8_checkLine_9 x1 o.2.1 o.2.2 h hC
theorem p_X8_checkLine_7 {L : Nat} {xs : Nat → Int32} {d : Nat} {Q : xO → Prop} (x1 : Int32) (I : xI) (J : xJ) {t : Unit × xI × xJ} (h : f_X8_checkLine_7 x1 I J = some t) (hC : (c_X8_checkLine Q) t) : Rn L xs (d + 4) 110 69 [some (.ref 30), some (.int x1)] [.ref 30] 94 (I, J, xrf) Q := by
  unfold f_X8_checkLine_7 at h
  refine Rn.go 1 (j' := 110) (pc' := 70) (ls' := [some (.ref 30), some (.int x1)]) (st' := [.int 0, .ref 30]) (n' := 94) (M' := (I, J, xrf)) (fun f => rfl) ?_
  exact p_X8_checkLine_8 x1 0 I J h hC
theorem p_X8_checkLine_6 {L : Nat} {xs : Nat → Int32} {d : Nat} {Q : xO → Prop} (x1 : Int32) (I : xI) (J : xJ) {t : Unit × xI × xJ} (h : f_X8_checkLine_6 x1 I J = some t) (hC : (c_X8_checkLine Q) t) : Rn L xs (d + 4) 110 65 [some (.ref 30), some (.int x1)] [.ref 30] 94 (I, J, xrf) Q := by
  unfold f_X8_checkLine_6 at h
  refine Rn.go 2 (j' := 110) (pc' := 70) (ls' := [some (.ref 30), some (.int x1)]) (st' := [.int 1, .ref 30]) (n' := 94) (M' := (I, J, xrf)) (fun f => rfl) ?_
  exact p_X8_checkLine_8 x1 1 I J h hC
theorem p_X8_checkLine_5 {L : Nat} {xs : Nat → Int32} {d : Nat} {Q : xO → Prop} (x1 : Int32) (s2 : Int32) (I : xI) (J : xJ) {t : Unit × xI × xJ} (h : f_X8_checkLine_5 x1 s2 I J = some t) (hC : (c_X8_checkLine Q) t) : Rn L xs (d + 4) 110 58 [some (.ref 30), some (.int x1)] [.int s2, .ref 31, .ref 30] 94 (I, J, xrf) Q := by
  unfold f_X8_checkLine_5 at h
  obtain ⟨hc, h⟩ := xif h
  refine Rn.ok 1 (c := s2 < 0 ∨ 6 ≤ s2.toNatClampNeg) (p1 := 59) (l1 := [some (.ref 30), some (.int x1)]) (s1 := [.int ((I 31 s2.toNatClampNeg)), .ref 30]) (n1 := 94) (M1 := (I, J, xrf)) (fun f => rfl) hc ?_
  refine Rn.fi 4 (c := (I 31 s2.toNatClampNeg) = (x1 + 1)) (p1 := 69) (l1 := [some (.ref 30), some (.int x1)]) (s1 := [.ref 30]) (n1 := 94) (M1 := (I, J, xrf)) (p2 := 65) (l2 := [some (.ref 30), some (.int x1)]) (s2 := [.ref 30]) (n2 := 94) (M2 := (I, J, xrf)) (fun f => rfl) (fun hc => ?_) (fun hc => ?_)
  · rw [if_pos hc] at h
    exact p_X8_checkLine_7 x1 I J h hC
  · rw [if_neg hc] at h
    exact p_X8_checkLine_6 x1 I J h hC
theorem p_X8_checkLine_4 {L : Nat} {xs : Nat → Int32} {d : Nat} {Q : xO → Prop} (x1 : Int32) (I : xI) (J : xJ) {t : Unit × xI × xJ} (h : f_X8_checkLine_4 x1 I J = some t) (hC : (c_X8_checkLine Q) t) : Rn L xs (d + 4) 110 47 [some (.ref 30), some (.int x1)] [.ref 30] 94 (I, J, xrf) Q := by
  unfold f_X8_checkLine_4 at h
  refine Rn.go 6 (j' := 110) (pc' := 55) (ls' := [some (.ref 30), some (.int x1)]) (st' := [.int ((x1 + 1)), .ref 30, .ref 31, .ref 30]) (n' := 94) (M' := (I, J, xrf)) (fun f => rfl) ?_
  obtain ⟨o, ho, h⟩ := Option.bind_eq_some_iff.mp h
  refine Rn.call (d1 := d + 3) (j1 := 115) (ls1 := [some (.ref 30), some (.int ((x1 + 1))), none, none]) (rest := [.ref 31, .ref 30]) (fun f => rfl) ?_
  refine p_X8_stateIn (d := d + 0) ((x1 + 1)) I J (t := o) ho ?_
  exact p_X8_checkLine_5 x1 o.1 o.2.1 o.2.2 h hC
theorem p_X8_checkLine_3 {L : Nat} {xs : Nat → Int32} {d : Nat} {Q : xO → Prop} (x1 : Int32) (s1 : Int32) (I : xI) (J : xJ) {t : Unit × xI × xJ} (h : f_X8_checkLine_3 x1 s1 I J = some t) (hC : (c_X8_checkLine Q) t) : Rn L xs (d + 4) 110 44 [some (.ref 30), some (.int x1)] [.int s1, .ref 30] 94 (I, J, xrf) Q := by
  unfold f_X8_checkLine_3 at h
  refine Rn.fi 1 (c := s1 < 0) (p1 := 69) (l1 := [some (.ref 30), some (.int x1)]) (s1 := [.ref 30]) (n1 := 94) (M1 := (I, J, xrf)) (p2 := 47) (l2 := [some (.ref 30), some (.int x1)]) (s2 := [.ref 30]) (n2 := 94) (M2 := (I, J, xrf)) (fun f => rfl) (fun hc => ?_) (fun hc => ?_)
  · rw [if_pos hc] at h
    exact p_X8_checkLine_7 x1 I J h hC
  · rw [if_neg hc] at h
    exact p_X8_checkLine_4 x1 I J h hC
theorem p_X8_checkLine_2 {L : Nat} {xs : Nat → Int32} {d : Nat} {Q : xO → Prop} (x1 : Int32) (I : xI) (J : xJ) {t : Unit × xI × xJ} (h : f_X8_checkLine_2 x1 I J = some t) (hC : (c_X8_checkLine Q) t) : Rn L xs (d + 4) 110 36 [some (.ref 30), some (.int x1)] [] 94 (I, J, xrf) Q := by
  unfold f_X8_checkLine_2 at h
  refine Rn.go 5 (j' := 110) (pc' := 41) (ls' := [some (.ref 30), some (.int x1)]) (st' := [.int ((x1 + 1)), .ref 30, .ref 30]) (n' := 94) (M' := (I, J, xrf)) (fun f => rfl) ?_
  obtain ⟨o, ho, h⟩ := Option.bind_eq_some_iff.mp h
  refine Rn.call (d1 := d + 3) (j1 := 115) (ls1 := [some (.ref 30), some (.int ((x1 + 1))), none, none]) (rest := [.ref 30]) (fun f => rfl) ?_
  refine p_X8_stateIn (d := d + 0) ((x1 + 1)) I J (t := o) ho ?_
  exact p_X8_checkLine_3 x1 o.1 o.2.1 o.2.2 h hC
theorem p_X8_checkLine_16 {L : Nat} {xs : Nat → Int32} {d : Nat} {Q : xO → Prop} (x1 : Int32) (I : xI) (J : xJ) {t : Unit × xI × xJ} (h : f_X8_checkLine_16 x1 I J = some t) (hC : (c_X8_checkLine Q) t) : Rn L xs (d + 4) 110 106 [some (.ref 30), some (.int x1)] [] 94 (I, J, xrf) Q := by
  unfold f_X8_checkLine_16 at h
  refine Rn.go 1 (j' := 110) (pc' := 277) (ls' := [some (.ref 30), some (.int x1)]) (st' := []) (n' := 94) (M' := (I, J, xrf)) (fun f => rfl) ?_
  exact p_X8_checkLine_52 x1 I J h hC
theorem p_X8_checkLine_15 {L : Nat} {xs : Nat → Int32} {d : Nat} {Q : xO → Prop} (x1 : Int32) (s1 : Int32) (I : xI) (J : xJ) {t : Unit × xI × xJ} (h : f_X8_checkLine_15 x1 s1 I J = some t) (hC : (c_X8_checkLine Q) t) : Rn L xs (d + 4) 110 99 [some (.ref 30), some (.int x1)] [.int s1, .ref 30] 94 (I, J, xrf) Q := by
  unfold f_X8_checkLine_15 at h
  refine Rn.go 4 (j' := 110) (pc' := 103) (ls' := [some (.ref 30), some (.int x1)]) (st' := [.int ((x1 + 1)), .int 5, .int s1, .ref 30]) (n' := 94) (M' := (I, J, xrf)) (fun f => rfl) ?_
  obtain ⟨o, ho, h⟩ := Option.bind_eq_some_iff.mp h
  refine Rn.call (d1 := d + 3) (j1 := 111) (ls1 := [some (.ref 30), some (.int s1), some (.int 5), some (.int ((x1 + 1)))]) (rest := []) (fun f => rfl) ?_
  refine p_X8_failIf (d := d + 1) s1 5 ((x1 + 1)) I J (t := o) ho ?_
  exact p_X8_checkLine_16 x1 o.2.1 o.2.2 h hC
theorem p_X8_checkLine_14 {L : Nat} {xs : Nat → Int32} {d : Nat} {Q : xO → Prop} (x1 : Int32) (I : xI) (J : xJ) {t : Unit × xI × xJ} (h : f_X8_checkLine_14 x1 I J = some t) (hC : (c_X8_checkLine Q) t) : Rn L xs (d + 4) 110 98 [some (.ref 30), some (.int x1)] [.ref 30] 94 (I, J, xrf) Q := by
  unfold f_X8_checkLine_14 at h
  refine Rn.go 1 (j' := 110) (pc' := 99) (ls' := [some (.ref 30), some (.int x1)]) (st' := [.int 0, .ref 30]) (n' := 94) (M' := (I, J, xrf)) (fun f => rfl) ?_
  exact p_X8_checkLine_15 x1 0 I J h hC
theorem p_X8_checkLine_13 {L : Nat} {xs : Nat → Int32} {d : Nat} {Q : xO → Prop} (x1 : Int32) (I : xI) (J : xJ) {t : Unit × xI × xJ} (h : f_X8_checkLine_13 x1 I J = some t) (hC : (c_X8_checkLine Q) t) : Rn L xs (d + 4) 110 94 [some (.ref 30), some (.int x1)] [.ref 30] 94 (I, J, xrf) Q := by
  unfold f_X8_checkLine_13 at h
  refine Rn.go 2 (j' := 110) (pc' := 99) (ls' := [some (.ref 30), some (.int x1)]) (st' := [.int 1, .ref 30]) (n' := 94) (M' := (I, J, xrf)) (fun f => rfl) ?_
  exact p_X8_checkLine_15 x1 1 I J h hC
theorem p_X8_checkLine_12 {L : Nat} {xs : Nat → Int32} {d : Nat} {Q : xO → Prop} (x1 : Int32) (s1 : Int32) (I : xI) (J : xJ) {t : Unit × xI × xJ} (h : f_X8_checkLine_12 x1 s1 I J = some t) (hC : (c_X8_checkLine Q) t) : Rn L xs (d + 4) 110 91 [some (.ref 30), some (.int x1)] [.int s1, .ref 30] 94 (I, J, xrf) Q := by
  unfold f_X8_checkLine_12 at h
  refine Rn.fi 1 (c := s1 = 0) (p1 := 94) (l1 := [some (.ref 30), some (.int x1)]) (s1 := [.ref 30]) (n1 := 94) (M1 := (I, J, xrf)) (p2 := 98) (l2 := [some (.ref 30), some (.int x1)]) (s2 := [.ref 30]) (n2 := 94) (M2 := (I, J, xrf)) (fun f => rfl) (fun hc => ?_) (fun hc => ?_)
  · rw [if_pos hc] at h
    exact p_X8_checkLine_13 x1 I J h hC
  · rw [if_neg hc] at h
    exact p_X8_checkLine_14 x1 I J h hC
theorem p_X8_checkLine_11 {L : Nat} {xs : Nat → Int32} {d : Nat} {Q : xO → Prop} (x1 : Int32) (s1 : Int32) (I : xI) (J : xJ) {t : Unit × xI × xJ} (h : f_X8_checkLine_11 x1 s1 I J = some t) (hC : (c_X8_checkLine Q) t) : Rn L xs (d + 4) 110 88 [some (.ref 30), some (.int x1)] [.int s1, .ref 30] 94 (I, J, xrf) Q := by
  unfold f_X8_checkLine_11 at h
  obtain ⟨o, ho, h⟩ := Option.bind_eq_some_iff.mp h
  refine Rn.call (d1 := d + 3) (j1 := 108) (ls1 := [some (.int s1)]) (rest := [.ref 30]) (fun f => rfl) ?_
  refine p_X8_isInputs (d := d + 2) s1 I J (t := o) ho ?_
  exact p_X8_checkLine_12 x1 o.1 o.2.1 o.2.2 h hC
theorem p_X8_checkLine_10 {L : Nat} {xs : Nat → Int32} {d : Nat} {Q : xO → Prop} (x1 : Int32) (I : xI) (J : xJ) {t : Unit × xI × xJ} (h : f_X8_checkLine_10 x1 I J = some t) (hC : (c_X8_checkLine Q) t) : Rn L xs (d + 4) 110 80 [some (.ref 30), some (.int x1)] [] 94 (I, J, xrf) Q := by
  unfold f_X8_checkLine_10 at h
  refine Rn.go 5 (j' := 110) (pc' := 85) (ls' := [some (.ref 30), some (.int x1)]) (st' := [.int ((x1 + 1)), .ref 30, .ref 30]) (n' := 94) (M' := (I, J, xrf)) (fun f => rfl) ?_
  obtain ⟨o, ho, h⟩ := Option.bind_eq_some_iff.mp h
  refine Rn.call (d1 := d + 3) (j1 := 114) (ls1 := [some (.ref 30), some (.int ((x1 + 1)))]) (rest := [.ref 30]) (fun f => rfl) ?_
  refine p_X8_valueOf (d := d + 0) ((x1 + 1)) I J (t := o) ho ?_
  exact p_X8_checkLine_11 x1 o.1 o.2.1 o.2.2 h hC
theorem p_X8_checkLine_41 {L : Nat} {xs : Nat → Int32} {d : Nat} {Q : xO → Prop} (x1 : Int32) (I : xI) (J : xJ) {t : Unit × xI × xJ} (h : f_X8_checkLine_41 x1 I J = some t) (hC : (c_X8_checkLine Q) t) : Rn L xs (d + 4) 110 226 [some (.ref 30), some (.int x1)] [] 94 (I, J, xrf) Q := by
  unfold f_X8_checkLine_41 at h
  refine Rn.go 1 (j' := 110) (pc' := 277) (ls' := [some (.ref 30), some (.int x1)]) (st' := []) (n' := 94) (M' := (I, J, xrf)) (fun f => rfl) ?_
  exact p_X8_checkLine_52 x1 I J h hC
theorem p_X8_checkLine_40 {L : Nat} {xs : Nat → Int32} {d : Nat} {Q : xO → Prop} (x1 : Int32) (s1 : Int32) (I : xI) (J : xJ) {t : Unit × xI × xJ} (h : f_X8_checkLine_40 x1 s1 I J = some t) (hC : (c_X8_checkLine Q) t) : Rn L xs (d + 4) 110 219 [some (.ref 30), some (.int x1)] [.int s1, .ref 30] 94 (I, J, xrf) Q := by
  unfold f_X8_checkLine_40 at h
  refine Rn.go 4 (j' := 110) (pc' := 223) (ls' := [some (.ref 30), some (.int x1)]) (st' := [.int ((x1 + 4)), .int 5, .int s1, .ref 30]) (n' := 94) (M' := (I, J, xrf)) (fun f => rfl) ?_
  obtain ⟨o, ho, h⟩ := Option.bind_eq_some_iff.mp h
  refine Rn.call (d1 := d + 3) (j1 := 111) (ls1 := [some (.ref 30), some (.int s1), some (.int 5), some (.int ((x1 + 4)))]) (rest := []) (fun f => rfl) ?_
  refine p_X8_failIf (d := d + 1) s1 5 ((x1 + 4)) I J (t := o) ho ?_
  exact p_X8_checkLine_41 x1 o.2.1 o.2.2 h hC
theorem p_X8_checkLine_39 {L : Nat} {xs : Nat → Int32} {d : Nat} {Q : xO → Prop} (x1 : Int32) (I : xI) (J : xJ) {t : Unit × xI × xJ} (h : f_X8_checkLine_39 x1 I J = some t) (hC : (c_X8_checkLine Q) t) : Rn L xs (d + 4) 110 218 [some (.ref 30), some (.int x1)] [.ref 30] 94 (I, J, xrf) Q := by
  unfold f_X8_checkLine_39 at h
  refine Rn.go 1 (j' := 110) (pc' := 219) (ls' := [some (.ref 30), some (.int x1)]) (st' := [.int 0, .ref 30]) (n' := 94) (M' := (I, J, xrf)) (fun f => rfl) ?_
  exact p_X8_checkLine_40 x1 0 I J h hC
theorem p_X8_checkLine_38 {L : Nat} {xs : Nat → Int32} {d : Nat} {Q : xO → Prop} (x1 : Int32) (I : xI) (J : xJ) {t : Unit × xI × xJ} (h : f_X8_checkLine_38 x1 I J = some t) (hC : (c_X8_checkLine Q) t) : Rn L xs (d + 4) 110 214 [some (.ref 30), some (.int x1)] [.ref 30] 94 (I, J, xrf) Q := by
  unfold f_X8_checkLine_38 at h
  refine Rn.go 2 (j' := 110) (pc' := 219) (ls' := [some (.ref 30), some (.int x1)]) (st' := [.int 1, .ref 30]) (n' := 94) (M' := (I, J, xrf)) (fun f => rfl) ?_
  exact p_X8_checkLine_40 x1 1 I J h hC
theorem p_X8_checkLine_37 {L : Nat} {xs : Nat → Int32} {d : Nat} {Q : xO → Prop} (x1 : Int32) (s1 : Int32) (I : xI) (J : xJ) {t : Unit × xI × xJ} (h : f_X8_checkLine_37 x1 s1 I J = some t) (hC : (c_X8_checkLine Q) t) : Rn L xs (d + 4) 110 210 [some (.ref 30), some (.int x1)] [.int s1, .ref 30] 94 (I, J, xrf) Q := by
  unfold f_X8_checkLine_37 at h
  refine Rn.fi 2 (c := s1 ≤ 3) (p1 := 218) (l1 := [some (.ref 30), some (.int x1)]) (s1 := [.ref 30]) (n1 := 94) (M1 := (I, J, xrf)) (p2 := 214) (l2 := [some (.ref 30), some (.int x1)]) (s2 := [.ref 30]) (n2 := 94) (M2 := (I, J, xrf)) (fun f => rfl) (fun hc => ?_) (fun hc => ?_)
  · rw [if_pos hc] at h
    exact p_X8_checkLine_39 x1 I J h hC
  · rw [if_neg hc] at h
    exact p_X8_checkLine_38 x1 I J h hC
theorem p_X8_checkLine_36 {L : Nat} {xs : Nat → Int32} {d : Nat} {Q : xO → Prop} (x1 : Int32) (I : xI) (J : xJ) {t : Unit × xI × xJ} (h : f_X8_checkLine_36 x1 I J = some t) (hC : (c_X8_checkLine Q) t) : Rn L xs (d + 4) 110 203 [some (.ref 30), some (.int x1)] [.ref 30] 94 (I, J, xrf) Q := by
  unfold f_X8_checkLine_36 at h
  refine Rn.go 4 (j' := 110) (pc' := 207) (ls' := [some (.ref 30), some (.int x1)]) (st' := [.int ((x1 + 4)), .ref 30, .ref 30]) (n' := 94) (M' := (I, J, xrf)) (fun f => rfl) ?_
  obtain ⟨o, ho, h⟩ := Option.bind_eq_some_iff.mp h
  refine Rn.call (d1 := d + 3) (j1 := 114) (ls1 := [some (.ref 30), some (.int ((x1 + 4)))]) (rest := [.ref 30]) (fun f => rfl) ?_
  refine p_X8_valueOf (d := d + 0) ((x1 + 4)) I J (t := o) ho ?_
  exact p_X8_checkLine_37 x1 o.1 o.2.1 o.2.2 h hC
theorem p_X8_checkLine_35 {L : Nat} {xs : Nat → Int32} {d : Nat} {Q : xO → Prop} (x1 : Int32) (s1 : Int32) (I : xI) (J : xJ) {t : Unit × xI × xJ} (h : f_X8_checkLine_35 x1 s1 I J = some t) (hC : (c_X8_checkLine Q) t) : Rn L xs (d + 4) 110 200 [some (.ref 30), some (.int x1)] [.int s1, .ref 30] 94 (I, J, xrf) Q := by
  unfold f_X8_checkLine_35 at h
  refine Rn.fi 1 (c := s1 = 0) (p1 := 203) (l1 := [some (.ref 30), some (.int x1)]) (s1 := [.ref 30]) (n1 := 94) (M1 := (I, J, xrf)) (p2 := 218) (l2 := [some (.ref 30), some (.int x1)]) (s2 := [.ref 30]) (n2 := 94) (M2 := (I, J, xrf)) (fun f => rfl) (fun hc => ?_) (fun hc => ?_)
  · rw [if_pos hc] at h
    exact p_X8_checkLine_36 x1 I J h hC
  · rw [if_neg hc] at h
    exact p_X8_checkLine_39 x1 I J h hC
theorem p_X8_checkLine_34 {L : Nat} {xs : Nat → Int32} {d : Nat} {Q : xO → Prop} (x1 : Int32) (I : xI) (J : xJ) {t : Unit × xI × xJ} (h : f_X8_checkLine_34 x1 I J = some t) (hC : (c_X8_checkLine Q) t) : Rn L xs (d + 4) 110 192 [some (.ref 30), some (.int x1)] [] 94 (I, J, xrf) Q := by
  unfold f_X8_checkLine_34 at h
  refine Rn.go 5 (j' := 110) (pc' := 197) (ls' := [some (.ref 30), some (.int x1)]) (st' := [.int ((x1 + 4)), .ref 30, .ref 30]) (n' := 94) (M' := (I, J, xrf)) (fun f => rfl) ?_
  obtain ⟨o, ho, h⟩ := Option.bind_eq_some_iff.mp h
  refine Rn.call (d1 := d + 3) (j1 := 113) (ls1 := [some (.ref 30), some (.int ((x1 + 4)))]) (rest := [.ref 30]) (fun f => rfl) ?_
  refine p_X8_isOpen (d := d + 1) ((x1 + 4)) I J (t := o) ho ?_
  exact p_X8_checkLine_35 x1 o.1 o.2.1 o.2.2 h hC
theorem p_X8_checkLine_33 {L : Nat} {xs : Nat → Int32} {d : Nat} {Q : xO → Prop} (x1 : Int32) (s1 : Int32) (I : xI) (J : xJ) {t : Unit × xI × xJ} (h : f_X8_checkLine_33 x1 s1 I J = some t) (hC : (c_X8_checkLine Q) t) : Rn L xs (d + 4) 110 185 [some (.ref 30), some (.int x1)] [.int s1, .ref 30] 94 (I, J, xrf) Q := by
  unfold f_X8_checkLine_33 at h
  refine Rn.go 4 (j' := 110) (pc' := 189) (ls' := [some (.ref 30), some (.int x1)]) (st' := [.int ((x1 + 3)), .int 4, .int s1, .ref 30]) (n' := 94) (M' := (I, J, xrf)) (fun f => rfl) ?_
  obtain ⟨o, ho, h⟩ := Option.bind_eq_some_iff.mp h
  refine Rn.call (d1 := d + 3) (j1 := 111) (ls1 := [some (.ref 30), some (.int s1), some (.int 4), some (.int ((x1 + 3)))]) (rest := []) (fun f => rfl) ?_
  refine p_X8_failIf (d := d + 1) s1 4 ((x1 + 3)) I J (t := o) ho ?_
  exact p_X8_checkLine_34 x1 o.2.1 o.2.2 h hC
theorem p_X8_checkLine_32 {L : Nat} {xs : Nat → Int32} {d : Nat} {Q : xO → Prop} (x1 : Int32) (I : xI) (J : xJ) {t : Unit × xI × xJ} (h : f_X8_checkLine_32 x1 I J = some t) (hC : (c_X8_checkLine Q) t) : Rn L xs (d + 4) 110 184 [some (.ref 30), some (.int x1)] [.ref 30] 94 (I, J, xrf) Q := by
  unfold f_X8_checkLine_32 at h
  refine Rn.go 1 (j' := 110) (pc' := 185) (ls' := [some (.ref 30), some (.int x1)]) (st' := [.int 0, .ref 30]) (n' := 94) (M' := (I, J, xrf)) (fun f => rfl) ?_
  exact p_X8_checkLine_33 x1 0 I J h hC
theorem p_X8_checkLine_31 {L : Nat} {xs : Nat → Int32} {d : Nat} {Q : xO → Prop} (x1 : Int32) (I : xI) (J : xJ) {t : Unit × xI × xJ} (h : f_X8_checkLine_31 x1 I J = some t) (hC : (c_X8_checkLine Q) t) : Rn L xs (d + 4) 110 180 [some (.ref 30), some (.int x1)] [.ref 30] 94 (I, J, xrf) Q := by
  unfold f_X8_checkLine_31 at h
  refine Rn.go 2 (j' := 110) (pc' := 185) (ls' := [some (.ref 30), some (.int x1)]) (st' := [.int 1, .ref 30]) (n' := 94) (M' := (I, J, xrf)) (fun f => rfl) ?_
  exact p_X8_checkLine_33 x1 1 I J h hC
theorem p_X8_checkLine_30 {L : Nat} {xs : Nat → Int32} {d : Nat} {Q : xO → Prop} (x1 : Int32) (s1 : Int32) (I : xI) (J : xJ) {t : Unit × xI × xJ} (h : f_X8_checkLine_30 x1 s1 I J = some t) (hC : (c_X8_checkLine Q) t) : Rn L xs (d + 4) 110 177 [some (.ref 30), some (.int x1)] [.int s1, .ref 30] 94 (I, J, xrf) Q := by
  unfold f_X8_checkLine_30 at h
  refine Rn.fi 1 (c := 0 ≤ s1) (p1 := 184) (l1 := [some (.ref 30), some (.int x1)]) (s1 := [.ref 30]) (n1 := 94) (M1 := (I, J, xrf)) (p2 := 180) (l2 := [some (.ref 30), some (.int x1)]) (s2 := [.ref 30]) (n2 := 94) (M2 := (I, J, xrf)) (fun f => rfl) (fun hc => ?_) (fun hc => ?_)
  · rw [if_pos hc] at h
    exact p_X8_checkLine_32 x1 I J h hC
  · rw [if_neg hc] at h
    exact p_X8_checkLine_31 x1 I J h hC
theorem p_X8_checkLine_29 {L : Nat} {xs : Nat → Int32} {d : Nat} {Q : xO → Prop} (x1 : Int32) (I : xI) (J : xJ) {t : Unit × xI × xJ} (h : f_X8_checkLine_29 x1 I J = some t) (hC : (c_X8_checkLine Q) t) : Rn L xs (d + 4) 110 170 [some (.ref 30), some (.int x1)] [.ref 30] 94 (I, J, xrf) Q := by
  unfold f_X8_checkLine_29 at h
  refine Rn.go 4 (j' := 110) (pc' := 174) (ls' := [some (.ref 30), some (.int x1)]) (st' := [.int ((x1 + 3)), .ref 30, .ref 30]) (n' := 94) (M' := (I, J, xrf)) (fun f => rfl) ?_
  obtain ⟨o, ho, h⟩ := Option.bind_eq_some_iff.mp h
  refine Rn.call (d1 := d + 3) (j1 := 115) (ls1 := [some (.ref 30), some (.int ((x1 + 3))), none, none]) (rest := [.ref 30]) (fun f => rfl) ?_
  refine p_X8_stateIn (d := d + 0) ((x1 + 3)) I J (t := o) ho ?_
  exact p_X8_checkLine_30 x1 o.1 o.2.1 o.2.2 h hC
theorem p_X8_checkLine_28 {L : Nat} {xs : Nat → Int32} {d : Nat} {Q : xO → Prop} (x1 : Int32) (s1 : Int32) (I : xI) (J : xJ) {t : Unit × xI × xJ} (h : f_X8_checkLine_28 x1 s1 I J = some t) (hC : (c_X8_checkLine Q) t) : Rn L xs (d + 4) 110 167 [some (.ref 30), some (.int x1)] [.int s1, .ref 30] 94 (I, J, xrf) Q := by
  unfold f_X8_checkLine_28 at h
  refine Rn.fi 1 (c := s1 = 0) (p1 := 170) (l1 := [some (.ref 30), some (.int x1)]) (s1 := [.ref 30]) (n1 := 94) (M1 := (I, J, xrf)) (p2 := 184) (l2 := [some (.ref 30), some (.int x1)]) (s2 := [.ref 30]) (n2 := 94) (M2 := (I, J, xrf)) (fun f => rfl) (fun hc => ?_) (fun hc => ?_)
  · rw [if_pos hc] at h
    exact p_X8_checkLine_29 x1 I J h hC
  · rw [if_neg hc] at h
    exact p_X8_checkLine_32 x1 I J h hC
theorem p_X8_checkLine_27 {L : Nat} {xs : Nat → Int32} {d : Nat} {Q : xO → Prop} (x1 : Int32) (I : xI) (J : xJ) {t : Unit × xI × xJ} (h : f_X8_checkLine_27 x1 I J = some t) (hC : (c_X8_checkLine Q) t) : Rn L xs (d + 4) 110 159 [some (.ref 30), some (.int x1)] [] 94 (I, J, xrf) Q := by
  unfold f_X8_checkLine_27 at h
  refine Rn.go 5 (j' := 110) (pc' := 164) (ls' := [some (.ref 30), some (.int x1)]) (st' := [.int ((x1 + 3)), .ref 30, .ref 30]) (n' := 94) (M' := (I, J, xrf)) (fun f => rfl) ?_
  obtain ⟨o, ho, h⟩ := Option.bind_eq_some_iff.mp h
  refine Rn.call (d1 := d + 3) (j1 := 113) (ls1 := [some (.ref 30), some (.int ((x1 + 3)))]) (rest := [.ref 30]) (fun f => rfl) ?_
  refine p_X8_isOpen (d := d + 1) ((x1 + 3)) I J (t := o) ho ?_
  exact p_X8_checkLine_28 x1 o.1 o.2.1 o.2.2 h hC
theorem p_X8_checkLine_26 {L : Nat} {xs : Nat → Int32} {d : Nat} {Q : xO → Prop} (x1 : Int32) (s1 : Int32) (I : xI) (J : xJ) {t : Unit × xI × xJ} (h : f_X8_checkLine_26 x1 s1 I J = some t) (hC : (c_X8_checkLine Q) t) : Rn L xs (d + 4) 110 152 [some (.ref 30), some (.int x1)] [.int s1, .ref 30] 94 (I, J, xrf) Q := by
  unfold f_X8_checkLine_26 at h
  refine Rn.go 4 (j' := 110) (pc' := 156) (ls' := [some (.ref 30), some (.int x1)]) (st' := [.int ((x1 + 2)), .int 5, .int s1, .ref 30]) (n' := 94) (M' := (I, J, xrf)) (fun f => rfl) ?_
  obtain ⟨o, ho, h⟩ := Option.bind_eq_some_iff.mp h
  refine Rn.call (d1 := d + 3) (j1 := 111) (ls1 := [some (.ref 30), some (.int s1), some (.int 5), some (.int ((x1 + 2)))]) (rest := []) (fun f => rfl) ?_
  refine p_X8_failIf (d := d + 1) s1 5 ((x1 + 2)) I J (t := o) ho ?_
  exact p_X8_checkLine_27 x1 o.2.1 o.2.2 h hC
theorem p_X8_checkLine_25 {L : Nat} {xs : Nat → Int32} {d : Nat} {Q : xO → Prop} (x1 : Int32) (I : xI) (J : xJ) {t : Unit × xI × xJ} (h : f_X8_checkLine_25 x1 I J = some t) (hC : (c_X8_checkLine Q) t) : Rn L xs (d + 4) 110 151 [some (.ref 30), some (.int x1)] [.ref 30] 94 (I, J, xrf) Q := by
  unfold f_X8_checkLine_25 at h
  refine Rn.go 1 (j' := 110) (pc' := 152) (ls' := [some (.ref 30), some (.int x1)]) (st' := [.int 0, .ref 30]) (n' := 94) (M' := (I, J, xrf)) (fun f => rfl) ?_
  exact p_X8_checkLine_26 x1 0 I J h hC
theorem p_X8_checkLine_24 {L : Nat} {xs : Nat → Int32} {d : Nat} {Q : xO → Prop} (x1 : Int32) (I : xI) (J : xJ) {t : Unit × xI × xJ} (h : f_X8_checkLine_24 x1 I J = some t) (hC : (c_X8_checkLine Q) t) : Rn L xs (d + 4) 110 147 [some (.ref 30), some (.int x1)] [.ref 30] 94 (I, J, xrf) Q := by
  unfold f_X8_checkLine_24 at h
  refine Rn.go 2 (j' := 110) (pc' := 152) (ls' := [some (.ref 30), some (.int x1)]) (st' := [.int 1, .ref 30]) (n' := 94) (M' := (I, J, xrf)) (fun f => rfl) ?_
  exact p_X8_checkLine_26 x1 1 I J h hC
theorem p_X8_checkLine_23 {L : Nat} {xs : Nat → Int32} {d : Nat} {Q : xO → Prop} (x1 : Int32) (s1 : Int32) (I : xI) (J : xJ) {t : Unit × xI × xJ} (h : f_X8_checkLine_23 x1 s1 I J = some t) (hC : (c_X8_checkLine Q) t) : Rn L xs (d + 4) 110 140 [some (.ref 30), some (.int x1)] [.int s1, .ref 30] 94 (I, J, xrf) Q := by
  unfold f_X8_checkLine_23 at h
  refine Rn.fi 3 (c := s1 < (I 30 4)) (p1 := 151) (l1 := [some (.ref 30), some (.int x1)]) (s1 := [.ref 30]) (n1 := 94) (M1 := (I, J, xrf)) (p2 := 147) (l2 := [some (.ref 30), some (.int x1)]) (s2 := [.ref 30]) (n2 := 94) (M2 := (I, J, xrf)) (fun f => rfl) (fun hc => ?_) (fun hc => ?_)
  · rw [if_pos hc] at h
    exact p_X8_checkLine_25 x1 I J h hC
  · rw [if_neg hc] at h
    exact p_X8_checkLine_24 x1 I J h hC
theorem p_X8_checkLine_22 {L : Nat} {xs : Nat → Int32} {d : Nat} {Q : xO → Prop} (x1 : Int32) (I : xI) (J : xJ) {t : Unit × xI × xJ} (h : f_X8_checkLine_22 x1 I J = some t) (hC : (c_X8_checkLine Q) t) : Rn L xs (d + 4) 110 132 [some (.ref 30), some (.int x1)] [] 94 (I, J, xrf) Q := by
  unfold f_X8_checkLine_22 at h
  refine Rn.go 5 (j' := 110) (pc' := 137) (ls' := [some (.ref 30), some (.int x1)]) (st' := [.int ((x1 + 2)), .ref 30, .ref 30]) (n' := 94) (M' := (I, J, xrf)) (fun f => rfl) ?_
  obtain ⟨o, ho, h⟩ := Option.bind_eq_some_iff.mp h
  refine Rn.call (d1 := d + 3) (j1 := 114) (ls1 := [some (.ref 30), some (.int ((x1 + 2)))]) (rest := [.ref 30]) (fun f => rfl) ?_
  refine p_X8_valueOf (d := d + 0) ((x1 + 2)) I J (t := o) ho ?_
  exact p_X8_checkLine_23 x1 o.1 o.2.1 o.2.2 h hC
theorem p_X8_checkLine_21 {L : Nat} {xs : Nat → Int32} {d : Nat} {Q : xO → Prop} (x1 : Int32) (s1 : Int32) (I : xI) (J : xJ) {t : Unit × xI × xJ} (h : f_X8_checkLine_21 x1 s1 I J = some t) (hC : (c_X8_checkLine Q) t) : Rn L xs (d + 4) 110 125 [some (.ref 30), some (.int x1)] [.int s1, .ref 30] 94 (I, J, xrf) Q := by
  unfold f_X8_checkLine_21 at h
  refine Rn.go 4 (j' := 110) (pc' := 129) (ls' := [some (.ref 30), some (.int x1)]) (st' := [.int ((x1 + 1)), .int 4, .int s1, .ref 30]) (n' := 94) (M' := (I, J, xrf)) (fun f => rfl) ?_
  obtain ⟨o, ho, h⟩ := Option.bind_eq_some_iff.mp h
  refine Rn.call (d1 := d + 3) (j1 := 111) (ls1 := [some (.ref 30), some (.int s1), some (.int 4), some (.int ((x1 + 1)))]) (rest := []) (fun f => rfl) ?_
  refine p_X8_failIf (d := d + 1) s1 4 ((x1 + 1)) I J (t := o) ho ?_
  exact p_X8_checkLine_22 x1 o.2.1 o.2.2 h hC
theorem p_X8_checkLine_20 {L : Nat} {xs : Nat → Int32} {d : Nat} {Q : xO → Prop} (x1 : Int32) (I : xI) (J : xJ) {t : Unit × xI × xJ} (h : f_X8_checkLine_20 x1 I J = some t) (hC : (c_X8_checkLine Q) t) : Rn L xs (d + 4) 110 124 [some (.ref 30), some (.int x1)] [.ref 30] 94 (I, J, xrf) Q := by
  unfold f_X8_checkLine_20 at h
  refine Rn.go 1 (j' := 110) (pc' := 125) (ls' := [some (.ref 30), some (.int x1)]) (st' := [.int 0, .ref 30]) (n' := 94) (M' := (I, J, xrf)) (fun f => rfl) ?_
  exact p_X8_checkLine_21 x1 0 I J h hC
theorem p_X8_checkLine_19 {L : Nat} {xs : Nat → Int32} {d : Nat} {Q : xO → Prop} (x1 : Int32) (I : xI) (J : xJ) {t : Unit × xI × xJ} (h : f_X8_checkLine_19 x1 I J = some t) (hC : (c_X8_checkLine Q) t) : Rn L xs (d + 4) 110 120 [some (.ref 30), some (.int x1)] [.ref 30] 94 (I, J, xrf) Q := by
  unfold f_X8_checkLine_19 at h
  refine Rn.go 2 (j' := 110) (pc' := 125) (ls' := [some (.ref 30), some (.int x1)]) (st' := [.int 1, .ref 30]) (n' := 94) (M' := (I, J, xrf)) (fun f => rfl) ?_
  exact p_X8_checkLine_21 x1 1 I J h hC
theorem p_X8_checkLine_18 {L : Nat} {xs : Nat → Int32} {d : Nat} {Q : xO → Prop} (x1 : Int32) (s1 : Int32) (I : xI) (J : xJ) {t : Unit × xI × xJ} (h : f_X8_checkLine_18 x1 s1 I J = some t) (hC : (c_X8_checkLine Q) t) : Rn L xs (d + 4) 110 117 [some (.ref 30), some (.int x1)] [.int s1, .ref 30] 94 (I, J, xrf) Q := by
  unfold f_X8_checkLine_18 at h
  refine Rn.fi 1 (c := 0 ≤ s1) (p1 := 124) (l1 := [some (.ref 30), some (.int x1)]) (s1 := [.ref 30]) (n1 := 94) (M1 := (I, J, xrf)) (p2 := 120) (l2 := [some (.ref 30), some (.int x1)]) (s2 := [.ref 30]) (n2 := 94) (M2 := (I, J, xrf)) (fun f => rfl) (fun hc => ?_) (fun hc => ?_)
  · rw [if_pos hc] at h
    exact p_X8_checkLine_20 x1 I J h hC
  · rw [if_neg hc] at h
    exact p_X8_checkLine_19 x1 I J h hC
theorem p_X8_checkLine_17 {L : Nat} {xs : Nat → Int32} {d : Nat} {Q : xO → Prop} (x1 : Int32) (I : xI) (J : xJ) {t : Unit × xI × xJ} (h : f_X8_checkLine_17 x1 I J = some t) (hC : (c_X8_checkLine Q) t) : Rn L xs (d + 4) 110 109 [some (.ref 30), some (.int x1)] [] 94 (I, J, xrf) Q := by
  unfold f_X8_checkLine_17 at h
  refine Rn.go 5 (j' := 110) (pc' := 114) (ls' := [some (.ref 30), some (.int x1)]) (st' := [.int ((x1 + 1)), .ref 30, .ref 30]) (n' := 94) (M' := (I, J, xrf)) (fun f => rfl) ?_
  obtain ⟨o, ho, h⟩ := Option.bind_eq_some_iff.mp h
  refine Rn.call (d1 := d + 3) (j1 := 115) (ls1 := [some (.ref 30), some (.int ((x1 + 1))), none, none]) (rest := [.ref 30]) (fun f => rfl) ?_
  refine p_X8_stateIn (d := d + 0) ((x1 + 1)) I J (t := o) ho ?_
  exact p_X8_checkLine_18 x1 o.1 o.2.1 o.2.2 h hC
theorem p_X8_checkLine_51 {L : Nat} {xs : Nat → Int32} {d : Nat} {Q : xO → Prop} (x1 : Int32) (s1 : Int32) (I : xI) (J : xJ) {t : Unit × xI × xJ} (h : f_X8_checkLine_51 x1 s1 I J = some t) (hC : (c_X8_checkLine Q) t) : Rn L xs (d + 4) 110 270 [some (.ref 30), some (.int x1)] [.int s1, .ref 30] 94 (I, J, xrf) Q := by
  unfold f_X8_checkLine_51 at h
  refine Rn.go 4 (j' := 110) (pc' := 274) (ls' := [some (.ref 30), some (.int x1)]) (st' := [.int ((x1 + 2)), .int 5, .int s1, .ref 30]) (n' := 94) (M' := (I, J, xrf)) (fun f => rfl) ?_
  obtain ⟨o, ho, h⟩ := Option.bind_eq_some_iff.mp h
  refine Rn.call (d1 := d + 3) (j1 := 111) (ls1 := [some (.ref 30), some (.int s1), some (.int 5), some (.int ((x1 + 2)))]) (rest := []) (fun f => rfl) ?_
  refine p_X8_failIf (d := d + 1) s1 5 ((x1 + 2)) I J (t := o) ho ?_
  exact p_X8_checkLine_52 x1 o.2.1 o.2.2 h hC
theorem p_X8_checkLine_50 {L : Nat} {xs : Nat → Int32} {d : Nat} {Q : xO → Prop} (x1 : Int32) (I : xI) (J : xJ) {t : Unit × xI × xJ} (h : f_X8_checkLine_50 x1 I J = some t) (hC : (c_X8_checkLine Q) t) : Rn L xs (d + 4) 110 269 [some (.ref 30), some (.int x1)] [.ref 30] 94 (I, J, xrf) Q := by
  unfold f_X8_checkLine_50 at h
  refine Rn.go 1 (j' := 110) (pc' := 270) (ls' := [some (.ref 30), some (.int x1)]) (st' := [.int 0, .ref 30]) (n' := 94) (M' := (I, J, xrf)) (fun f => rfl) ?_
  exact p_X8_checkLine_51 x1 0 I J h hC
theorem p_X8_checkLine_49 {L : Nat} {xs : Nat → Int32} {d : Nat} {Q : xO → Prop} (x1 : Int32) (I : xI) (J : xJ) {t : Unit × xI × xJ} (h : f_X8_checkLine_49 x1 I J = some t) (hC : (c_X8_checkLine Q) t) : Rn L xs (d + 4) 110 265 [some (.ref 30), some (.int x1)] [.ref 30] 94 (I, J, xrf) Q := by
  unfold f_X8_checkLine_49 at h
  refine Rn.go 2 (j' := 110) (pc' := 270) (ls' := [some (.ref 30), some (.int x1)]) (st' := [.int 1, .ref 30]) (n' := 94) (M' := (I, J, xrf)) (fun f => rfl) ?_
  exact p_X8_checkLine_51 x1 1 I J h hC
theorem p_X8_checkLine_48 {L : Nat} {xs : Nat → Int32} {d : Nat} {Q : xO → Prop} (x1 : Int32) (s1 : Int32) (I : xI) (J : xJ) {t : Unit × xI × xJ} (h : f_X8_checkLine_48 x1 s1 I J = some t) (hC : (c_X8_checkLine Q) t) : Rn L xs (d + 4) 110 260 [some (.ref 30), some (.int x1)] [.int s1, .ref 30] 94 (I, J, xrf) Q := by
  unfold f_X8_checkLine_48 at h
  refine Rn.fi 2 (c := s1 < 8) (p1 := 269) (l1 := [some (.ref 30), some (.int x1)]) (s1 := [.ref 30]) (n1 := 94) (M1 := (I, J, xrf)) (p2 := 265) (l2 := [some (.ref 30), some (.int x1)]) (s2 := [.ref 30]) (n2 := 94) (M2 := (I, J, xrf)) (fun f => rfl) (fun hc => ?_) (fun hc => ?_)
  · rw [if_pos hc] at h
    exact p_X8_checkLine_50 x1 I J h hC
  · rw [if_neg hc] at h
    exact p_X8_checkLine_49 x1 I J h hC
theorem p_X8_checkLine_47 {L : Nat} {xs : Nat → Int32} {d : Nat} {Q : xO → Prop} (x1 : Int32) (I : xI) (J : xJ) {t : Unit × xI × xJ} (h : f_X8_checkLine_47 x1 I J = some t) (hC : (c_X8_checkLine Q) t) : Rn L xs (d + 4) 110 252 [some (.ref 30), some (.int x1)] [] 94 (I, J, xrf) Q := by
  unfold f_X8_checkLine_47 at h
  refine Rn.go 5 (j' := 110) (pc' := 257) (ls' := [some (.ref 30), some (.int x1)]) (st' := [.int ((x1 + 2)), .ref 30, .ref 30]) (n' := 94) (M' := (I, J, xrf)) (fun f => rfl) ?_
  obtain ⟨o, ho, h⟩ := Option.bind_eq_some_iff.mp h
  refine Rn.call (d1 := d + 3) (j1 := 114) (ls1 := [some (.ref 30), some (.int ((x1 + 2)))]) (rest := [.ref 30]) (fun f => rfl) ?_
  refine p_X8_valueOf (d := d + 0) ((x1 + 2)) I J (t := o) ho ?_
  exact p_X8_checkLine_48 x1 o.1 o.2.1 o.2.2 h hC
theorem p_X8_checkLine_46 {L : Nat} {xs : Nat → Int32} {d : Nat} {Q : xO → Prop} (x1 : Int32) (s1 : Int32) (I : xI) (J : xJ) {t : Unit × xI × xJ} (h : f_X8_checkLine_46 x1 s1 I J = some t) (hC : (c_X8_checkLine Q) t) : Rn L xs (d + 4) 110 245 [some (.ref 30), some (.int x1)] [.int s1, .ref 30] 94 (I, J, xrf) Q := by
  unfold f_X8_checkLine_46 at h
  refine Rn.go 4 (j' := 110) (pc' := 249) (ls' := [some (.ref 30), some (.int x1)]) (st' := [.int ((x1 + 1)), .int 4, .int s1, .ref 30]) (n' := 94) (M' := (I, J, xrf)) (fun f => rfl) ?_
  obtain ⟨o, ho, h⟩ := Option.bind_eq_some_iff.mp h
  refine Rn.call (d1 := d + 3) (j1 := 111) (ls1 := [some (.ref 30), some (.int s1), some (.int 4), some (.int ((x1 + 1)))]) (rest := []) (fun f => rfl) ?_
  refine p_X8_failIf (d := d + 1) s1 4 ((x1 + 1)) I J (t := o) ho ?_
  exact p_X8_checkLine_47 x1 o.2.1 o.2.2 h hC
theorem p_X8_checkLine_45 {L : Nat} {xs : Nat → Int32} {d : Nat} {Q : xO → Prop} (x1 : Int32) (I : xI) (J : xJ) {t : Unit × xI × xJ} (h : f_X8_checkLine_45 x1 I J = some t) (hC : (c_X8_checkLine Q) t) : Rn L xs (d + 4) 110 244 [some (.ref 30), some (.int x1)] [.ref 30] 94 (I, J, xrf) Q := by
  unfold f_X8_checkLine_45 at h
  refine Rn.go 1 (j' := 110) (pc' := 245) (ls' := [some (.ref 30), some (.int x1)]) (st' := [.int 0, .ref 30]) (n' := 94) (M' := (I, J, xrf)) (fun f => rfl) ?_
  exact p_X8_checkLine_46 x1 0 I J h hC
theorem p_X8_checkLine_44 {L : Nat} {xs : Nat → Int32} {d : Nat} {Q : xO → Prop} (x1 : Int32) (I : xI) (J : xJ) {t : Unit × xI × xJ} (h : f_X8_checkLine_44 x1 I J = some t) (hC : (c_X8_checkLine Q) t) : Rn L xs (d + 4) 110 240 [some (.ref 30), some (.int x1)] [.ref 30] 94 (I, J, xrf) Q := by
  unfold f_X8_checkLine_44 at h
  refine Rn.go 2 (j' := 110) (pc' := 245) (ls' := [some (.ref 30), some (.int x1)]) (st' := [.int 1, .ref 30]) (n' := 94) (M' := (I, J, xrf)) (fun f => rfl) ?_
  exact p_X8_checkLine_46 x1 1 I J h hC
theorem p_X8_checkLine_43 {L : Nat} {xs : Nat → Int32} {d : Nat} {Q : xO → Prop} (x1 : Int32) (s1 : Int32) (I : xI) (J : xJ) {t : Unit × xI × xJ} (h : f_X8_checkLine_43 x1 s1 I J = some t) (hC : (c_X8_checkLine Q) t) : Rn L xs (d + 4) 110 237 [some (.ref 30), some (.int x1)] [.int s1, .ref 30] 94 (I, J, xrf) Q := by
  unfold f_X8_checkLine_43 at h
  refine Rn.fi 1 (c := 0 ≤ s1) (p1 := 244) (l1 := [some (.ref 30), some (.int x1)]) (s1 := [.ref 30]) (n1 := 94) (M1 := (I, J, xrf)) (p2 := 240) (l2 := [some (.ref 30), some (.int x1)]) (s2 := [.ref 30]) (n2 := 94) (M2 := (I, J, xrf)) (fun f => rfl) (fun hc => ?_) (fun hc => ?_)
  · rw [if_pos hc] at h
    exact p_X8_checkLine_45 x1 I J h hC
  · rw [if_neg hc] at h
    exact p_X8_checkLine_44 x1 I J h hC
theorem p_X8_checkLine_42 {L : Nat} {xs : Nat → Int32} {d : Nat} {Q : xO → Prop} (x1 : Int32) (I : xI) (J : xJ) {t : Unit × xI × xJ} (h : f_X8_checkLine_42 x1 I J = some t) (hC : (c_X8_checkLine Q) t) : Rn L xs (d + 4) 110 229 [some (.ref 30), some (.int x1)] [] 94 (I, J, xrf) Q := by
  unfold f_X8_checkLine_42 at h
  refine Rn.go 5 (j' := 110) (pc' := 234) (ls' := [some (.ref 30), some (.int x1)]) (st' := [.int ((x1 + 1)), .ref 30, .ref 30]) (n' := 94) (M' := (I, J, xrf)) (fun f => rfl) ?_
  obtain ⟨o, ho, h⟩ := Option.bind_eq_some_iff.mp h
  refine Rn.call (d1 := d + 3) (j1 := 115) (ls1 := [some (.ref 30), some (.int ((x1 + 1))), none, none]) (rest := [.ref 30]) (fun f => rfl) ?_
  refine p_X8_stateIn (d := d + 0) ((x1 + 1)) I J (t := o) ho ?_
  exact p_X8_checkLine_43 x1 o.1 o.2.1 o.2.2 h hC
theorem p_X8_checkLine_1 {L : Nat} {xs : Nat → Int32} {d : Nat} {Q : xO → Prop} (x1 : Int32) (s0 : Int32) (I : xI) (J : xJ) {t : Unit × xI × xJ} (h : f_X8_checkLine_1 x1 s0 I J = some t) (hC : (c_X8_checkLine Q) t) : Rn L xs (d + 4) 110 9 [some (.ref 30), some (.int x1)] [.int s0] 94 (I, J, xrf) Q := by
  unfold f_X8_checkLine_1 at h
  by_cases hc0 : s0 = 4
  · rw [if_pos hc0] at h; subst hc0
    refine Rn.go 1 (j' := 110) (pc' := 36) (ls' := [some (.ref 30), some (.int x1)]) (st' := []) (n' := 94) (M' := (I, J, xrf)) (fun f => rfl) ?_
    exact p_X8_checkLine_2 x1 I J h hC
  rw [if_neg hc0] at h
  by_cases hc1 : s0 = 5
  · rw [if_pos hc1] at h; subst hc1
    refine Rn.go 1 (j' := 110) (pc' := 80) (ls' := [some (.ref 30), some (.int x1)]) (st' := []) (n' := 94) (M' := (I, J, xrf)) (fun f => rfl) ?_
    exact p_X8_checkLine_10 x1 I J h hC
  rw [if_neg hc1] at h
  by_cases hc2 : s0 = 6
  · rw [if_pos hc2] at h; subst hc2
    refine Rn.go 1 (j' := 110) (pc' := 109) (ls' := [some (.ref 30), some (.int x1)]) (st' := []) (n' := 94) (M' := (I, J, xrf)) (fun f => rfl) ?_
    exact p_X8_checkLine_17 x1 I J h hC
  rw [if_neg hc2] at h
  have ho : Int32.toInt s0 < 4 ∨ 6 < Int32.toInt s0 := xsw_out (fun i h1 h2 => by
      have hh : i = 4 ∨ i = 5 ∨ i = 6 := (by omega)
      rcases hh with rfl | rfl | rfl
      · exact hc0
      · exact hc1
      · exact hc2)
  refine Rn.go 1 (d' := (d + 4)) (j' := 110) (pc' := 229) (ls' := [some (.ref 30), some (.int x1)]) (st' := []) (n' := 94) (M' := (I, J, xrf)) (fun f => by show (if Int32.toInt s0 < 4 ∨ 6 < Int32.toInt s0 then _ else _) = _; rw [if_pos ho] <;> rfl) ?_
  exact p_X8_checkLine_42 x1 I J h hC
theorem p_X8_checkLine_0 {L : Nat} {xs : Nat → Int32} {d : Nat} {Q : xO → Prop} (x1 : Int32) (I : xI) (J : xJ) {t : Unit × xI × xJ} (h : f_X8_checkLine_0 x1 I J = some t) (hC : (c_X8_checkLine Q) t) : Rn L xs (d + 4) 110 0 [some (.ref 30), some (.int x1)] [] 94 (I, J, xrf) Q := by
  unfold f_X8_checkLine_0 at h
  obtain ⟨hc, h⟩ := xif h
  refine Rn.ok 5 (c := x1 < 0 ∨ 400 ≤ x1.toNatClampNeg) (p1 := 9) (l1 := [some (.ref 30), some (.int x1)]) (s1 := [.int ((I 27 x1.toNatClampNeg))]) (n1 := 94) (M1 := (I, J, xrf)) (fun f => rfl) hc ?_
  exact p_X8_checkLine_1 x1 ((I 27 x1.toNatClampNeg)) I J h hC
theorem p_X8_checkLine {L : Nat} {xs : Nat → Int32} {d : Nat} {Q : xO → Prop} (x1 : Int32) (I : xI) (J : xJ) {t : Unit × xI × xJ} (h : f_X8_checkLine x1 I J = some t) (hC : Q (none, 94, (t.2.1, t.2.2, xrf))) : Rn L xs (d + 4) 110 0 [some (.ref 30), some (.int x1)] [] 94 (I, J, xrf) Q := p_X8_checkLine_0 x1 I J h hC
/-! X8_check -/
def c_X8_check (Q : xO → Prop) (t : Int32 × xI × xJ) : Prop := Q ((some (.int t.1)), 94, (t.2.1, t.2.2, xrf))
def c_X8_check_4 (L : Nat) (xs : Nat → Int32) (d : Nat) (Q : xO → Prop) (t : (Int32 × xI × xJ) ⊕ (Int32 × xI × xJ)) : Prop := match t with
  | .inl s => Rn L xs (d + 7) 106 42 [some (.ref 30), some (.int s.1)] [] 94 (s.2.1, s.2.2, xrf) Q
  | .inr t => (c_X8_check Q) t
def f_X8_check_9 (z1 : Option Value) (I : xI) (J : xJ) : Option (Int32 × xI × xJ) := some ((I 30 5), I, J)
def f_X8_check_8 (x1 : Int32) (s0 : Int32) (s1 : Int32) (I : xI) (J : xJ) : Option ((Int32 × xI × xJ) ⊕ (Int32 × xI × xJ)) := some (.inl (((s0 + s1)), I, J))
def f_X8_check_7 (x1 : Int32) (I : xI) (J : xJ) : Option ((Int32 × xI × xJ) ⊕ (Int32 × xI × xJ)) := (f_X8_lengthOf x1 I J).bind fun o => f_X8_check_8 x1 x1 o.1 o.2.1 o.2.2
def f_X8_check_6 (x1 : Int32) (I : xI) (J : xJ) : Option ((Int32 × xI × xJ) ⊕ (Int32 × xI × xJ)) := (f_X8_checkLine x1 I J).bind fun o => f_X8_check_7 x1 o.2.1 o.2.2
def f_X8_check_5 (x1 : Int32) (I : xI) (J : xJ) : Option ((Int32 × xI × xJ) ⊕ (Int32 × xI × xJ)) := if (I 30 5) = 0 then f_X8_check_6 x1 I J else ((f_X8_check_9 (some (.int x1)) I J)).map .inr
def b_X8_check_4 (x1 : Int32) (I : xI) (J : xJ) : Option ((Int32 × xI × xJ) ⊕ (Int32 × xI × xJ)) := if (I 26 4) ≤ x1 then ((f_X8_check_9 (some (.int x1)) I J)).map .inr else f_X8_check_5 x1 I J
def f_X8_check_4 (x1 : Int32) (I : xI) (J : xJ) : Option (Int32 × xI × xJ) := xloop (fun s : Int32 × xI × xJ => b_X8_check_4 s.1 s.2.1 s.2.2) 5000 (x1, I, J)
def f_X8_check_3 (I : xI) (J : xJ) : Option (Int32 × xI × xJ) := f_X8_check_4 0 I J
def f_X8_check_2 (I : xI) (J : xJ) : Option (Int32 × xI × xJ) := (f_X8_gather I J).bind fun o => f_X8_check_3 o.2.1 o.2.2
def f_X8_check_1 (I : xI) (J : xJ) : Option (Int32 × xI × xJ) := if (((xup ((xup I 30 5 ((I 26 5)))) 30 6 ((((xup I 30 5 ((I 26 5)))) 26 6)))) 30 5) = 0 then f_X8_check_2 ((xup ((xup I 30 5 ((I 26 5)))) 30 6 ((((xup I 30 5 ((I 26 5)))) 26 6)))) J else f_X8_check_9 none ((xup ((xup I 30 5 ((I 26 5)))) 30 6 ((((xup I 30 5 ((I 26 5)))) 26 6)))) J
def f_X8_check_0 (I : xI) (J : xJ) : Option (Int32 × xI × xJ) := (f_X10_scan I J).bind fun o => f_X8_check_1 o.2.1 o.2.2
def f_X8_check (I : xI) (J : xJ) : Option (Int32 × xI × xJ) := f_X8_check_0 I J
theorem p_X8_check_9 {L : Nat} {xs : Nat → Int32} {d : Nat} {Q : xO → Prop} (z1 : Option Value) (I : xI) (J : xJ) {t : Int32 × xI × xJ} (h : f_X8_check_9 z1 I J = some t) (hC : (c_X8_check Q) t) : Rn L xs (d + 7) 106 76 [some (.ref 30), z1] [] 94 (I, J, xrf) Q := by
  unfold f_X8_check_9 at h
  cases h
  exact Rn.ret 3 (o := ((some (.int ((I 30 5)))), 94, (I, J, xrf))) (fun f => rfl) hC
theorem p_X8_check_8 {L : Nat} {xs : Nat → Int32} {d : Nat} {Q : xO → Prop} (x1 : Int32) (s0 : Int32) (s1 : Int32) (I : xI) (J : xJ) {t : (Int32 × xI × xJ) ⊕ (Int32 × xI × xJ)} (h : f_X8_check_8 x1 s0 s1 I J = some t) (hC : (c_X8_check_4 L xs d Q) t) : Rn L xs (d + 7) 106 71 [some (.ref 30), some (.int x1)] [.int s1, .int s0] 94 (I, J, xrf) Q := by
  unfold f_X8_check_8 at h
  refine Rn.go 3 (j' := 106) (pc' := 42) (ls' := [some (.ref 30), some (.int ((s0 + s1)))]) (st' := []) (n' := 94) (M' := (I, J, xrf)) (fun f => rfl) ?_
  cases h; exact hC
theorem p_X8_check_7 {L : Nat} {xs : Nat → Int32} {d : Nat} {Q : xO → Prop} (x1 : Int32) (I : xI) (J : xJ) {t : (Int32 × xI × xJ) ⊕ (Int32 × xI × xJ)} (h : f_X8_check_7 x1 I J = some t) (hC : (c_X8_check_4 L xs d Q) t) : Rn L xs (d + 7) 106 65 [some (.ref 30), some (.int x1)] [] 94 (I, J, xrf) Q := by
  unfold f_X8_check_7 at h
  refine Rn.go 3 (j' := 106) (pc' := 68) (ls' := [some (.ref 30), some (.int x1)]) (st' := [.int x1, .ref 30, .int x1]) (n' := 94) (M' := (I, J, xrf)) (fun f => rfl) ?_
  obtain ⟨o, ho, h⟩ := Option.bind_eq_some_iff.mp h
  refine Rn.call (d1 := d + 6) (j1 := 109) (ls1 := [some (.ref 30), some (.int x1)]) (rest := [.int x1]) (fun f => rfl) ?_
  refine p_X8_lengthOf (d := d + 2) x1 I J (t := o) ho ?_
  exact p_X8_check_8 x1 x1 o.1 o.2.1 o.2.2 h hC
theorem p_X8_check_6 {L : Nat} {xs : Nat → Int32} {d : Nat} {Q : xO → Prop} (x1 : Int32) (I : xI) (J : xJ) {t : (Int32 × xI × xJ) ⊕ (Int32 × xI × xJ)} (h : f_X8_check_6 x1 I J = some t) (hC : (c_X8_check_4 L xs d Q) t) : Rn L xs (d + 7) 106 60 [some (.ref 30), some (.int x1)] [] 94 (I, J, xrf) Q := by
  unfold f_X8_check_6 at h
  refine Rn.go 2 (j' := 106) (pc' := 62) (ls' := [some (.ref 30), some (.int x1)]) (st' := [.int x1, .ref 30]) (n' := 94) (M' := (I, J, xrf)) (fun f => rfl) ?_
  obtain ⟨o, ho, h⟩ := Option.bind_eq_some_iff.mp h
  refine Rn.call (d1 := d + 6) (j1 := 110) (ls1 := [some (.ref 30), some (.int x1)]) (rest := []) (fun f => rfl) ?_
  refine p_X8_checkLine (d := d + 2) x1 I J (t := o) ho ?_
  exact p_X8_check_7 x1 o.2.1 o.2.2 h hC
theorem p_X8_check_5 {L : Nat} {xs : Nat → Int32} {d : Nat} {Q : xO → Prop} (x1 : Int32) (I : xI) (J : xJ) {t : (Int32 × xI × xJ) ⊕ (Int32 × xI × xJ)} (h : f_X8_check_5 x1 I J = some t) (hC : (c_X8_check_4 L xs d Q) t) : Rn L xs (d + 7) 106 53 [some (.ref 30), some (.int x1)] [] 94 (I, J, xrf) Q := by
  unfold f_X8_check_5 at h
  refine Rn.fi 3 (c := (I 30 5) = 0) (p1 := 60) (l1 := [some (.ref 30), some (.int x1)]) (s1 := []) (n1 := 94) (M1 := (I, J, xrf)) (p2 := 76) (l2 := [some (.ref 30), some (.int x1)]) (s2 := []) (n2 := 94) (M2 := (I, J, xrf)) (fun f => rfl) (fun hc => ?_) (fun hc => ?_)
  · rw [if_pos hc] at h
    exact p_X8_check_6 x1 I J h hC
  · rw [if_neg hc] at h
    obtain ⟨t0, h0, rfl⟩ := Option.map_eq_some_iff.mp h
    exact p_X8_check_9 (some (.int x1)) I J h0 hC
theorem q_X8_check_4 {L : Nat} {xs : Nat → Int32} {d : Nat} {Q : xO → Prop} (x1 : Int32) (I : xI) (J : xJ) {t : (Int32 × xI × xJ) ⊕ (Int32 × xI × xJ)} (h : b_X8_check_4 x1 I J = some t) (hC : (c_X8_check_4 L xs d Q) t) : Rn L xs (d + 7) 106 42 [some (.ref 30), some (.int x1)] [] 94 (I, J, xrf) Q := by
  unfold b_X8_check_4 at h
  refine Rn.fi 5 (c := (I 26 4) ≤ x1) (p1 := 76) (l1 := [some (.ref 30), some (.int x1)]) (s1 := []) (n1 := 94) (M1 := (I, J, xrf)) (p2 := 53) (l2 := [some (.ref 30), some (.int x1)]) (s2 := []) (n2 := 94) (M2 := (I, J, xrf)) (fun f => rfl) (fun hc => ?_) (fun hc => ?_)
  · rw [if_pos hc] at h
    obtain ⟨t0, h0, rfl⟩ := Option.map_eq_some_iff.mp h
    exact p_X8_check_9 (some (.int x1)) I J h0 hC
  · rw [if_neg hc] at h
    exact p_X8_check_5 x1 I J h hC
theorem p_X8_check_4 {L : Nat} {xs : Nat → Int32} {d : Nat} {Q : xO → Prop} (x1 : Int32) (I : xI) (J : xJ) {t : Int32 × xI × xJ} (h : f_X8_check_4 x1 I J = some t) (hC : (c_X8_check Q) t) : Rn L xs (d + 7) 106 42 [some (.ref 30), some (.int x1)] [] 94 (I, J, xrf) Q := by
  unfold f_X8_check_4 at h
  exact xloop_some (P := fun s : Int32 × xI × xJ => Rn L xs (d + 7) 106 42 [some (.ref 30), some (.int s.1)] [] 94 (s.2.1, s.2.2, xrf) Q) t (fun s ⟨s', hb, hp⟩ => q_X8_check_4 s.1 s.2.1 s.2.2 hb hp) (fun s hb => q_X8_check_4 s.1 s.2.1 s.2.2 hb hC) _ _ h
theorem p_X8_check_3 {L : Nat} {xs : Nat → Int32} {d : Nat} {Q : xO → Prop} (I : xI) (J : xJ) {t : Int32 × xI × xJ} (h : f_X8_check_3 I J = some t) (hC : (c_X8_check Q) t) : Rn L xs (d + 7) 106 40 [some (.ref 30), none] [] 94 (I, J, xrf) Q := by
  unfold f_X8_check_3 at h
  refine Rn.go 2 (j' := 106) (pc' := 42) (ls' := [some (.ref 30), some (.int 0)]) (st' := []) (n' := 94) (M' := (I, J, xrf)) (fun f => rfl) ?_
  exact p_X8_check_4 0 I J h hC
theorem p_X8_check_2 {L : Nat} {xs : Nat → Int32} {d : Nat} {Q : xO → Prop} (I : xI) (J : xJ) {t : Int32 × xI × xJ} (h : f_X8_check_2 I J = some t) (hC : (c_X8_check Q) t) : Rn L xs (d + 7) 106 36 [some (.ref 30), none] [] 94 (I, J, xrf) Q := by
  unfold f_X8_check_2 at h
  refine Rn.go 1 (j' := 106) (pc' := 37) (ls' := [some (.ref 30), none]) (st' := [.ref 30]) (n' := 94) (M' := (I, J, xrf)) (fun f => rfl) ?_
  obtain ⟨o, ho, h⟩ := Option.bind_eq_some_iff.mp h
  refine Rn.call (d1 := d + 6) (j1 := 107) (ls1 := [some (.ref 30), none, none]) (rest := []) (fun f => rfl) ?_
  refine p_X8_gather (d := d + 1) I J (t := o) ho ?_
  exact p_X8_check_3 o.2.1 o.2.2 h hC
theorem p_X8_check_1 {L : Nat} {xs : Nat → Int32} {d : Nat} {Q : xO → Prop} (I : xI) (J : xJ) {t : Int32 × xI × xJ} (h : f_X8_check_1 I J = some t) (hC : (c_X8_check Q) t) : Rn L xs (d + 7) 106 7 [some (.ref 30), none] [] 94 (I, J, xrf) Q := by
  unfold f_X8_check_1 at h
  refine Rn.fi 13 (c := (((xup ((xup I 30 5 ((I 26 5)))) 30 6 ((((xup I 30 5 ((I 26 5)))) 26 6)))) 30 5) = 0) (p1 := 36) (l1 := [some (.ref 30), none]) (s1 := []) (n1 := 94) (M1 := ((xup ((xup I 30 5 ((I 26 5)))) 30 6 ((((xup I 30 5 ((I 26 5)))) 26 6))), J, xrf)) (p2 := 76) (l2 := [some (.ref 30), none]) (s2 := []) (n2 := 94) (M2 := ((xup ((xup I 30 5 ((I 26 5)))) 30 6 ((((xup I 30 5 ((I 26 5)))) 26 6))), J, xrf)) (fun f => rfl) (fun hc => ?_) (fun hc => ?_)
  · rw [if_pos hc] at h
    exact p_X8_check_2 ((xup ((xup I 30 5 ((I 26 5)))) 30 6 ((((xup I 30 5 ((I 26 5)))) 26 6)))) J h hC
  · rw [if_neg hc] at h
    exact p_X8_check_9 none ((xup ((xup I 30 5 ((I 26 5)))) 30 6 ((((xup I 30 5 ((I 26 5)))) 26 6)))) J h hC
theorem p_X8_check_0 {L : Nat} {xs : Nat → Int32} {d : Nat} {Q : xO → Prop} (I : xI) (J : xJ) {t : Int32 × xI × xJ} (h : f_X8_check_0 I J = some t) (hC : (c_X8_check Q) t) : Rn L xs (d + 7) 106 0 [some (.ref 30), none] [] 94 (I, J, xrf) Q := by
  unfold f_X8_check_0 at h
  refine Rn.go 2 (j' := 106) (pc' := 4) (ls' := [some (.ref 30), none]) (st' := [.ref 26]) (n' := 94) (M' := (I, J, xrf)) (fun f => rfl) ?_
  obtain ⟨o, ho, h⟩ := Option.bind_eq_some_iff.mp h
  refine Rn.call (d1 := d + 6) (j1 := 130) (ls1 := [some (.ref 26), none, none, none, none, none, none]) (rest := []) (fun f => rfl) ?_
  refine p_X10_scan (d := d + 0) I J (t := o) ho ?_
  exact p_X8_check_1 o.2.1 o.2.2 h hC
theorem p_X8_check {L : Nat} {xs : Nat → Int32} {d : Nat} {Q : xO → Prop} (I : xI) (J : xJ) {t : Int32 × xI × xJ} (h : f_X8_check I J = some t) (hC : Q ((some (.int t.1)), 94, (t.2.1, t.2.2, xrf))) : Rn L xs (d + 7) 106 0 [some (.ref 30), none] [] 94 (I, J, xrf) Q := p_X8_check_0 I J h hC
/-! J7_fill_53178_2 -/
def c_J7_fill_53178_2 (Q : xO → Prop) (t : Unit × xI × xJ) : Prop := Q (none, 94, (t.2.1, t.2.2, xrf))
def c_J7_fill_53178_2_1 (L : Nat) (xs : Nat → Int32) (d : Nat) (Q : xO → Prop) (t : (Int32 × Int32 × Int32 × xI × xJ) ⊕ (Unit × xI × xJ)) : Prop := match t with
  | .inl s => Rn L xs (d + 1) 307 5 [some (.ref 2), some (.int s.1), some (.int s.2.1), some (.int s.2.2.1)] [] 94 (s.2.2.2.1, s.2.2.2.2, xrf) Q
  | .inr t => (c_J7_fill_53178_2 Q) t
def f_J7_fill_53178_2_3 (x1 : Int32) (x2 : Int32) (x3 : Int32) (I : xI) (J : xJ) : Option (Unit × xI × xJ) := some ((), I, J)
def f_J7_fill_53178_2_2 (x1 : Int32) (x2 : Int32) (x3 : Int32) (I : xI) (J : xJ) : Option ((Int32 × Int32 × Int32 × xI × xJ) ⊕ (Unit × xI × xJ)) := if x2 < 0 ∨ 24 ≤ x2.toNatClampNeg then none else some (.inl (x1, ((x2 + 1)), x3, ((xup I 2 x2.toNatClampNeg x1)), J))
def b_J7_fill_53178_2_1 (x1 : Int32) (x2 : Int32) (x3 : Int32) (I : xI) (J : xJ) : Option ((Int32 × Int32 × Int32 × xI × xJ) ⊕ (Unit × xI × xJ)) := if x3 ≤ x2 then ((f_J7_fill_53178_2_3 x1 x2 x3 I J)).map .inr else f_J7_fill_53178_2_2 x1 x2 x3 I J
def f_J7_fill_53178_2_1 (x1 : Int32) (x2 : Int32) (x3 : Int32) (I : xI) (J : xJ) : Option (Unit × xI × xJ) := xloop (fun s : Int32 × Int32 × Int32 × xI × xJ => b_J7_fill_53178_2_1 s.1 s.2.1 s.2.2.1 s.2.2.2.1 s.2.2.2.2) 5000 (x1, x2, x3, I, J)
def f_J7_fill_53178_2_0 (x1 : Int32) (I : xI) (J : xJ) : Option (Unit × xI × xJ) := f_J7_fill_53178_2_1 x1 0 24 I J
def f_J7_fill_53178_2 (x1 : Int32) (I : xI) (J : xJ) : Option (Unit × xI × xJ) := f_J7_fill_53178_2_0 x1 I J
theorem p_J7_fill_53178_2_3 {L : Nat} {xs : Nat → Int32} {d : Nat} {Q : xO → Prop} (x1 : Int32) (x2 : Int32) (x3 : Int32) (I : xI) (J : xJ) {t : Unit × xI × xJ} (h : f_J7_fill_53178_2_3 x1 x2 x3 I J = some t) (hC : (c_J7_fill_53178_2 Q) t) : Rn L xs (d + 1) 307 20 [some (.ref 2), some (.int x1), some (.int x2), some (.int x3)] [] 94 (I, J, xrf) Q := by
  unfold f_J7_fill_53178_2_3 at h
  cases h
  exact Rn.ret 1 (o := (none, 94, (I, J, xrf))) (fun f => rfl) hC
theorem p_J7_fill_53178_2_2 {L : Nat} {xs : Nat → Int32} {d : Nat} {Q : xO → Prop} (x1 : Int32) (x2 : Int32) (x3 : Int32) (I : xI) (J : xJ) {t : (Int32 × Int32 × Int32 × xI × xJ) ⊕ (Unit × xI × xJ)} (h : f_J7_fill_53178_2_2 x1 x2 x3 I J = some t) (hC : (c_J7_fill_53178_2_1 L xs d Q) t) : Rn L xs (d + 1) 307 10 [some (.ref 2), some (.int x1), some (.int x2), some (.int x3)] [] 94 (I, J, xrf) Q := by
  unfold f_J7_fill_53178_2_2 at h
  obtain ⟨hc, h⟩ := xif h
  refine Rn.ok 4 (c := x2 < 0 ∨ 24 ≤ x2.toNatClampNeg) (p1 := 14) (l1 := [some (.ref 2), some (.int x1), some (.int x2), some (.int x3)]) (s1 := []) (n1 := 94) (M1 := ((xup I 2 x2.toNatClampNeg x1), J, xrf)) (fun f => rfl) hc ?_
  refine Rn.go 2 (j' := 307) (pc' := 5) (ls' := [some (.ref 2), some (.int x1), some (.int ((x2 + 1))), some (.int x3)]) (st' := []) (n' := 94) (M' := ((xup I 2 x2.toNatClampNeg x1), J, xrf)) (fun f => rfl) ?_
  cases h; exact hC
theorem q_J7_fill_53178_2_1 {L : Nat} {xs : Nat → Int32} {d : Nat} {Q : xO → Prop} (x1 : Int32) (x2 : Int32) (x3 : Int32) (I : xI) (J : xJ) {t : (Int32 × Int32 × Int32 × xI × xJ) ⊕ (Unit × xI × xJ)} (h : b_J7_fill_53178_2_1 x1 x2 x3 I J = some t) (hC : (c_J7_fill_53178_2_1 L xs d Q) t) : Rn L xs (d + 1) 307 5 [some (.ref 2), some (.int x1), some (.int x2), some (.int x3)] [] 94 (I, J, xrf) Q := by
  unfold b_J7_fill_53178_2_1 at h
  refine Rn.fi 3 (c := x3 ≤ x2) (p1 := 20) (l1 := [some (.ref 2), some (.int x1), some (.int x2), some (.int x3)]) (s1 := []) (n1 := 94) (M1 := (I, J, xrf)) (p2 := 10) (l2 := [some (.ref 2), some (.int x1), some (.int x2), some (.int x3)]) (s2 := []) (n2 := 94) (M2 := (I, J, xrf)) (fun f => rfl) (fun hc => ?_) (fun hc => ?_)
  · rw [if_pos hc] at h
    obtain ⟨t0, h0, rfl⟩ := Option.map_eq_some_iff.mp h
    exact p_J7_fill_53178_2_3 x1 x2 x3 I J h0 hC
  · rw [if_neg hc] at h
    exact p_J7_fill_53178_2_2 x1 x2 x3 I J h hC
theorem p_J7_fill_53178_2_1 {L : Nat} {xs : Nat → Int32} {d : Nat} {Q : xO → Prop} (x1 : Int32) (x2 : Int32) (x3 : Int32) (I : xI) (J : xJ) {t : Unit × xI × xJ} (h : f_J7_fill_53178_2_1 x1 x2 x3 I J = some t) (hC : (c_J7_fill_53178_2 Q) t) : Rn L xs (d + 1) 307 5 [some (.ref 2), some (.int x1), some (.int x2), some (.int x3)] [] 94 (I, J, xrf) Q := by
  unfold f_J7_fill_53178_2_1 at h
  exact xloop_some (P := fun s : Int32 × Int32 × Int32 × xI × xJ => Rn L xs (d + 1) 307 5 [some (.ref 2), some (.int s.1), some (.int s.2.1), some (.int s.2.2.1)] [] 94 (s.2.2.2.1, s.2.2.2.2, xrf) Q) t (fun s ⟨s', hb, hp⟩ => q_J7_fill_53178_2_1 s.1 s.2.1 s.2.2.1 s.2.2.2.1 s.2.2.2.2 hb hp) (fun s hb => q_J7_fill_53178_2_1 s.1 s.2.1 s.2.2.1 s.2.2.2.1 s.2.2.2.2 hb hC) _ _ h
theorem p_J7_fill_53178_2_0 {L : Nat} {xs : Nat → Int32} {d : Nat} {Q : xO → Prop} (x1 : Int32) (I : xI) (J : xJ) {t : Unit × xI × xJ} (h : f_J7_fill_53178_2_0 x1 I J = some t) (hC : (c_J7_fill_53178_2 Q) t) : Rn L xs (d + 1) 307 0 [some (.ref 2), some (.int x1), none, none] [] 94 (I, J, xrf) Q := by
  unfold f_J7_fill_53178_2_0 at h
  refine Rn.go 5 (j' := 307) (pc' := 5) (ls' := [some (.ref 2), some (.int x1), some (.int 0), some (.int 24)]) (st' := []) (n' := 94) (M' := (I, J, xrf)) (fun f => rfl) ?_
  exact p_J7_fill_53178_2_1 x1 0 24 I J h hC
theorem p_J7_fill_53178_2 {L : Nat} {xs : Nat → Int32} {d : Nat} {Q : xO → Prop} (x1 : Int32) (I : xI) (J : xJ) {t : Unit × xI × xJ} (h : f_J7_fill_53178_2 x1 I J = some t) (hC : Q (none, 94, (t.2.1, t.2.2, xrf))) : Rn L xs (d + 1) 307 0 [some (.ref 2), some (.int x1), none, none] [] 94 (I, J, xrf) Q := p_J7_fill_53178_2_0 x1 I J h hC
/-! J7_fill_53178_3 -/
def c_J7_fill_53178_3 (Q : xO → Prop) (t : Unit × xI × xJ) : Prop := Q (none, 94, (t.2.1, t.2.2, xrf))
def c_J7_fill_53178_3_1 (L : Nat) (xs : Nat → Int32) (d : Nat) (Q : xO → Prop) (t : (Int32 × Int32 × Int32 × xI × xJ) ⊕ (Unit × xI × xJ)) : Prop := match t with
  | .inl s => Rn L xs (d + 1) 307 5 [some (.ref 3), some (.int s.1), some (.int s.2.1), some (.int s.2.2.1)] [] 94 (s.2.2.2.1, s.2.2.2.2, xrf) Q
  | .inr t => (c_J7_fill_53178_3 Q) t
def f_J7_fill_53178_3_3 (x1 : Int32) (x2 : Int32) (x3 : Int32) (I : xI) (J : xJ) : Option (Unit × xI × xJ) := some ((), I, J)
def f_J7_fill_53178_3_2 (x1 : Int32) (x2 : Int32) (x3 : Int32) (I : xI) (J : xJ) : Option ((Int32 × Int32 × Int32 × xI × xJ) ⊕ (Unit × xI × xJ)) := if x2 < 0 ∨ 24 ≤ x2.toNatClampNeg then none else some (.inl (x1, ((x2 + 1)), x3, ((xup I 3 x2.toNatClampNeg x1)), J))
def b_J7_fill_53178_3_1 (x1 : Int32) (x2 : Int32) (x3 : Int32) (I : xI) (J : xJ) : Option ((Int32 × Int32 × Int32 × xI × xJ) ⊕ (Unit × xI × xJ)) := if x3 ≤ x2 then ((f_J7_fill_53178_3_3 x1 x2 x3 I J)).map .inr else f_J7_fill_53178_3_2 x1 x2 x3 I J
def f_J7_fill_53178_3_1 (x1 : Int32) (x2 : Int32) (x3 : Int32) (I : xI) (J : xJ) : Option (Unit × xI × xJ) := xloop (fun s : Int32 × Int32 × Int32 × xI × xJ => b_J7_fill_53178_3_1 s.1 s.2.1 s.2.2.1 s.2.2.2.1 s.2.2.2.2) 5000 (x1, x2, x3, I, J)
def f_J7_fill_53178_3_0 (x1 : Int32) (I : xI) (J : xJ) : Option (Unit × xI × xJ) := f_J7_fill_53178_3_1 x1 0 24 I J
def f_J7_fill_53178_3 (x1 : Int32) (I : xI) (J : xJ) : Option (Unit × xI × xJ) := f_J7_fill_53178_3_0 x1 I J
theorem p_J7_fill_53178_3_3 {L : Nat} {xs : Nat → Int32} {d : Nat} {Q : xO → Prop} (x1 : Int32) (x2 : Int32) (x3 : Int32) (I : xI) (J : xJ) {t : Unit × xI × xJ} (h : f_J7_fill_53178_3_3 x1 x2 x3 I J = some t) (hC : (c_J7_fill_53178_3 Q) t) : Rn L xs (d + 1) 307 20 [some (.ref 3), some (.int x1), some (.int x2), some (.int x3)] [] 94 (I, J, xrf) Q := by
  unfold f_J7_fill_53178_3_3 at h
  cases h
  exact Rn.ret 1 (o := (none, 94, (I, J, xrf))) (fun f => rfl) hC
theorem p_J7_fill_53178_3_2 {L : Nat} {xs : Nat → Int32} {d : Nat} {Q : xO → Prop} (x1 : Int32) (x2 : Int32) (x3 : Int32) (I : xI) (J : xJ) {t : (Int32 × Int32 × Int32 × xI × xJ) ⊕ (Unit × xI × xJ)} (h : f_J7_fill_53178_3_2 x1 x2 x3 I J = some t) (hC : (c_J7_fill_53178_3_1 L xs d Q) t) : Rn L xs (d + 1) 307 10 [some (.ref 3), some (.int x1), some (.int x2), some (.int x3)] [] 94 (I, J, xrf) Q := by
  unfold f_J7_fill_53178_3_2 at h
  obtain ⟨hc, h⟩ := xif h
  refine Rn.ok 4 (c := x2 < 0 ∨ 24 ≤ x2.toNatClampNeg) (p1 := 14) (l1 := [some (.ref 3), some (.int x1), some (.int x2), some (.int x3)]) (s1 := []) (n1 := 94) (M1 := ((xup I 3 x2.toNatClampNeg x1), J, xrf)) (fun f => rfl) hc ?_
  refine Rn.go 2 (j' := 307) (pc' := 5) (ls' := [some (.ref 3), some (.int x1), some (.int ((x2 + 1))), some (.int x3)]) (st' := []) (n' := 94) (M' := ((xup I 3 x2.toNatClampNeg x1), J, xrf)) (fun f => rfl) ?_
  cases h; exact hC
theorem q_J7_fill_53178_3_1 {L : Nat} {xs : Nat → Int32} {d : Nat} {Q : xO → Prop} (x1 : Int32) (x2 : Int32) (x3 : Int32) (I : xI) (J : xJ) {t : (Int32 × Int32 × Int32 × xI × xJ) ⊕ (Unit × xI × xJ)} (h : b_J7_fill_53178_3_1 x1 x2 x3 I J = some t) (hC : (c_J7_fill_53178_3_1 L xs d Q) t) : Rn L xs (d + 1) 307 5 [some (.ref 3), some (.int x1), some (.int x2), some (.int x3)] [] 94 (I, J, xrf) Q := by
  unfold b_J7_fill_53178_3_1 at h
  refine Rn.fi 3 (c := x3 ≤ x2) (p1 := 20) (l1 := [some (.ref 3), some (.int x1), some (.int x2), some (.int x3)]) (s1 := []) (n1 := 94) (M1 := (I, J, xrf)) (p2 := 10) (l2 := [some (.ref 3), some (.int x1), some (.int x2), some (.int x3)]) (s2 := []) (n2 := 94) (M2 := (I, J, xrf)) (fun f => rfl) (fun hc => ?_) (fun hc => ?_)
  · rw [if_pos hc] at h
    obtain ⟨t0, h0, rfl⟩ := Option.map_eq_some_iff.mp h
    exact p_J7_fill_53178_3_3 x1 x2 x3 I J h0 hC
  · rw [if_neg hc] at h
    exact p_J7_fill_53178_3_2 x1 x2 x3 I J h hC
theorem p_J7_fill_53178_3_1 {L : Nat} {xs : Nat → Int32} {d : Nat} {Q : xO → Prop} (x1 : Int32) (x2 : Int32) (x3 : Int32) (I : xI) (J : xJ) {t : Unit × xI × xJ} (h : f_J7_fill_53178_3_1 x1 x2 x3 I J = some t) (hC : (c_J7_fill_53178_3 Q) t) : Rn L xs (d + 1) 307 5 [some (.ref 3), some (.int x1), some (.int x2), some (.int x3)] [] 94 (I, J, xrf) Q := by
  unfold f_J7_fill_53178_3_1 at h
  exact xloop_some (P := fun s : Int32 × Int32 × Int32 × xI × xJ => Rn L xs (d + 1) 307 5 [some (.ref 3), some (.int s.1), some (.int s.2.1), some (.int s.2.2.1)] [] 94 (s.2.2.2.1, s.2.2.2.2, xrf) Q) t (fun s ⟨s', hb, hp⟩ => q_J7_fill_53178_3_1 s.1 s.2.1 s.2.2.1 s.2.2.2.1 s.2.2.2.2 hb hp) (fun s hb => q_J7_fill_53178_3_1 s.1 s.2.1 s.2.2.1 s.2.2.2.1 s.2.2.2.2 hb hC) _ _ h
theorem p_J7_fill_53178_3_0 {L : Nat} {xs : Nat → Int32} {d : Nat} {Q : xO → Prop} (x1 : Int32) (I : xI) (J : xJ) {t : Unit × xI × xJ} (h : f_J7_fill_53178_3_0 x1 I J = some t) (hC : (c_J7_fill_53178_3 Q) t) : Rn L xs (d + 1) 307 0 [some (.ref 3), some (.int x1), none, none] [] 94 (I, J, xrf) Q := by
  unfold f_J7_fill_53178_3_0 at h
  refine Rn.go 5 (j' := 307) (pc' := 5) (ls' := [some (.ref 3), some (.int x1), some (.int 0), some (.int 24)]) (st' := []) (n' := 94) (M' := (I, J, xrf)) (fun f => rfl) ?_
  exact p_J7_fill_53178_3_1 x1 0 24 I J h hC
theorem p_J7_fill_53178_3 {L : Nat} {xs : Nat → Int32} {d : Nat} {Q : xO → Prop} (x1 : Int32) (I : xI) (J : xJ) {t : Unit × xI × xJ} (h : f_J7_fill_53178_3 x1 I J = some t) (hC : Q (none, 94, (t.2.1, t.2.2, xrf))) : Rn L xs (d + 1) 307 0 [some (.ref 3), some (.int x1), none, none] [] 94 (I, J, xrf) Q := p_J7_fill_53178_3_0 x1 I J h hC
/-! X5_begin -/
def c_X5_begin (Q : xO → Prop) (t : Unit × xI × xJ) : Prop := Q (none, 94, (t.2.1, t.2.2, xrf))
def c_X5_begin_3 (L : Nat) (xs : Nat → Int32) (d : Nat) (Q : xO → Prop) (t : (Int32 × Int32 × Int32 × xI × xJ) ⊕ (Unit × xI × xJ)) : Prop := match t with
  | .inl s => Rn L xs (d + 2) 49 30 [some (.ref 1), some (.int s.1), some (.int s.2.1), some (.int s.2.2.1)] [] 94 (s.2.2.2.1, s.2.2.2.2, xrf) Q
  | .inr t => (c_X5_begin Q) t
def f_X5_begin_5 (x1 : Int32) (x2 : Int32) (x3 : Int32) (I : xI) (J : xJ) : Option (Unit × xI × xJ) := some ((), (xup I 1 2 (((I 1 2) + 1))), J)
def f_X5_begin_4 (x1 : Int32) (x2 : Int32) (x3 : Int32) (I : xI) (J : xJ) : Option ((Int32 × Int32 × Int32 × xI × xJ) ⊕ (Unit × xI × xJ)) := if x3 < 0 ∨ 6 ≤ x3.toNatClampNeg then none else some (.inl (x1, x2, ((x3 + 1)), ((xup I 4 x3.toNatClampNeg x3)), J))
def b_X5_begin_3 (x1 : Int32) (x2 : Int32) (x3 : Int32) (I : xI) (J : xJ) : Option ((Int32 × Int32 × Int32 × xI × xJ) ⊕ (Unit × xI × xJ)) := if 6 ≤ x3 then ((f_X5_begin_5 x1 x2 x3 I J)).map .inr else f_X5_begin_4 x1 x2 x3 I J
def f_X5_begin_3 (x1 : Int32) (x2 : Int32) (x3 : Int32) (I : xI) (J : xJ) : Option (Unit × xI × xJ) := xloop (fun s : Int32 × Int32 × Int32 × xI × xJ => b_X5_begin_3 s.1 s.2.1 s.2.2.1 s.2.2.2.1 s.2.2.2.2) 5000 (x1, x2, x3, I, J)
def f_X5_begin_2 (x1 : Int32) (x2 : Int32) (I : xI) (J : xJ) : Option (Unit × xI × xJ) := f_X5_begin_3 x1 x2 0 I J
def f_X5_begin_1 (x1 : Int32) (x2 : Int32) (I : xI) (J : xJ) : Option (Unit × xI × xJ) := (f_J7_fill_53178_3 ((-2)) I J).bind fun o => f_X5_begin_2 x1 x2 o.2.1 o.2.2
def f_X5_begin_0 (x1 : Int32) (x2 : Int32) (I : xI) (J : xJ) : Option (Unit × xI × xJ) := (f_J7_fill_53178_2 ((-2)) ((xup ((xup I 1 0 x1)) 1 1 x2)) J).bind fun o => f_X5_begin_1 x1 x2 o.2.1 o.2.2
def f_X5_begin (x1 : Int32) (x2 : Int32) (I : xI) (J : xJ) : Option (Unit × xI × xJ) := f_X5_begin_0 x1 x2 I J
theorem p_X5_begin_5 {L : Nat} {xs : Nat → Int32} {d : Nat} {Q : xO → Prop} (x1 : Int32) (x2 : Int32) (x3 : Int32) (I : xI) (J : xJ) {t : Unit × xI × xJ} (h : f_X5_begin_5 x1 x2 x3 I J = some t) (hC : (c_X5_begin Q) t) : Rn L xs (d + 2) 49 49 [some (.ref 1), some (.int x1), some (.int x2), some (.int x3)] [] 94 (I, J, xrf) Q := by
  unfold f_X5_begin_5 at h
  cases h
  exact Rn.ret 7 (o := (none, 94, ((xup I 1 2 (((I 1 2) + 1))), J, xrf))) (fun f => rfl) hC
theorem p_X5_begin_4 {L : Nat} {xs : Nat → Int32} {d : Nat} {Q : xO → Prop} (x1 : Int32) (x2 : Int32) (x3 : Int32) (I : xI) (J : xJ) {t : (Int32 × Int32 × Int32 × xI × xJ) ⊕ (Unit × xI × xJ)} (h : f_X5_begin_4 x1 x2 x3 I J = some t) (hC : (c_X5_begin_3 L xs d Q) t) : Rn L xs (d + 2) 49 36 [some (.ref 1), some (.int x1), some (.int x2), some (.int x3)] [] 94 (I, J, xrf) Q := by
  unfold f_X5_begin_4 at h
  obtain ⟨hc, h⟩ := xif h
  refine Rn.ok 5 (c := x3 < 0 ∨ 6 ≤ x3.toNatClampNeg) (p1 := 43) (l1 := [some (.ref 1), some (.int x1), some (.int x2), some (.int x3)]) (s1 := []) (n1 := 94) (M1 := ((xup I 4 x3.toNatClampNeg x3), J, xrf)) (fun f => rfl) hc ?_
  refine Rn.go 2 (j' := 49) (pc' := 30) (ls' := [some (.ref 1), some (.int x1), some (.int x2), some (.int ((x3 + 1)))]) (st' := []) (n' := 94) (M' := ((xup I 4 x3.toNatClampNeg x3), J, xrf)) (fun f => rfl) ?_
  cases h; exact hC
theorem q_X5_begin_3 {L : Nat} {xs : Nat → Int32} {d : Nat} {Q : xO → Prop} (x1 : Int32) (x2 : Int32) (x3 : Int32) (I : xI) (J : xJ) {t : (Int32 × Int32 × Int32 × xI × xJ) ⊕ (Unit × xI × xJ)} (h : b_X5_begin_3 x1 x2 x3 I J = some t) (hC : (c_X5_begin_3 L xs d Q) t) : Rn L xs (d + 2) 49 30 [some (.ref 1), some (.int x1), some (.int x2), some (.int x3)] [] 94 (I, J, xrf) Q := by
  unfold b_X5_begin_3 at h
  refine Rn.fi 3 (c := 6 ≤ x3) (p1 := 49) (l1 := [some (.ref 1), some (.int x1), some (.int x2), some (.int x3)]) (s1 := []) (n1 := 94) (M1 := (I, J, xrf)) (p2 := 36) (l2 := [some (.ref 1), some (.int x1), some (.int x2), some (.int x3)]) (s2 := []) (n2 := 94) (M2 := (I, J, xrf)) (fun f => rfl) (fun hc => ?_) (fun hc => ?_)
  · rw [if_pos hc] at h
    obtain ⟨t0, h0, rfl⟩ := Option.map_eq_some_iff.mp h
    exact p_X5_begin_5 x1 x2 x3 I J h0 hC
  · rw [if_neg hc] at h
    exact p_X5_begin_4 x1 x2 x3 I J h hC
theorem p_X5_begin_3 {L : Nat} {xs : Nat → Int32} {d : Nat} {Q : xO → Prop} (x1 : Int32) (x2 : Int32) (x3 : Int32) (I : xI) (J : xJ) {t : Unit × xI × xJ} (h : f_X5_begin_3 x1 x2 x3 I J = some t) (hC : (c_X5_begin Q) t) : Rn L xs (d + 2) 49 30 [some (.ref 1), some (.int x1), some (.int x2), some (.int x3)] [] 94 (I, J, xrf) Q := by
  unfold f_X5_begin_3 at h
  exact xloop_some (P := fun s : Int32 × Int32 × Int32 × xI × xJ => Rn L xs (d + 2) 49 30 [some (.ref 1), some (.int s.1), some (.int s.2.1), some (.int s.2.2.1)] [] 94 (s.2.2.2.1, s.2.2.2.2, xrf) Q) t (fun s ⟨s', hb, hp⟩ => q_X5_begin_3 s.1 s.2.1 s.2.2.1 s.2.2.2.1 s.2.2.2.2 hb hp) (fun s hb => q_X5_begin_3 s.1 s.2.1 s.2.2.1 s.2.2.2.1 s.2.2.2.2 hb hC) _ _ h
theorem p_X5_begin_2 {L : Nat} {xs : Nat → Int32} {d : Nat} {Q : xO → Prop} (x1 : Int32) (x2 : Int32) (I : xI) (J : xJ) {t : Unit × xI × xJ} (h : f_X5_begin_2 x1 x2 I J = some t) (hC : (c_X5_begin Q) t) : Rn L xs (d + 2) 49 28 [some (.ref 1), some (.int x1), some (.int x2), none] [] 94 (I, J, xrf) Q := by
  unfold f_X5_begin_2 at h
  refine Rn.go 2 (j' := 49) (pc' := 30) (ls' := [some (.ref 1), some (.int x1), some (.int x2), some (.int 0)]) (st' := []) (n' := 94) (M' := (I, J, xrf)) (fun f => rfl) ?_
  exact p_X5_begin_3 x1 x2 0 I J h hC
theorem p_X5_begin_1 {L : Nat} {xs : Nat → Int32} {d : Nat} {Q : xO → Prop} (x1 : Int32) (x2 : Int32) (I : xI) (J : xJ) {t : Unit × xI × xJ} (h : f_X5_begin_1 x1 x2 I J = some t) (hC : (c_X5_begin Q) t) : Rn L xs (d + 2) 49 19 [some (.ref 1), some (.int x1), some (.int x2), none] [] 94 (I, J, xrf) Q := by
  unfold f_X5_begin_1 at h
  refine Rn.go 3 (j' := 49) (pc' := 25) (ls' := [some (.ref 1), some (.int x1), some (.int x2), none]) (st' := [.int ((-2)), .ref 3]) (n' := 94) (M' := (I, J, xrf)) (fun f => rfl) ?_
  obtain ⟨o, ho, h⟩ := Option.bind_eq_some_iff.mp h
  refine Rn.call (d1 := d + 1) (j1 := 307) (ls1 := [some (.ref 3), some (.int ((-2))), none, none]) (rest := []) (fun f => rfl) ?_
  refine p_J7_fill_53178_3 (d := d + 0) ((-2)) I J (t := o) ho ?_
  exact p_X5_begin_2 x1 x2 o.2.1 o.2.2 h hC
theorem p_X5_begin_0 {L : Nat} {xs : Nat → Int32} {d : Nat} {Q : xO → Prop} (x1 : Int32) (x2 : Int32) (I : xI) (J : xJ) {t : Unit × xI × xJ} (h : f_X5_begin_0 x1 x2 I J = some t) (hC : (c_X5_begin Q) t) : Rn L xs (d + 2) 49 0 [some (.ref 1), some (.int x1), some (.int x2), none] [] 94 (I, J, xrf) Q := by
  unfold f_X5_begin_0 at h
  refine Rn.go 9 (j' := 49) (pc' := 16) (ls' := [some (.ref 1), some (.int x1), some (.int x2), none]) (st' := [.int ((-2)), .ref 2]) (n' := 94) (M' := ((xup ((xup I 1 0 x1)) 1 1 x2), J, xrf)) (fun f => rfl) ?_
  obtain ⟨o, ho, h⟩ := Option.bind_eq_some_iff.mp h
  refine Rn.call (d1 := d + 1) (j1 := 307) (ls1 := [some (.ref 2), some (.int ((-2))), none, none]) (rest := []) (fun f => rfl) ?_
  refine p_J7_fill_53178_2 (d := d + 0) ((-2)) ((xup ((xup I 1 0 x1)) 1 1 x2)) J (t := o) ho ?_
  exact p_X5_begin_1 x1 x2 o.2.1 o.2.2 h hC
theorem p_X5_begin {L : Nat} {xs : Nat → Int32} {d : Nat} {Q : xO → Prop} (x1 : Int32) (x2 : Int32) (I : xI) (J : xJ) {t : Unit × xI × xJ} (h : f_X5_begin x1 x2 I J = some t) (hC : Q (none, 94, (t.2.1, t.2.2, xrf))) : Rn L xs (d + 2) 49 0 [some (.ref 1), some (.int x1), some (.int x2), none] [] 94 (I, J, xrf) Q := p_X5_begin_0 x1 x2 I J h hC
/-! X5_hasState -/
def c_X5_hasState (Q : xO → Prop) (t : Int32 × xI × xJ) : Prop := Q ((some (.int t.1)), 94, (t.2.1, t.2.2, xrf))
def f_X5_hasState_4 (x1 : Int32) (s0 : Int32) (I : xI) (J : xJ) : Option (Int32 × xI × xJ) := if s0 = 0 ∨ s0 = 1 then some (s0, I, J) else none
def f_X5_hasState_3 (x1 : Int32) (I : xI) (J : xJ) : Option (Int32 × xI × xJ) := f_X5_hasState_4 x1 0 I J
def f_X5_hasState_2 (x1 : Int32) (I : xI) (J : xJ) : Option (Int32 × xI × xJ) := f_X5_hasState_4 x1 1 I J
def f_X5_hasState_1 (x1 : Int32) (I : xI) (J : xJ) : Option (Int32 × xI × xJ) := if (I 1 0) ≤ x1 then f_X5_hasState_3 x1 I J else f_X5_hasState_2 x1 I J
def f_X5_hasState_0 (x1 : Int32) (I : xI) (J : xJ) : Option (Int32 × xI × xJ) := if x1 < 0 then f_X5_hasState_3 x1 I J else f_X5_hasState_1 x1 I J
def f_X5_hasState (x1 : Int32) (I : xI) (J : xJ) : Option (Int32 × xI × xJ) := f_X5_hasState_0 x1 I J
theorem p_X5_hasState_4 {L : Nat} {xs : Nat → Int32} {d : Nat} {Q : xO → Prop} (x1 : Int32) (s0 : Int32) (I : xI) (J : xJ) {t : Int32 × xI × xJ} (h : f_X5_hasState_4 x1 s0 I J = some t) (hC : (c_X5_hasState Q) t) : Rn L xs (d + 1) 51 17 [some (.ref 1), some (.int x1)] [.int s0] 94 (I, J, xrf) Q := by
  unfold f_X5_hasState_4 at h
  obtain ⟨hc, h⟩ := xifT h
  cases h
  exact Rn.retT 1 (c := s0 = 0 ∨ s0 = 1) (o := ((some (.int s0)), 94, (I, J, xrf))) (fun f => rfl) hc hC
theorem p_X5_hasState_3 {L : Nat} {xs : Nat → Int32} {d : Nat} {Q : xO → Prop} (x1 : Int32) (I : xI) (J : xJ) {t : Int32 × xI × xJ} (h : f_X5_hasState_3 x1 I J = some t) (hC : (c_X5_hasState Q) t) : Rn L xs (d + 1) 51 16 [some (.ref 1), some (.int x1)] [] 94 (I, J, xrf) Q := by
  unfold f_X5_hasState_3 at h
  refine Rn.go 1 (j' := 51) (pc' := 17) (ls' := [some (.ref 1), some (.int x1)]) (st' := [.int 0]) (n' := 94) (M' := (I, J, xrf)) (fun f => rfl) ?_
  exact p_X5_hasState_4 x1 0 I J h hC
theorem p_X5_hasState_2 {L : Nat} {xs : Nat → Int32} {d : Nat} {Q : xO → Prop} (x1 : Int32) (I : xI) (J : xJ) {t : Int32 × xI × xJ} (h : f_X5_hasState_2 x1 I J = some t) (hC : (c_X5_hasState Q) t) : Rn L xs (d + 1) 51 12 [some (.ref 1), some (.int x1)] [] 94 (I, J, xrf) Q := by
  unfold f_X5_hasState_2 at h
  refine Rn.go 2 (j' := 51) (pc' := 17) (ls' := [some (.ref 1), some (.int x1)]) (st' := [.int 1]) (n' := 94) (M' := (I, J, xrf)) (fun f => rfl) ?_
  exact p_X5_hasState_4 x1 1 I J h hC
theorem p_X5_hasState_1 {L : Nat} {xs : Nat → Int32} {d : Nat} {Q : xO → Prop} (x1 : Int32) (I : xI) (J : xJ) {t : Int32 × xI × xJ} (h : f_X5_hasState_1 x1 I J = some t) (hC : (c_X5_hasState Q) t) : Rn L xs (d + 1) 51 4 [some (.ref 1), some (.int x1)] [] 94 (I, J, xrf) Q := by
  unfold f_X5_hasState_1 at h
  refine Rn.fi 4 (c := (I 1 0) ≤ x1) (p1 := 16) (l1 := [some (.ref 1), some (.int x1)]) (s1 := []) (n1 := 94) (M1 := (I, J, xrf)) (p2 := 12) (l2 := [some (.ref 1), some (.int x1)]) (s2 := []) (n2 := 94) (M2 := (I, J, xrf)) (fun f => rfl) (fun hc => ?_) (fun hc => ?_)
  · rw [if_pos hc] at h
    exact p_X5_hasState_3 x1 I J h hC
  · rw [if_neg hc] at h
    exact p_X5_hasState_2 x1 I J h hC
theorem p_X5_hasState_0 {L : Nat} {xs : Nat → Int32} {d : Nat} {Q : xO → Prop} (x1 : Int32) (I : xI) (J : xJ) {t : Int32 × xI × xJ} (h : f_X5_hasState_0 x1 I J = some t) (hC : (c_X5_hasState Q) t) : Rn L xs (d + 1) 51 0 [some (.ref 1), some (.int x1)] [] 94 (I, J, xrf) Q := by
  unfold f_X5_hasState_0 at h
  refine Rn.fi 2 (c := x1 < 0) (p1 := 16) (l1 := [some (.ref 1), some (.int x1)]) (s1 := []) (n1 := 94) (M1 := (I, J, xrf)) (p2 := 4) (l2 := [some (.ref 1), some (.int x1)]) (s2 := []) (n2 := 94) (M2 := (I, J, xrf)) (fun f => rfl) (fun hc => ?_) (fun hc => ?_)
  · rw [if_pos hc] at h
    exact p_X5_hasState_3 x1 I J h hC
  · rw [if_neg hc] at h
    exact p_X5_hasState_1 x1 I J h hC
theorem p_X5_hasState {L : Nat} {xs : Nat → Int32} {d : Nat} {Q : xO → Prop} (x1 : Int32) (I : xI) (J : xJ) {t : Int32 × xI × xJ} (h : f_X5_hasState x1 I J = some t) (hC : Q ((some (.int t.1)), 94, (t.2.1, t.2.2, xrf))) : Rn L xs (d + 1) 51 0 [some (.ref 1), some (.int x1)] [] 94 (I, J, xrf) Q := p_X5_hasState_0 x1 I J h hC
/-! X5_hasInput -/
def c_X5_hasInput (Q : xO → Prop) (t : Int32 × xI × xJ) : Prop := Q ((some (.int t.1)), 94, (t.2.1, t.2.2, xrf))
def f_X5_hasInput_4 (x1 : Int32) (s0 : Int32) (I : xI) (J : xJ) : Option (Int32 × xI × xJ) := if s0 = 0 ∨ s0 = 1 then some (s0, I, J) else none
def f_X5_hasInput_3 (x1 : Int32) (I : xI) (J : xJ) : Option (Int32 × xI × xJ) := f_X5_hasInput_4 x1 0 I J
def f_X5_hasInput_2 (x1 : Int32) (I : xI) (J : xJ) : Option (Int32 × xI × xJ) := f_X5_hasInput_4 x1 1 I J
def f_X5_hasInput_1 (x1 : Int32) (I : xI) (J : xJ) : Option (Int32 × xI × xJ) := if (I 1 1) ≤ x1 then f_X5_hasInput_3 x1 I J else f_X5_hasInput_2 x1 I J
def f_X5_hasInput_0 (x1 : Int32) (I : xI) (J : xJ) : Option (Int32 × xI × xJ) := if x1 < 0 then f_X5_hasInput_3 x1 I J else f_X5_hasInput_1 x1 I J
def f_X5_hasInput (x1 : Int32) (I : xI) (J : xJ) : Option (Int32 × xI × xJ) := f_X5_hasInput_0 x1 I J
theorem p_X5_hasInput_4 {L : Nat} {xs : Nat → Int32} {d : Nat} {Q : xO → Prop} (x1 : Int32) (s0 : Int32) (I : xI) (J : xJ) {t : Int32 × xI × xJ} (h : f_X5_hasInput_4 x1 s0 I J = some t) (hC : (c_X5_hasInput Q) t) : Rn L xs (d + 1) 52 17 [some (.ref 1), some (.int x1)] [.int s0] 94 (I, J, xrf) Q := by
  unfold f_X5_hasInput_4 at h
  obtain ⟨hc, h⟩ := xifT h
  cases h
  exact Rn.retT 1 (c := s0 = 0 ∨ s0 = 1) (o := ((some (.int s0)), 94, (I, J, xrf))) (fun f => rfl) hc hC
theorem p_X5_hasInput_3 {L : Nat} {xs : Nat → Int32} {d : Nat} {Q : xO → Prop} (x1 : Int32) (I : xI) (J : xJ) {t : Int32 × xI × xJ} (h : f_X5_hasInput_3 x1 I J = some t) (hC : (c_X5_hasInput Q) t) : Rn L xs (d + 1) 52 16 [some (.ref 1), some (.int x1)] [] 94 (I, J, xrf) Q := by
  unfold f_X5_hasInput_3 at h
  refine Rn.go 1 (j' := 52) (pc' := 17) (ls' := [some (.ref 1), some (.int x1)]) (st' := [.int 0]) (n' := 94) (M' := (I, J, xrf)) (fun f => rfl) ?_
  exact p_X5_hasInput_4 x1 0 I J h hC
theorem p_X5_hasInput_2 {L : Nat} {xs : Nat → Int32} {d : Nat} {Q : xO → Prop} (x1 : Int32) (I : xI) (J : xJ) {t : Int32 × xI × xJ} (h : f_X5_hasInput_2 x1 I J = some t) (hC : (c_X5_hasInput Q) t) : Rn L xs (d + 1) 52 12 [some (.ref 1), some (.int x1)] [] 94 (I, J, xrf) Q := by
  unfold f_X5_hasInput_2 at h
  refine Rn.go 2 (j' := 52) (pc' := 17) (ls' := [some (.ref 1), some (.int x1)]) (st' := [.int 1]) (n' := 94) (M' := (I, J, xrf)) (fun f => rfl) ?_
  exact p_X5_hasInput_4 x1 1 I J h hC
theorem p_X5_hasInput_1 {L : Nat} {xs : Nat → Int32} {d : Nat} {Q : xO → Prop} (x1 : Int32) (I : xI) (J : xJ) {t : Int32 × xI × xJ} (h : f_X5_hasInput_1 x1 I J = some t) (hC : (c_X5_hasInput Q) t) : Rn L xs (d + 1) 52 4 [some (.ref 1), some (.int x1)] [] 94 (I, J, xrf) Q := by
  unfold f_X5_hasInput_1 at h
  refine Rn.fi 4 (c := (I 1 1) ≤ x1) (p1 := 16) (l1 := [some (.ref 1), some (.int x1)]) (s1 := []) (n1 := 94) (M1 := (I, J, xrf)) (p2 := 12) (l2 := [some (.ref 1), some (.int x1)]) (s2 := []) (n2 := 94) (M2 := (I, J, xrf)) (fun f => rfl) (fun hc => ?_) (fun hc => ?_)
  · rw [if_pos hc] at h
    exact p_X5_hasInput_3 x1 I J h hC
  · rw [if_neg hc] at h
    exact p_X5_hasInput_2 x1 I J h hC
theorem p_X5_hasInput_0 {L : Nat} {xs : Nat → Int32} {d : Nat} {Q : xO → Prop} (x1 : Int32) (I : xI) (J : xJ) {t : Int32 × xI × xJ} (h : f_X5_hasInput_0 x1 I J = some t) (hC : (c_X5_hasInput Q) t) : Rn L xs (d + 1) 52 0 [some (.ref 1), some (.int x1)] [] 94 (I, J, xrf) Q := by
  unfold f_X5_hasInput_0 at h
  refine Rn.fi 2 (c := x1 < 0) (p1 := 16) (l1 := [some (.ref 1), some (.int x1)]) (s1 := []) (n1 := 94) (M1 := (I, J, xrf)) (p2 := 4) (l2 := [some (.ref 1), some (.int x1)]) (s2 := []) (n2 := 94) (M2 := (I, J, xrf)) (fun f => rfl) (fun hc => ?_) (fun hc => ?_)
  · rw [if_pos hc] at h
    exact p_X5_hasInput_3 x1 I J h hC
  · rw [if_neg hc] at h
    exact p_X5_hasInput_1 x1 I J h hC
theorem p_X5_hasInput {L : Nat} {xs : Nat → Int32} {d : Nat} {Q : xO → Prop} (x1 : Int32) (I : xI) (J : xJ) {t : Int32 × xI × xJ} (h : f_X5_hasInput x1 I J = some t) (hC : Q ((some (.int t.1)), 94, (t.2.1, t.2.2, xrf))) : Rn L xs (d + 1) 52 0 [some (.ref 1), some (.int x1)] [] 94 (I, J, xrf) Q := p_X5_hasInput_0 x1 I J h hC
/-! X5_putMove -/
def c_X5_putMove (Q : xO → Prop) (t : Unit × xI × xJ) : Prop := Q (none, 94, (t.2.1, t.2.2, xrf))
def f_X5_putMove_5 (x1 : Int32) (x2 : Int32) (x3 : Int32) (x4 : Int32) (I : xI) (J : xJ) : Option (Unit × xI × xJ) := some ((), I, J)
def f_X5_putMove_4 (x1 : Int32) (x2 : Int32) (x3 : Int32) (x4 : Int32) (I : xI) (J : xJ) : Option (Unit × xI × xJ) := if ((x1 * 4) + x2) < 0 ∨ 24 ≤ (((x1 * 4) + x2)).toNatClampNeg then none else if ((x1 * 4) + x2) < 0 ∨ 24 ≤ (((x1 * 4) + x2)).toNatClampNeg then none else f_X5_putMove_5 x1 x2 x3 x4 ((xup ((xup ((xup I 2 (((x1 * 4) + x2)).toNatClampNeg x3)) 3 (((x1 * 4) + x2)).toNatClampNeg x4)) 1 2 (((((xup ((xup I 2 (((x1 * 4) + x2)).toNatClampNeg x3)) 3 (((x1 * 4) + x2)).toNatClampNeg x4)) 1 2) + 1)))) J
def f_X5_putMove_3 (x1 : Int32) (x2 : Int32) (x3 : Int32) (x4 : Int32) (s0 : Int32) (I : xI) (J : xJ) : Option (Unit × xI × xJ) := if s0 = 0 then f_X5_putMove_5 x1 x2 x3 x4 I J else f_X5_putMove_4 x1 x2 x3 x4 I J
def f_X5_putMove_2 (x1 : Int32) (x2 : Int32) (x3 : Int32) (x4 : Int32) (I : xI) (J : xJ) : Option (Unit × xI × xJ) := (f_X5_hasInput x2 I J).bind fun o => f_X5_putMove_3 x1 x2 x3 x4 o.1 o.2.1 o.2.2
def f_X5_putMove_1 (x1 : Int32) (x2 : Int32) (x3 : Int32) (x4 : Int32) (s0 : Int32) (I : xI) (J : xJ) : Option (Unit × xI × xJ) := if s0 = 0 then f_X5_putMove_5 x1 x2 x3 x4 I J else f_X5_putMove_2 x1 x2 x3 x4 I J
def f_X5_putMove_0 (x1 : Int32) (x2 : Int32) (x3 : Int32) (x4 : Int32) (I : xI) (J : xJ) : Option (Unit × xI × xJ) := (f_X5_hasState x1 I J).bind fun o => f_X5_putMove_1 x1 x2 x3 x4 o.1 o.2.1 o.2.2
def f_X5_putMove (x1 : Int32) (x2 : Int32) (x3 : Int32) (x4 : Int32) (I : xI) (J : xJ) : Option (Unit × xI × xJ) := f_X5_putMove_0 x1 x2 x3 x4 I J
theorem p_X5_putMove_5 {L : Nat} {xs : Nat → Int32} {d : Nat} {Q : xO → Prop} (x1 : Int32) (x2 : Int32) (x3 : Int32) (x4 : Int32) (I : xI) (J : xJ) {t : Unit × xI × xJ} (h : f_X5_putMove_5 x1 x2 x3 x4 I J = some t) (hC : (c_X5_putMove Q) t) : Rn L xs (d + 2) 59 49 [some (.ref 1), some (.int x1), some (.int x2), some (.int x3), some (.int x4)] [] 94 (I, J, xrf) Q := by
  unfold f_X5_putMove_5 at h
  cases h
  exact Rn.ret 1 (o := (none, 94, (I, J, xrf))) (fun f => rfl) hC
theorem p_X5_putMove_4 {L : Nat} {xs : Nat → Int32} {d : Nat} {Q : xO → Prop} (x1 : Int32) (x2 : Int32) (x3 : Int32) (x4 : Int32) (I : xI) (J : xJ) {t : Unit × xI × xJ} (h : f_X5_putMove_4 x1 x2 x3 x4 I J = some t) (hC : (c_X5_putMove Q) t) : Rn L xs (d + 2) 59 16 [some (.ref 1), some (.int x1), some (.int x2), some (.int x3), some (.int x4)] [] 94 (I, J, xrf) Q := by
  unfold f_X5_putMove_4 at h
  obtain ⟨hc, h⟩ := xif h
  refine Rn.ok 9 (c := ((x1 * 4) + x2) < 0 ∨ 24 ≤ (((x1 * 4) + x2)).toNatClampNeg) (p1 := 27) (l1 := [some (.ref 1), some (.int x1), some (.int x2), some (.int x3), some (.int x4)]) (s1 := []) (n1 := 94) (M1 := ((xup I 2 (((x1 * 4) + x2)).toNatClampNeg x3), J, xrf)) (fun f => rfl) hc ?_
  obtain ⟨hc, h⟩ := xif h
  refine Rn.ok 9 (c := ((x1 * 4) + x2) < 0 ∨ 24 ≤ (((x1 * 4) + x2)).toNatClampNeg) (p1 := 39) (l1 := [some (.ref 1), some (.int x1), some (.int x2), some (.int x3), some (.int x4)]) (s1 := []) (n1 := 94) (M1 := ((xup ((xup I 2 (((x1 * 4) + x2)).toNatClampNeg x3)) 3 (((x1 * 4) + x2)).toNatClampNeg x4), J, xrf)) (fun f => rfl) hc ?_
  refine Rn.go 6 (j' := 59) (pc' := 49) (ls' := [some (.ref 1), some (.int x1), some (.int x2), some (.int x3), some (.int x4)]) (st' := []) (n' := 94) (M' := ((xup ((xup ((xup I 2 (((x1 * 4) + x2)).toNatClampNeg x3)) 3 (((x1 * 4) + x2)).toNatClampNeg x4)) 1 2 (((((xup ((xup I 2 (((x1 * 4) + x2)).toNatClampNeg x3)) 3 (((x1 * 4) + x2)).toNatClampNeg x4)) 1 2) + 1))), J, xrf)) (fun f => rfl) ?_
  exact p_X5_putMove_5 x1 x2 x3 x4 ((xup ((xup ((xup I 2 (((x1 * 4) + x2)).toNatClampNeg x3)) 3 (((x1 * 4) + x2)).toNatClampNeg x4)) 1 2 (((((xup ((xup I 2 (((x1 * 4) + x2)).toNatClampNeg x3)) 3 (((x1 * 4) + x2)).toNatClampNeg x4)) 1 2) + 1)))) J h hC
theorem p_X5_putMove_3 {L : Nat} {xs : Nat → Int32} {d : Nat} {Q : xO → Prop} (x1 : Int32) (x2 : Int32) (x3 : Int32) (x4 : Int32) (s0 : Int32) (I : xI) (J : xJ) {t : Unit × xI × xJ} (h : f_X5_putMove_3 x1 x2 x3 x4 s0 I J = some t) (hC : (c_X5_putMove Q) t) : Rn L xs (d + 2) 59 13 [some (.ref 1), some (.int x1), some (.int x2), some (.int x3), some (.int x4)] [.int s0] 94 (I, J, xrf) Q := by
  unfold f_X5_putMove_3 at h
  refine Rn.fi 1 (c := s0 = 0) (p1 := 49) (l1 := [some (.ref 1), some (.int x1), some (.int x2), some (.int x3), some (.int x4)]) (s1 := []) (n1 := 94) (M1 := (I, J, xrf)) (p2 := 16) (l2 := [some (.ref 1), some (.int x1), some (.int x2), some (.int x3), some (.int x4)]) (s2 := []) (n2 := 94) (M2 := (I, J, xrf)) (fun f => rfl) (fun hc => ?_) (fun hc => ?_)
  · rw [if_pos hc] at h
    exact p_X5_putMove_5 x1 x2 x3 x4 I J h hC
  · rw [if_neg hc] at h
    exact p_X5_putMove_4 x1 x2 x3 x4 I J h hC
theorem p_X5_putMove_2 {L : Nat} {xs : Nat → Int32} {d : Nat} {Q : xO → Prop} (x1 : Int32) (x2 : Int32) (x3 : Int32) (x4 : Int32) (I : xI) (J : xJ) {t : Unit × xI × xJ} (h : f_X5_putMove_2 x1 x2 x3 x4 I J = some t) (hC : (c_X5_putMove Q) t) : Rn L xs (d + 2) 59 8 [some (.ref 1), some (.int x1), some (.int x2), some (.int x3), some (.int x4)] [] 94 (I, J, xrf) Q := by
  unfold f_X5_putMove_2 at h
  refine Rn.go 2 (j' := 59) (pc' := 10) (ls' := [some (.ref 1), some (.int x1), some (.int x2), some (.int x3), some (.int x4)]) (st' := [.int x2, .ref 1]) (n' := 94) (M' := (I, J, xrf)) (fun f => rfl) ?_
  obtain ⟨o, ho, h⟩ := Option.bind_eq_some_iff.mp h
  refine Rn.call (d1 := d + 1) (j1 := 52) (ls1 := [some (.ref 1), some (.int x2)]) (rest := []) (fun f => rfl) ?_
  refine p_X5_hasInput (d := d + 0) x2 I J (t := o) ho ?_
  exact p_X5_putMove_3 x1 x2 x3 x4 o.1 o.2.1 o.2.2 h hC
theorem p_X5_putMove_1 {L : Nat} {xs : Nat → Int32} {d : Nat} {Q : xO → Prop} (x1 : Int32) (x2 : Int32) (x3 : Int32) (x4 : Int32) (s0 : Int32) (I : xI) (J : xJ) {t : Unit × xI × xJ} (h : f_X5_putMove_1 x1 x2 x3 x4 s0 I J = some t) (hC : (c_X5_putMove Q) t) : Rn L xs (d + 2) 59 5 [some (.ref 1), some (.int x1), some (.int x2), some (.int x3), some (.int x4)] [.int s0] 94 (I, J, xrf) Q := by
  unfold f_X5_putMove_1 at h
  refine Rn.fi 1 (c := s0 = 0) (p1 := 49) (l1 := [some (.ref 1), some (.int x1), some (.int x2), some (.int x3), some (.int x4)]) (s1 := []) (n1 := 94) (M1 := (I, J, xrf)) (p2 := 8) (l2 := [some (.ref 1), some (.int x1), some (.int x2), some (.int x3), some (.int x4)]) (s2 := []) (n2 := 94) (M2 := (I, J, xrf)) (fun f => rfl) (fun hc => ?_) (fun hc => ?_)
  · rw [if_pos hc] at h
    exact p_X5_putMove_5 x1 x2 x3 x4 I J h hC
  · rw [if_neg hc] at h
    exact p_X5_putMove_2 x1 x2 x3 x4 I J h hC
theorem p_X5_putMove_0 {L : Nat} {xs : Nat → Int32} {d : Nat} {Q : xO → Prop} (x1 : Int32) (x2 : Int32) (x3 : Int32) (x4 : Int32) (I : xI) (J : xJ) {t : Unit × xI × xJ} (h : f_X5_putMove_0 x1 x2 x3 x4 I J = some t) (hC : (c_X5_putMove Q) t) : Rn L xs (d + 2) 59 0 [some (.ref 1), some (.int x1), some (.int x2), some (.int x3), some (.int x4)] [] 94 (I, J, xrf) Q := by
  unfold f_X5_putMove_0 at h
  refine Rn.go 2 (j' := 59) (pc' := 2) (ls' := [some (.ref 1), some (.int x1), some (.int x2), some (.int x3), some (.int x4)]) (st' := [.int x1, .ref 1]) (n' := 94) (M' := (I, J, xrf)) (fun f => rfl) ?_
  obtain ⟨o, ho, h⟩ := Option.bind_eq_some_iff.mp h
  refine Rn.call (d1 := d + 1) (j1 := 51) (ls1 := [some (.ref 1), some (.int x1)]) (rest := []) (fun f => rfl) ?_
  refine p_X5_hasState (d := d + 0) x1 I J (t := o) ho ?_
  exact p_X5_putMove_1 x1 x2 x3 x4 o.1 o.2.1 o.2.2 h hC
theorem p_X5_putMove {L : Nat} {xs : Nat → Int32} {d : Nat} {Q : xO → Prop} (x1 : Int32) (x2 : Int32) (x3 : Int32) (x4 : Int32) (I : xI) (J : xJ) {t : Unit × xI × xJ} (h : f_X5_putMove x1 x2 x3 x4 I J = some t) (hC : Q (none, 94, (t.2.1, t.2.2, xrf))) : Rn L xs (d + 2) 59 0 [some (.ref 1), some (.int x1), some (.int x2), some (.int x3), some (.int x4)] [] 94 (I, J, xrf) Q := p_X5_putMove_0 x1 x2 x3 x4 I J h hC
/-! X5_putCode -/
def c_X5_putCode (Q : xO → Prop) (t : Unit × xI × xJ) : Prop := Q (none, 94, (t.2.1, t.2.2, xrf))
def f_X5_putCode_3 (x1 : Int32) (x2 : Int32) (I : xI) (J : xJ) : Option (Unit × xI × xJ) := some ((), I, J)
def f_X5_putCode_2 (x1 : Int32) (x2 : Int32) (I : xI) (J : xJ) : Option (Unit × xI × xJ) := if x1 < 0 ∨ 6 ≤ x1.toNatClampNeg then none else f_X5_putCode_3 x1 x2 ((xup I 4 x1.toNatClampNeg x2)) J
def f_X5_putCode_1 (x1 : Int32) (x2 : Int32) (s0 : Int32) (I : xI) (J : xJ) : Option (Unit × xI × xJ) := if s0 = 0 then f_X5_putCode_3 x1 x2 I J else f_X5_putCode_2 x1 x2 I J
def f_X5_putCode_0 (x1 : Int32) (x2 : Int32) (I : xI) (J : xJ) : Option (Unit × xI × xJ) := (f_X5_hasState x1 I J).bind fun o => f_X5_putCode_1 x1 x2 o.1 o.2.1 o.2.2
def f_X5_putCode (x1 : Int32) (x2 : Int32) (I : xI) (J : xJ) : Option (Unit × xI × xJ) := f_X5_putCode_0 x1 x2 I J
theorem p_X5_putCode_3 {L : Nat} {xs : Nat → Int32} {d : Nat} {Q : xO → Prop} (x1 : Int32) (x2 : Int32) (I : xI) (J : xJ) {t : Unit × xI × xJ} (h : f_X5_putCode_3 x1 x2 I J = some t) (hC : (c_X5_putCode Q) t) : Rn L xs (d + 2) 60 15 [some (.ref 1), some (.int x1), some (.int x2)] [] 94 (I, J, xrf) Q := by
  unfold f_X5_putCode_3 at h
  cases h
  exact Rn.ret 1 (o := (none, 94, (I, J, xrf))) (fun f => rfl) hC
theorem p_X5_putCode_2 {L : Nat} {xs : Nat → Int32} {d : Nat} {Q : xO → Prop} (x1 : Int32) (x2 : Int32) (I : xI) (J : xJ) {t : Unit × xI × xJ} (h : f_X5_putCode_2 x1 x2 I J = some t) (hC : (c_X5_putCode Q) t) : Rn L xs (d + 2) 60 8 [some (.ref 1), some (.int x1), some (.int x2)] [] 94 (I, J, xrf) Q := by
  unfold f_X5_putCode_2 at h
  obtain ⟨hc, h⟩ := xif h
  refine Rn.ok 5 (c := x1 < 0 ∨ 6 ≤ x1.toNatClampNeg) (p1 := 15) (l1 := [some (.ref 1), some (.int x1), some (.int x2)]) (s1 := []) (n1 := 94) (M1 := ((xup I 4 x1.toNatClampNeg x2), J, xrf)) (fun f => rfl) hc ?_
  exact p_X5_putCode_3 x1 x2 ((xup I 4 x1.toNatClampNeg x2)) J h hC
theorem p_X5_putCode_1 {L : Nat} {xs : Nat → Int32} {d : Nat} {Q : xO → Prop} (x1 : Int32) (x2 : Int32) (s0 : Int32) (I : xI) (J : xJ) {t : Unit × xI × xJ} (h : f_X5_putCode_1 x1 x2 s0 I J = some t) (hC : (c_X5_putCode Q) t) : Rn L xs (d + 2) 60 5 [some (.ref 1), some (.int x1), some (.int x2)] [.int s0] 94 (I, J, xrf) Q := by
  unfold f_X5_putCode_1 at h
  refine Rn.fi 1 (c := s0 = 0) (p1 := 15) (l1 := [some (.ref 1), some (.int x1), some (.int x2)]) (s1 := []) (n1 := 94) (M1 := (I, J, xrf)) (p2 := 8) (l2 := [some (.ref 1), some (.int x1), some (.int x2)]) (s2 := []) (n2 := 94) (M2 := (I, J, xrf)) (fun f => rfl) (fun hc => ?_) (fun hc => ?_)
  · rw [if_pos hc] at h
    exact p_X5_putCode_3 x1 x2 I J h hC
  · rw [if_neg hc] at h
    exact p_X5_putCode_2 x1 x2 I J h hC
theorem p_X5_putCode_0 {L : Nat} {xs : Nat → Int32} {d : Nat} {Q : xO → Prop} (x1 : Int32) (x2 : Int32) (I : xI) (J : xJ) {t : Unit × xI × xJ} (h : f_X5_putCode_0 x1 x2 I J = some t) (hC : (c_X5_putCode Q) t) : Rn L xs (d + 2) 60 0 [some (.ref 1), some (.int x1), some (.int x2)] [] 94 (I, J, xrf) Q := by
  unfold f_X5_putCode_0 at h
  refine Rn.go 2 (j' := 60) (pc' := 2) (ls' := [some (.ref 1), some (.int x1), some (.int x2)]) (st' := [.int x1, .ref 1]) (n' := 94) (M' := (I, J, xrf)) (fun f => rfl) ?_
  obtain ⟨o, ho, h⟩ := Option.bind_eq_some_iff.mp h
  refine Rn.call (d1 := d + 1) (j1 := 51) (ls1 := [some (.ref 1), some (.int x1)]) (rest := []) (fun f => rfl) ?_
  refine p_X5_hasState (d := d + 0) x1 I J (t := o) ho ?_
  exact p_X5_putCode_1 x1 x2 o.1 o.2.1 o.2.2 h hC
theorem p_X5_putCode {L : Nat} {xs : Nat → Int32} {d : Nat} {Q : xO → Prop} (x1 : Int32) (x2 : Int32) (I : xI) (J : xJ) {t : Unit × xI × xJ} (h : f_X5_putCode x1 x2 I J = some t) (hC : Q (none, 94, (t.2.1, t.2.2, xrf))) : Rn L xs (d + 2) 60 0 [some (.ref 1), some (.int x1), some (.int x2)] [] 94 (I, J, xrf) Q := p_X5_putCode_0 x1 x2 I J h hC
/-! X8_apply_1 -/
def c_X8_apply_1 (Q : xO → Prop) (t : Unit × xI × xJ) : Prop := Q (none, 94, (t.2.1, t.2.2, xrf))
def c_X8_apply_1_2 (L : Nat) (xs : Nat → Int32) (d : Nat) (Q : xO → Prop) (t : (Int32 × (Option Value) × (Option Value) × (Option Value) × xI × xJ) ⊕ (Unit × xI × xJ)) : Prop := match t with
  | .inl s => Rn L xs (d + 5) 116 14 [some (.ref 30), some (.ref 1), some (.int s.1), s.2.1, s.2.2.1, s.2.2.2.1] [] 94 (s.2.2.2.2.1, s.2.2.2.2.2, xrf) Q
  | .inr t => (c_X8_apply_1 Q) t
def f_X8_apply_1_22 (x2 : Int32) (z3 : Option Value) (z4 : Option Value) (z5 : Option Value) (I : xI) (J : xJ) : Option (Unit × xI × xJ) := some ((), I, J)
def f_X8_apply_1_21 (x2 : Int32) (x3 : Int32) (z4 : Option Value) (z5 : Option Value) (s0 : Int32) (s1 : Int32) (I : xI) (J : xJ) : Option ((Int32 × (Option Value) × (Option Value) × (Option Value) × xI × xJ) ⊕ (Unit × xI × xJ)) := some (.inl (((s0 + s1)), (some (.int x3)), z4, z5, I, J))
def f_X8_apply_1_20 (x2 : Int32) (x3 : Int32) (z4 : Option Value) (z5 : Option Value) (I : xI) (J : xJ) : Option ((Int32 × (Option Value) × (Option Value) × (Option Value) × xI × xJ) ⊕ (Unit × xI × xJ)) := (f_X8_lengthOf x2 I J).bind fun o => f_X8_apply_1_21 x2 x3 z4 z5 x2 o.1 o.2.1 o.2.2
def f_X8_apply_1_19 (x2 : Int32) (x3 : Int32) (z4 : Option Value) (z5 : Option Value) (s1 : Int32) (s2 : Int32) (I : xI) (J : xJ) : Option ((Int32 × (Option Value) × (Option Value) × (Option Value) × xI × xJ) ⊕ (Unit × xI × xJ)) := (f_X5_putCode s1 s2 I J).bind fun o => f_X8_apply_1_20 x2 x3 z4 z5 o.2.1 o.2.2
def f_X8_apply_1_18 (x2 : Int32) (x3 : Int32) (z4 : Option Value) (z5 : Option Value) (s1 : Int32) (I : xI) (J : xJ) : Option ((Int32 × (Option Value) × (Option Value) × (Option Value) × xI × xJ) ⊕ (Unit × xI × xJ)) := (f_X8_valueOf ((x2 + 2)) I J).bind fun o => f_X8_apply_1_19 x2 x3 z4 z5 s1 o.1 o.2.1 o.2.2
def f_X8_apply_1_17 (x2 : Int32) (x3 : Int32) (z4 : Option Value) (z5 : Option Value) (I : xI) (J : xJ) : Option ((Int32 × (Option Value) × (Option Value) × (Option Value) × xI × xJ) ⊕ (Unit × xI × xJ)) := (f_X8_stateIn ((x2 + 1)) I J).bind fun o => f_X8_apply_1_18 x2 x3 z4 z5 o.1 o.2.1 o.2.2
def f_X8_apply_1_16 (x2 : Int32) (x3 : Int32) (z4 : Option Value) (z5 : Option Value) (I : xI) (J : xJ) : Option ((Int32 × (Option Value) × (Option Value) × (Option Value) × xI × xJ) ⊕ (Unit × xI × xJ)) := if x3 = 7 then f_X8_apply_1_17 x2 x3 z4 z5 I J else f_X8_apply_1_20 x2 x3 z4 z5 I J
def f_X8_apply_1_15 (x2 : Int32) (x3 : Int32) (x4 : Int32) (x5 : Int32) (I : xI) (J : xJ) : Option ((Int32 × (Option Value) × (Option Value) × (Option Value) × xI × xJ) ⊕ (Unit × xI × xJ)) := f_X8_apply_1_20 x2 x3 (some (.int x4)) (some (.int x5)) I J
def f_X8_apply_1_14 (x2 : Int32) (x3 : Int32) (x4 : Int32) (x5 : Int32) (s1 : Int32) (s2 : Int32) (I : xI) (J : xJ) : Option ((Int32 × (Option Value) × (Option Value) × (Option Value) × xI × xJ) ⊕ (Unit × xI × xJ)) := (f_X5_putMove s1 s2 x4 x5 I J).bind fun o => f_X8_apply_1_15 x2 x3 x4 x5 o.2.1 o.2.2
def f_X8_apply_1_13 (x2 : Int32) (x3 : Int32) (x4 : Int32) (x5 : Int32) (s1 : Int32) (I : xI) (J : xJ) : Option ((Int32 × (Option Value) × (Option Value) × (Option Value) × xI × xJ) ⊕ (Unit × xI × xJ)) := (f_X8_valueOf ((x2 + 2)) I J).bind fun o => f_X8_apply_1_14 x2 x3 x4 x5 s1 o.1 o.2.1 o.2.2
def f_X8_apply_1_12 (x2 : Int32) (x3 : Int32) (x4 : Int32) (z5 : Option Value) (s0 : Int32) (I : xI) (J : xJ) : Option ((Int32 × (Option Value) × (Option Value) × (Option Value) × xI × xJ) ⊕ (Unit × xI × xJ)) := (f_X8_stateIn ((x2 + 1)) I J).bind fun o => f_X8_apply_1_13 x2 x3 x4 s0 o.1 o.2.1 o.2.2
def f_X8_apply_1_11 (x2 : Int32) (x3 : Int32) (x4 : Int32) (z5 : Option Value) (I : xI) (J : xJ) : Option ((Int32 × (Option Value) × (Option Value) × (Option Value) × xI × xJ) ⊕ (Unit × xI × xJ)) := (f_X8_valueOf ((x2 + 4)) I J).bind fun o => f_X8_apply_1_12 x2 x3 x4 z5 o.1 o.2.1 o.2.2
def f_X8_apply_1_10 (x2 : Int32) (x3 : Int32) (x4 : Int32) (z5 : Option Value) (I : xI) (J : xJ) : Option ((Int32 × (Option Value) × (Option Value) × (Option Value) × xI × xJ) ⊕ (Unit × xI × xJ)) := f_X8_apply_1_12 x2 x3 x4 z5 ((-2)) I J
def f_X8_apply_1_9 (x2 : Int32) (x3 : Int32) (x4 : Int32) (z5 : Option Value) (s0 : Int32) (I : xI) (J : xJ) : Option ((Int32 × (Option Value) × (Option Value) × (Option Value) × xI × xJ) ⊕ (Unit × xI × xJ)) := if s0 = 0 then f_X8_apply_1_11 x2 x3 x4 z5 I J else f_X8_apply_1_10 x2 x3 x4 z5 I J
def f_X8_apply_1_8 (x2 : Int32) (x3 : Int32) (z4 : Option Value) (z5 : Option Value) (s0 : Int32) (I : xI) (J : xJ) : Option ((Int32 × (Option Value) × (Option Value) × (Option Value) × xI × xJ) ⊕ (Unit × xI × xJ)) := (f_X8_isOpen ((x2 + 4)) I J).bind fun o => f_X8_apply_1_9 x2 x3 s0 z5 o.1 o.2.1 o.2.2
def f_X8_apply_1_7 (x2 : Int32) (x3 : Int32) (z4 : Option Value) (z5 : Option Value) (I : xI) (J : xJ) : Option ((Int32 × (Option Value) × (Option Value) × (Option Value) × xI × xJ) ⊕ (Unit × xI × xJ)) := (f_X8_stateIn ((x2 + 3)) I J).bind fun o => f_X8_apply_1_8 x2 x3 z4 z5 o.1 o.2.1 o.2.2
def f_X8_apply_1_6 (x2 : Int32) (x3 : Int32) (z4 : Option Value) (z5 : Option Value) (I : xI) (J : xJ) : Option ((Int32 × (Option Value) × (Option Value) × (Option Value) × xI × xJ) ⊕ (Unit × xI × xJ)) := f_X8_apply_1_8 x2 x3 z4 z5 ((-2)) I J
def f_X8_apply_1_5 (x2 : Int32) (x3 : Int32) (z4 : Option Value) (z5 : Option Value) (s0 : Int32) (I : xI) (J : xJ) : Option ((Int32 × (Option Value) × (Option Value) × (Option Value) × xI × xJ) ⊕ (Unit × xI × xJ)) := if s0 = 0 then f_X8_apply_1_7 x2 x3 z4 z5 I J else f_X8_apply_1_6 x2 x3 z4 z5 I J
def f_X8_apply_1_4 (x2 : Int32) (x3 : Int32) (z4 : Option Value) (z5 : Option Value) (I : xI) (J : xJ) : Option ((Int32 × (Option Value) × (Option Value) × (Option Value) × xI × xJ) ⊕ (Unit × xI × xJ)) := (f_X8_isOpen ((x2 + 3)) I J).bind fun o => f_X8_apply_1_5 x2 x3 z4 z5 o.1 o.2.1 o.2.2
def f_X8_apply_1_3 (x2 : Int32) (z3 : Option Value) (z4 : Option Value) (z5 : Option Value) (I : xI) (J : xJ) : Option ((Int32 × (Option Value) × (Option Value) × (Option Value) × xI × xJ) ⊕ (Unit × xI × xJ)) := if x2 < 0 ∨ 400 ≤ x2.toNatClampNeg then none else if (I 27 x2.toNatClampNeg) = 6 then f_X8_apply_1_4 x2 ((I 27 x2.toNatClampNeg)) z4 z5 I J else f_X8_apply_1_16 x2 ((I 27 x2.toNatClampNeg)) z4 z5 I J
def b_X8_apply_1_2 (x2 : Int32) (z3 : Option Value) (z4 : Option Value) (z5 : Option Value) (I : xI) (J : xJ) : Option ((Int32 × (Option Value) × (Option Value) × (Option Value) × xI × xJ) ⊕ (Unit × xI × xJ)) := if (I 26 4) ≤ x2 then ((f_X8_apply_1_22 x2 z3 z4 z5 I J)).map .inr else f_X8_apply_1_3 x2 z3 z4 z5 I J
def f_X8_apply_1_2 (x2 : Int32) (z3 : Option Value) (z4 : Option Value) (z5 : Option Value) (I : xI) (J : xJ) : Option (Unit × xI × xJ) := xloop (fun s : Int32 × (Option Value) × (Option Value) × (Option Value) × xI × xJ => b_X8_apply_1_2 s.1 s.2.1 s.2.2.1 s.2.2.2.1 s.2.2.2.2.1 s.2.2.2.2.2) 5000 (x2, z3, z4, z5, I, J)
def f_X8_apply_1_1 (I : xI) (J : xJ) : Option (Unit × xI × xJ) := f_X8_apply_1_2 0 none none none I J
def f_X8_apply_1_0 (I : xI) (J : xJ) : Option (Unit × xI × xJ) := (f_X5_begin ((I 30 3)) ((I 30 4)) I J).bind fun o => f_X8_apply_1_1 o.2.1 o.2.2
def f_X8_apply_1 (I : xI) (J : xJ) : Option (Unit × xI × xJ) := f_X8_apply_1_0 I J
theorem p_X8_apply_1_22 {L : Nat} {xs : Nat → Int32} {d : Nat} {Q : xO → Prop} (x2 : Int32) (z3 : Option Value) (z4 : Option Value) (z5 : Option Value) (I : xI) (J : xJ) {t : Unit × xI × xJ} (h : f_X8_apply_1_22 x2 z3 z4 z5 I J = some t) (hC : (c_X8_apply_1 Q) t) : Rn L xs (d + 5) 116 149 [some (.ref 30), some (.ref 1), some (.int x2), z3, z4, z5] [] 94 (I, J, xrf) Q := by
  unfold f_X8_apply_1_22 at h
  cases h
  exact Rn.ret 1 (o := (none, 94, (I, J, xrf))) (fun f => rfl) hC
theorem p_X8_apply_1_21 {L : Nat} {xs : Nat → Int32} {d : Nat} {Q : xO → Prop} (x2 : Int32) (x3 : Int32) (z4 : Option Value) (z5 : Option Value) (s0 : Int32) (s1 : Int32) (I : xI) (J : xJ) {t : (Int32 × (Option Value) × (Option Value) × (Option Value) × xI × xJ) ⊕ (Unit × xI × xJ)} (h : f_X8_apply_1_21 x2 x3 z4 z5 s0 s1 I J = some t) (hC : (c_X8_apply_1_2 L xs d Q) t) : Rn L xs (d + 5) 116 144 [some (.ref 30), some (.ref 1), some (.int x2), some (.int x3), z4, z5] [.int s1, .int s0] 94 (I, J, xrf) Q := by
  unfold f_X8_apply_1_21 at h
  refine Rn.go 3 (j' := 116) (pc' := 14) (ls' := [some (.ref 30), some (.ref 1), some (.int ((s0 + s1))), some (.int x3), z4, z5]) (st' := []) (n' := 94) (M' := (I, J, xrf)) (fun f => rfl) ?_
  cases h; exact hC
theorem p_X8_apply_1_20 {L : Nat} {xs : Nat → Int32} {d : Nat} {Q : xO → Prop} (x2 : Int32) (x3 : Int32) (z4 : Option Value) (z5 : Option Value) (I : xI) (J : xJ) {t : (Int32 × (Option Value) × (Option Value) × (Option Value) × xI × xJ) ⊕ (Unit × xI × xJ)} (h : f_X8_apply_1_20 x2 x3 z4 z5 I J = some t) (hC : (c_X8_apply_1_2 L xs d Q) t) : Rn L xs (d + 5) 116 138 [some (.ref 30), some (.ref 1), some (.int x2), some (.int x3), z4, z5] [] 94 (I, J, xrf) Q := by
  unfold f_X8_apply_1_20 at h
  refine Rn.go 3 (j' := 116) (pc' := 141) (ls' := [some (.ref 30), some (.ref 1), some (.int x2), some (.int x3), z4, z5]) (st' := [.int x2, .ref 30, .int x2]) (n' := 94) (M' := (I, J, xrf)) (fun f => rfl) ?_
  obtain ⟨o, ho, h⟩ := Option.bind_eq_some_iff.mp h
  refine Rn.call (d1 := d + 4) (j1 := 109) (ls1 := [some (.ref 30), some (.int x2)]) (rest := [.int x2]) (fun f => rfl) ?_
  refine p_X8_lengthOf (d := d + 0) x2 I J (t := o) ho ?_
  exact p_X8_apply_1_21 x2 x3 z4 z5 x2 o.1 o.2.1 o.2.2 h hC
theorem p_X8_apply_1_19 {L : Nat} {xs : Nat → Int32} {d : Nat} {Q : xO → Prop} (x2 : Int32) (x3 : Int32) (z4 : Option Value) (z5 : Option Value) (s1 : Int32) (s2 : Int32) (I : xI) (J : xJ) {t : (Int32 × (Option Value) × (Option Value) × (Option Value) × xI × xJ) ⊕ (Unit × xI × xJ)} (h : f_X8_apply_1_19 x2 x3 z4 z5 s1 s2 I J = some t) (hC : (c_X8_apply_1_2 L xs d Q) t) : Rn L xs (d + 5) 116 135 [some (.ref 30), some (.ref 1), some (.int x2), some (.int x3), z4, z5] [.int s2, .int s1, .ref 1] 94 (I, J, xrf) Q := by
  unfold f_X8_apply_1_19 at h
  obtain ⟨o, ho, h⟩ := Option.bind_eq_some_iff.mp h
  refine Rn.call (d1 := d + 4) (j1 := 60) (ls1 := [some (.ref 1), some (.int s1), some (.int s2)]) (rest := []) (fun f => rfl) ?_
  refine p_X5_putCode (d := d + 2) s1 s2 I J (t := o) ho ?_
  exact p_X8_apply_1_20 x2 x3 z4 z5 o.2.1 o.2.2 h hC
theorem p_X8_apply_1_18 {L : Nat} {xs : Nat → Int32} {d : Nat} {Q : xO → Prop} (x2 : Int32) (x3 : Int32) (z4 : Option Value) (z5 : Option Value) (s1 : Int32) (I : xI) (J : xJ) {t : (Int32 × (Option Value) × (Option Value) × (Option Value) × xI × xJ) ⊕ (Unit × xI × xJ)} (h : f_X8_apply_1_18 x2 x3 z4 z5 s1 I J = some t) (hC : (c_X8_apply_1_2 L xs d Q) t) : Rn L xs (d + 5) 116 128 [some (.ref 30), some (.ref 1), some (.int x2), some (.int x3), z4, z5] [.int s1, .ref 1] 94 (I, J, xrf) Q := by
  unfold f_X8_apply_1_18 at h
  refine Rn.go 4 (j' := 116) (pc' := 132) (ls' := [some (.ref 30), some (.ref 1), some (.int x2), some (.int x3), z4, z5]) (st' := [.int ((x2 + 2)), .ref 30, .int s1, .ref 1]) (n' := 94) (M' := (I, J, xrf)) (fun f => rfl) ?_
  obtain ⟨o, ho, h⟩ := Option.bind_eq_some_iff.mp h
  refine Rn.call (d1 := d + 4) (j1 := 114) (ls1 := [some (.ref 30), some (.int ((x2 + 2)))]) (rest := [.int s1, .ref 1]) (fun f => rfl) ?_
  refine p_X8_valueOf (d := d + 1) ((x2 + 2)) I J (t := o) ho ?_
  exact p_X8_apply_1_19 x2 x3 z4 z5 s1 o.1 o.2.1 o.2.2 h hC
theorem p_X8_apply_1_17 {L : Nat} {xs : Nat → Int32} {d : Nat} {Q : xO → Prop} (x2 : Int32) (x3 : Int32) (z4 : Option Value) (z5 : Option Value) (I : xI) (J : xJ) {t : (Int32 × (Option Value) × (Option Value) × (Option Value) × xI × xJ) ⊕ (Unit × xI × xJ)} (h : f_X8_apply_1_17 x2 x3 z4 z5 I J = some t) (hC : (c_X8_apply_1_2 L xs d Q) t) : Rn L xs (d + 5) 116 120 [some (.ref 30), some (.ref 1), some (.int x2), some (.int x3), z4, z5] [] 94 (I, J, xrf) Q := by
  unfold f_X8_apply_1_17 at h
  refine Rn.go 5 (j' := 116) (pc' := 125) (ls' := [some (.ref 30), some (.ref 1), some (.int x2), some (.int x3), z4, z5]) (st' := [.int ((x2 + 1)), .ref 30, .ref 1]) (n' := 94) (M' := (I, J, xrf)) (fun f => rfl) ?_
  obtain ⟨o, ho, h⟩ := Option.bind_eq_some_iff.mp h
  refine Rn.call (d1 := d + 4) (j1 := 115) (ls1 := [some (.ref 30), some (.int ((x2 + 1))), none, none]) (rest := [.ref 1]) (fun f => rfl) ?_
  refine p_X8_stateIn (d := d + 1) ((x2 + 1)) I J (t := o) ho ?_
  exact p_X8_apply_1_18 x2 x3 z4 z5 o.1 o.2.1 o.2.2 h hC
theorem p_X8_apply_1_16 {L : Nat} {xs : Nat → Int32} {d : Nat} {Q : xO → Prop} (x2 : Int32) (x3 : Int32) (z4 : Option Value) (z5 : Option Value) (I : xI) (J : xJ) {t : (Int32 × (Option Value) × (Option Value) × (Option Value) × xI × xJ) ⊕ (Unit × xI × xJ)} (h : f_X8_apply_1_16 x2 x3 z4 z5 I J = some t) (hC : (c_X8_apply_1_2 L xs d Q) t) : Rn L xs (d + 5) 116 114 [some (.ref 30), some (.ref 1), some (.int x2), some (.int x3), z4, z5] [] 94 (I, J, xrf) Q := by
  unfold f_X8_apply_1_16 at h
  refine Rn.fi 3 (c := x3 = 7) (p1 := 120) (l1 := [some (.ref 30), some (.ref 1), some (.int x2), some (.int x3), z4, z5]) (s1 := []) (n1 := 94) (M1 := (I, J, xrf)) (p2 := 138) (l2 := [some (.ref 30), some (.ref 1), some (.int x2), some (.int x3), z4, z5]) (s2 := []) (n2 := 94) (M2 := (I, J, xrf)) (fun f => rfl) (fun hc => ?_) (fun hc => ?_)
  · rw [if_pos hc] at h
    exact p_X8_apply_1_17 x2 x3 z4 z5 I J h hC
  · rw [if_neg hc] at h
    exact p_X8_apply_1_20 x2 x3 z4 z5 I J h hC
theorem p_X8_apply_1_15 {L : Nat} {xs : Nat → Int32} {d : Nat} {Q : xO → Prop} (x2 : Int32) (x3 : Int32) (x4 : Int32) (x5 : Int32) (I : xI) (J : xJ) {t : (Int32 × (Option Value) × (Option Value) × (Option Value) × xI × xJ) ⊕ (Unit × xI × xJ)} (h : f_X8_apply_1_15 x2 x3 x4 x5 I J = some t) (hC : (c_X8_apply_1_2 L xs d Q) t) : Rn L xs (d + 5) 116 111 [some (.ref 30), some (.ref 1), some (.int x2), some (.int x3), some (.int x4), some (.int x5)] [] 94 (I, J, xrf) Q := by
  unfold f_X8_apply_1_15 at h
  refine Rn.go 1 (j' := 116) (pc' := 138) (ls' := [some (.ref 30), some (.ref 1), some (.int x2), some (.int x3), some (.int x4), some (.int x5)]) (st' := []) (n' := 94) (M' := (I, J, xrf)) (fun f => rfl) ?_
  exact p_X8_apply_1_20 x2 x3 (some (.int x4)) (some (.int x5)) I J h hC
theorem p_X8_apply_1_14 {L : Nat} {xs : Nat → Int32} {d : Nat} {Q : xO → Prop} (x2 : Int32) (x3 : Int32) (x4 : Int32) (x5 : Int32) (s1 : Int32) (s2 : Int32) (I : xI) (J : xJ) {t : (Int32 × (Option Value) × (Option Value) × (Option Value) × xI × xJ) ⊕ (Unit × xI × xJ)} (h : f_X8_apply_1_14 x2 x3 x4 x5 s1 s2 I J = some t) (hC : (c_X8_apply_1_2 L xs d Q) t) : Rn L xs (d + 5) 116 104 [some (.ref 30), some (.ref 1), some (.int x2), some (.int x3), some (.int x4), some (.int x5)] [.int s2, .int s1, .ref 1] 94 (I, J, xrf) Q := by
  unfold f_X8_apply_1_14 at h
  refine Rn.go 2 (j' := 116) (pc' := 108) (ls' := [some (.ref 30), some (.ref 1), some (.int x2), some (.int x3), some (.int x4), some (.int x5)]) (st' := [.int x5, .int x4, .int s2, .int s1, .ref 1]) (n' := 94) (M' := (I, J, xrf)) (fun f => rfl) ?_
  obtain ⟨o, ho, h⟩ := Option.bind_eq_some_iff.mp h
  refine Rn.call (d1 := d + 4) (j1 := 59) (ls1 := [some (.ref 1), some (.int s1), some (.int s2), some (.int x4), some (.int x5)]) (rest := []) (fun f => rfl) ?_
  refine p_X5_putMove (d := d + 2) s1 s2 x4 x5 I J (t := o) ho ?_
  exact p_X8_apply_1_15 x2 x3 x4 x5 o.2.1 o.2.2 h hC
theorem p_X8_apply_1_13 {L : Nat} {xs : Nat → Int32} {d : Nat} {Q : xO → Prop} (x2 : Int32) (x3 : Int32) (x4 : Int32) (x5 : Int32) (s1 : Int32) (I : xI) (J : xJ) {t : (Int32 × (Option Value) × (Option Value) × (Option Value) × xI × xJ) ⊕ (Unit × xI × xJ)} (h : f_X8_apply_1_13 x2 x3 x4 x5 s1 I J = some t) (hC : (c_X8_apply_1_2 L xs d Q) t) : Rn L xs (d + 5) 116 97 [some (.ref 30), some (.ref 1), some (.int x2), some (.int x3), some (.int x4), some (.int x5)] [.int s1, .ref 1] 94 (I, J, xrf) Q := by
  unfold f_X8_apply_1_13 at h
  refine Rn.go 4 (j' := 116) (pc' := 101) (ls' := [some (.ref 30), some (.ref 1), some (.int x2), some (.int x3), some (.int x4), some (.int x5)]) (st' := [.int ((x2 + 2)), .ref 30, .int s1, .ref 1]) (n' := 94) (M' := (I, J, xrf)) (fun f => rfl) ?_
  obtain ⟨o, ho, h⟩ := Option.bind_eq_some_iff.mp h
  refine Rn.call (d1 := d + 4) (j1 := 114) (ls1 := [some (.ref 30), some (.int ((x2 + 2)))]) (rest := [.int s1, .ref 1]) (fun f => rfl) ?_
  refine p_X8_valueOf (d := d + 1) ((x2 + 2)) I J (t := o) ho ?_
  exact p_X8_apply_1_14 x2 x3 x4 x5 s1 o.1 o.2.1 o.2.2 h hC
theorem p_X8_apply_1_12 {L : Nat} {xs : Nat → Int32} {d : Nat} {Q : xO → Prop} (x2 : Int32) (x3 : Int32) (x4 : Int32) (z5 : Option Value) (s0 : Int32) (I : xI) (J : xJ) {t : (Int32 × (Option Value) × (Option Value) × (Option Value) × xI × xJ) ⊕ (Unit × xI × xJ)} (h : f_X8_apply_1_12 x2 x3 x4 z5 s0 I J = some t) (hC : (c_X8_apply_1_2 L xs d Q) t) : Rn L xs (d + 5) 116 87 [some (.ref 30), some (.ref 1), some (.int x2), some (.int x3), some (.int x4), z5] [.int s0] 94 (I, J, xrf) Q := by
  unfold f_X8_apply_1_12 at h
  refine Rn.go 6 (j' := 116) (pc' := 94) (ls' := [some (.ref 30), some (.ref 1), some (.int x2), some (.int x3), some (.int x4), some (.int s0)]) (st' := [.int ((x2 + 1)), .ref 30, .ref 1]) (n' := 94) (M' := (I, J, xrf)) (fun f => rfl) ?_
  obtain ⟨o, ho, h⟩ := Option.bind_eq_some_iff.mp h
  refine Rn.call (d1 := d + 4) (j1 := 115) (ls1 := [some (.ref 30), some (.int ((x2 + 1))), none, none]) (rest := [.ref 1]) (fun f => rfl) ?_
  refine p_X8_stateIn (d := d + 1) ((x2 + 1)) I J (t := o) ho ?_
  exact p_X8_apply_1_13 x2 x3 x4 s0 o.1 o.2.1 o.2.2 h hC
theorem p_X8_apply_1_11 {L : Nat} {xs : Nat → Int32} {d : Nat} {Q : xO → Prop} (x2 : Int32) (x3 : Int32) (x4 : Int32) (z5 : Option Value) (I : xI) (J : xJ) {t : (Int32 × (Option Value) × (Option Value) × (Option Value) × xI × xJ) ⊕ (Unit × xI × xJ)} (h : f_X8_apply_1_11 x2 x3 x4 z5 I J = some t) (hC : (c_X8_apply_1_2 L xs d Q) t) : Rn L xs (d + 5) 116 80 [some (.ref 30), some (.ref 1), some (.int x2), some (.int x3), some (.int x4), z5] [] 94 (I, J, xrf) Q := by
  unfold f_X8_apply_1_11 at h
  refine Rn.go 4 (j' := 116) (pc' := 84) (ls' := [some (.ref 30), some (.ref 1), some (.int x2), some (.int x3), some (.int x4), z5]) (st' := [.int ((x2 + 4)), .ref 30]) (n' := 94) (M' := (I, J, xrf)) (fun f => rfl) ?_
  obtain ⟨o, ho, h⟩ := Option.bind_eq_some_iff.mp h
  refine Rn.call (d1 := d + 4) (j1 := 114) (ls1 := [some (.ref 30), some (.int ((x2 + 4)))]) (rest := []) (fun f => rfl) ?_
  refine p_X8_valueOf (d := d + 1) ((x2 + 4)) I J (t := o) ho ?_
  exact p_X8_apply_1_12 x2 x3 x4 z5 o.1 o.2.1 o.2.2 h hC
theorem p_X8_apply_1_10 {L : Nat} {xs : Nat → Int32} {d : Nat} {Q : xO → Prop} (x2 : Int32) (x3 : Int32) (x4 : Int32) (z5 : Option Value) (I : xI) (J : xJ) {t : (Int32 × (Option Value) × (Option Value) × (Option Value) × xI × xJ) ⊕ (Unit × xI × xJ)} (h : f_X8_apply_1_10 x2 x3 x4 z5 I J = some t) (hC : (c_X8_apply_1_2 L xs d Q) t) : Rn L xs (d + 5) 116 75 [some (.ref 30), some (.ref 1), some (.int x2), some (.int x3), some (.int x4), z5] [] 94 (I, J, xrf) Q := by
  unfold f_X8_apply_1_10 at h
  refine Rn.go 2 (j' := 116) (pc' := 87) (ls' := [some (.ref 30), some (.ref 1), some (.int x2), some (.int x3), some (.int x4), z5]) (st' := [.int ((-2))]) (n' := 94) (M' := (I, J, xrf)) (fun f => rfl) ?_
  exact p_X8_apply_1_12 x2 x3 x4 z5 ((-2)) I J h hC
theorem p_X8_apply_1_9 {L : Nat} {xs : Nat → Int32} {d : Nat} {Q : xO → Prop} (x2 : Int32) (x3 : Int32) (x4 : Int32) (z5 : Option Value) (s0 : Int32) (I : xI) (J : xJ) {t : (Int32 × (Option Value) × (Option Value) × (Option Value) × xI × xJ) ⊕ (Unit × xI × xJ)} (h : f_X8_apply_1_9 x2 x3 x4 z5 s0 I J = some t) (hC : (c_X8_apply_1_2 L xs d Q) t) : Rn L xs (d + 5) 116 72 [some (.ref 30), some (.ref 1), some (.int x2), some (.int x3), some (.int x4), z5] [.int s0] 94 (I, J, xrf) Q := by
  unfold f_X8_apply_1_9 at h
  refine Rn.fi 1 (c := s0 = 0) (p1 := 80) (l1 := [some (.ref 30), some (.ref 1), some (.int x2), some (.int x3), some (.int x4), z5]) (s1 := []) (n1 := 94) (M1 := (I, J, xrf)) (p2 := 75) (l2 := [some (.ref 30), some (.ref 1), some (.int x2), some (.int x3), some (.int x4), z5]) (s2 := []) (n2 := 94) (M2 := (I, J, xrf)) (fun f => rfl) (fun hc => ?_) (fun hc => ?_)
  · rw [if_pos hc] at h
    exact p_X8_apply_1_11 x2 x3 x4 z5 I J h hC
  · rw [if_neg hc] at h
    exact p_X8_apply_1_10 x2 x3 x4 z5 I J h hC
theorem p_X8_apply_1_8 {L : Nat} {xs : Nat → Int32} {d : Nat} {Q : xO → Prop} (x2 : Int32) (x3 : Int32) (z4 : Option Value) (z5 : Option Value) (s0 : Int32) (I : xI) (J : xJ) {t : (Int32 × (Option Value) × (Option Value) × (Option Value) × xI × xJ) ⊕ (Unit × xI × xJ)} (h : f_X8_apply_1_8 x2 x3 z4 z5 s0 I J = some t) (hC : (c_X8_apply_1_2 L xs d Q) t) : Rn L xs (d + 5) 116 63 [some (.ref 30), some (.ref 1), some (.int x2), some (.int x3), z4, z5] [.int s0] 94 (I, J, xrf) Q := by
  unfold f_X8_apply_1_8 at h
  refine Rn.go 5 (j' := 116) (pc' := 69) (ls' := [some (.ref 30), some (.ref 1), some (.int x2), some (.int x3), some (.int s0), z5]) (st' := [.int ((x2 + 4)), .ref 30]) (n' := 94) (M' := (I, J, xrf)) (fun f => rfl) ?_
  obtain ⟨o, ho, h⟩ := Option.bind_eq_some_iff.mp h
  refine Rn.call (d1 := d + 4) (j1 := 113) (ls1 := [some (.ref 30), some (.int ((x2 + 4)))]) (rest := []) (fun f => rfl) ?_
  refine p_X8_isOpen (d := d + 2) ((x2 + 4)) I J (t := o) ho ?_
  exact p_X8_apply_1_9 x2 x3 s0 z5 o.1 o.2.1 o.2.2 h hC
theorem p_X8_apply_1_7 {L : Nat} {xs : Nat → Int32} {d : Nat} {Q : xO → Prop} (x2 : Int32) (x3 : Int32) (z4 : Option Value) (z5 : Option Value) (I : xI) (J : xJ) {t : (Int32 × (Option Value) × (Option Value) × (Option Value) × xI × xJ) ⊕ (Unit × xI × xJ)} (h : f_X8_apply_1_7 x2 x3 z4 z5 I J = some t) (hC : (c_X8_apply_1_2 L xs d Q) t) : Rn L xs (d + 5) 116 56 [some (.ref 30), some (.ref 1), some (.int x2), some (.int x3), z4, z5] [] 94 (I, J, xrf) Q := by
  unfold f_X8_apply_1_7 at h
  refine Rn.go 4 (j' := 116) (pc' := 60) (ls' := [some (.ref 30), some (.ref 1), some (.int x2), some (.int x3), z4, z5]) (st' := [.int ((x2 + 3)), .ref 30]) (n' := 94) (M' := (I, J, xrf)) (fun f => rfl) ?_
  obtain ⟨o, ho, h⟩ := Option.bind_eq_some_iff.mp h
  refine Rn.call (d1 := d + 4) (j1 := 115) (ls1 := [some (.ref 30), some (.int ((x2 + 3))), none, none]) (rest := []) (fun f => rfl) ?_
  refine p_X8_stateIn (d := d + 1) ((x2 + 3)) I J (t := o) ho ?_
  exact p_X8_apply_1_8 x2 x3 z4 z5 o.1 o.2.1 o.2.2 h hC
theorem p_X8_apply_1_6 {L : Nat} {xs : Nat → Int32} {d : Nat} {Q : xO → Prop} (x2 : Int32) (x3 : Int32) (z4 : Option Value) (z5 : Option Value) (I : xI) (J : xJ) {t : (Int32 × (Option Value) × (Option Value) × (Option Value) × xI × xJ) ⊕ (Unit × xI × xJ)} (h : f_X8_apply_1_6 x2 x3 z4 z5 I J = some t) (hC : (c_X8_apply_1_2 L xs d Q) t) : Rn L xs (d + 5) 116 51 [some (.ref 30), some (.ref 1), some (.int x2), some (.int x3), z4, z5] [] 94 (I, J, xrf) Q := by
  unfold f_X8_apply_1_6 at h
  refine Rn.go 2 (j' := 116) (pc' := 63) (ls' := [some (.ref 30), some (.ref 1), some (.int x2), some (.int x3), z4, z5]) (st' := [.int ((-2))]) (n' := 94) (M' := (I, J, xrf)) (fun f => rfl) ?_
  exact p_X8_apply_1_8 x2 x3 z4 z5 ((-2)) I J h hC
theorem p_X8_apply_1_5 {L : Nat} {xs : Nat → Int32} {d : Nat} {Q : xO → Prop} (x2 : Int32) (x3 : Int32) (z4 : Option Value) (z5 : Option Value) (s0 : Int32) (I : xI) (J : xJ) {t : (Int32 × (Option Value) × (Option Value) × (Option Value) × xI × xJ) ⊕ (Unit × xI × xJ)} (h : f_X8_apply_1_5 x2 x3 z4 z5 s0 I J = some t) (hC : (c_X8_apply_1_2 L xs d Q) t) : Rn L xs (d + 5) 116 48 [some (.ref 30), some (.ref 1), some (.int x2), some (.int x3), z4, z5] [.int s0] 94 (I, J, xrf) Q := by
  unfold f_X8_apply_1_5 at h
  refine Rn.fi 1 (c := s0 = 0) (p1 := 56) (l1 := [some (.ref 30), some (.ref 1), some (.int x2), some (.int x3), z4, z5]) (s1 := []) (n1 := 94) (M1 := (I, J, xrf)) (p2 := 51) (l2 := [some (.ref 30), some (.ref 1), some (.int x2), some (.int x3), z4, z5]) (s2 := []) (n2 := 94) (M2 := (I, J, xrf)) (fun f => rfl) (fun hc => ?_) (fun hc => ?_)
  · rw [if_pos hc] at h
    exact p_X8_apply_1_7 x2 x3 z4 z5 I J h hC
  · rw [if_neg hc] at h
    exact p_X8_apply_1_6 x2 x3 z4 z5 I J h hC
theorem p_X8_apply_1_4 {L : Nat} {xs : Nat → Int32} {d : Nat} {Q : xO → Prop} (x2 : Int32) (x3 : Int32) (z4 : Option Value) (z5 : Option Value) (I : xI) (J : xJ) {t : (Int32 × (Option Value) × (Option Value) × (Option Value) × xI × xJ) ⊕ (Unit × xI × xJ)} (h : f_X8_apply_1_4 x2 x3 z4 z5 I J = some t) (hC : (c_X8_apply_1_2 L xs d Q) t) : Rn L xs (d + 5) 116 41 [some (.ref 30), some (.ref 1), some (.int x2), some (.int x3), z4, z5] [] 94 (I, J, xrf) Q := by
  unfold f_X8_apply_1_4 at h
  refine Rn.go 4 (j' := 116) (pc' := 45) (ls' := [some (.ref 30), some (.ref 1), some (.int x2), some (.int x3), z4, z5]) (st' := [.int ((x2 + 3)), .ref 30]) (n' := 94) (M' := (I, J, xrf)) (fun f => rfl) ?_
  obtain ⟨o, ho, h⟩ := Option.bind_eq_some_iff.mp h
  refine Rn.call (d1 := d + 4) (j1 := 113) (ls1 := [some (.ref 30), some (.int ((x2 + 3)))]) (rest := []) (fun f => rfl) ?_
  refine p_X8_isOpen (d := d + 2) ((x2 + 3)) I J (t := o) ho ?_
  exact p_X8_apply_1_5 x2 x3 z4 z5 o.1 o.2.1 o.2.2 h hC
theorem p_X8_apply_1_3 {L : Nat} {xs : Nat → Int32} {d : Nat} {Q : xO → Prop} (x2 : Int32) (z3 : Option Value) (z4 : Option Value) (z5 : Option Value) (I : xI) (J : xJ) {t : (Int32 × (Option Value) × (Option Value) × (Option Value) × xI × xJ) ⊕ (Unit × xI × xJ)} (h : f_X8_apply_1_3 x2 z3 z4 z5 I J = some t) (hC : (c_X8_apply_1_2 L xs d Q) t) : Rn L xs (d + 5) 116 25 [some (.ref 30), some (.ref 1), some (.int x2), z3, z4, z5] [] 94 (I, J, xrf) Q := by
  unfold f_X8_apply_1_3 at h
  obtain ⟨hc, h⟩ := xif h
  refine Rn.ok 5 (c := x2 < 0 ∨ 400 ≤ x2.toNatClampNeg) (p1 := 34) (l1 := [some (.ref 30), some (.ref 1), some (.int x2), z3, z4, z5]) (s1 := [.int ((I 27 x2.toNatClampNeg))]) (n1 := 94) (M1 := (I, J, xrf)) (fun f => rfl) hc ?_
  refine Rn.fi 4 (c := (I 27 x2.toNatClampNeg) = 6) (p1 := 41) (l1 := [some (.ref 30), some (.ref 1), some (.int x2), some (.int ((I 27 x2.toNatClampNeg))), z4, z5]) (s1 := []) (n1 := 94) (M1 := (I, J, xrf)) (p2 := 114) (l2 := [some (.ref 30), some (.ref 1), some (.int x2), some (.int ((I 27 x2.toNatClampNeg))), z4, z5]) (s2 := []) (n2 := 94) (M2 := (I, J, xrf)) (fun f => rfl) (fun hc => ?_) (fun hc => ?_)
  · rw [if_pos hc] at h
    exact p_X8_apply_1_4 x2 ((I 27 x2.toNatClampNeg)) z4 z5 I J h hC
  · rw [if_neg hc] at h
    exact p_X8_apply_1_16 x2 ((I 27 x2.toNatClampNeg)) z4 z5 I J h hC
theorem q_X8_apply_1_2 {L : Nat} {xs : Nat → Int32} {d : Nat} {Q : xO → Prop} (x2 : Int32) (z3 : Option Value) (z4 : Option Value) (z5 : Option Value) (I : xI) (J : xJ) {t : (Int32 × (Option Value) × (Option Value) × (Option Value) × xI × xJ) ⊕ (Unit × xI × xJ)} (h : b_X8_apply_1_2 x2 z3 z4 z5 I J = some t) (hC : (c_X8_apply_1_2 L xs d Q) t) : Rn L xs (d + 5) 116 14 [some (.ref 30), some (.ref 1), some (.int x2), z3, z4, z5] [] 94 (I, J, xrf) Q := by
  unfold b_X8_apply_1_2 at h
  refine Rn.fi 5 (c := (I 26 4) ≤ x2) (p1 := 149) (l1 := [some (.ref 30), some (.ref 1), some (.int x2), z3, z4, z5]) (s1 := []) (n1 := 94) (M1 := (I, J, xrf)) (p2 := 25) (l2 := [some (.ref 30), some (.ref 1), some (.int x2), z3, z4, z5]) (s2 := []) (n2 := 94) (M2 := (I, J, xrf)) (fun f => rfl) (fun hc => ?_) (fun hc => ?_)
  · rw [if_pos hc] at h
    obtain ⟨t0, h0, rfl⟩ := Option.map_eq_some_iff.mp h
    exact p_X8_apply_1_22 x2 z3 z4 z5 I J h0 hC
  · rw [if_neg hc] at h
    exact p_X8_apply_1_3 x2 z3 z4 z5 I J h hC
theorem p_X8_apply_1_2 {L : Nat} {xs : Nat → Int32} {d : Nat} {Q : xO → Prop} (x2 : Int32) (z3 : Option Value) (z4 : Option Value) (z5 : Option Value) (I : xI) (J : xJ) {t : Unit × xI × xJ} (h : f_X8_apply_1_2 x2 z3 z4 z5 I J = some t) (hC : (c_X8_apply_1 Q) t) : Rn L xs (d + 5) 116 14 [some (.ref 30), some (.ref 1), some (.int x2), z3, z4, z5] [] 94 (I, J, xrf) Q := by
  unfold f_X8_apply_1_2 at h
  exact xloop_some (P := fun s : Int32 × (Option Value) × (Option Value) × (Option Value) × xI × xJ => Rn L xs (d + 5) 116 14 [some (.ref 30), some (.ref 1), some (.int s.1), s.2.1, s.2.2.1, s.2.2.2.1] [] 94 (s.2.2.2.2.1, s.2.2.2.2.2, xrf) Q) t (fun s ⟨s', hb, hp⟩ => q_X8_apply_1_2 s.1 s.2.1 s.2.2.1 s.2.2.2.1 s.2.2.2.2.1 s.2.2.2.2.2 hb hp) (fun s hb => q_X8_apply_1_2 s.1 s.2.1 s.2.2.1 s.2.2.2.1 s.2.2.2.2.1 s.2.2.2.2.2 hb hC) _ _ h
theorem p_X8_apply_1_1 {L : Nat} {xs : Nat → Int32} {d : Nat} {Q : xO → Prop} (I : xI) (J : xJ) {t : Unit × xI × xJ} (h : f_X8_apply_1_1 I J = some t) (hC : (c_X8_apply_1 Q) t) : Rn L xs (d + 5) 116 12 [some (.ref 30), some (.ref 1), none, none, none, none] [] 94 (I, J, xrf) Q := by
  unfold f_X8_apply_1_1 at h
  refine Rn.go 2 (j' := 116) (pc' := 14) (ls' := [some (.ref 30), some (.ref 1), some (.int 0), none, none, none]) (st' := []) (n' := 94) (M' := (I, J, xrf)) (fun f => rfl) ?_
  exact p_X8_apply_1_2 0 none none none I J h hC
theorem p_X8_apply_1_0 {L : Nat} {xs : Nat → Int32} {d : Nat} {Q : xO → Prop} (I : xI) (J : xJ) {t : Unit × xI × xJ} (h : f_X8_apply_1_0 I J = some t) (hC : (c_X8_apply_1 Q) t) : Rn L xs (d + 5) 116 0 [some (.ref 30), some (.ref 1), none, none, none, none] [] 94 (I, J, xrf) Q := by
  unfold f_X8_apply_1_0 at h
  refine Rn.go 5 (j' := 116) (pc' := 9) (ls' := [some (.ref 30), some (.ref 1), none, none, none, none]) (st' := [.int ((I 30 4)), .int ((I 30 3)), .ref 1]) (n' := 94) (M' := (I, J, xrf)) (fun f => rfl) ?_
  obtain ⟨o, ho, h⟩ := Option.bind_eq_some_iff.mp h
  refine Rn.call (d1 := d + 4) (j1 := 49) (ls1 := [some (.ref 1), some (.int ((I 30 3))), some (.int ((I 30 4))), none]) (rest := []) (fun f => rfl) ?_
  refine p_X5_begin (d := d + 2) ((I 30 3)) ((I 30 4)) I J (t := o) ho ?_
  exact p_X8_apply_1_1 o.2.1 o.2.2 h hC
theorem p_X8_apply_1 {L : Nat} {xs : Nat → Int32} {d : Nat} {Q : xO → Prop} (I : xI) (J : xJ) {t : Unit × xI × xJ} (h : f_X8_apply_1 I J = some t) (hC : Q (none, 94, (t.2.1, t.2.2, xrf))) : Rn L xs (d + 5) 116 0 [some (.ref 30), some (.ref 1), none, none, none, none] [] 94 (I, J, xrf) Q := p_X8_apply_1_0 I J h hC
/-! X4_forgetDeeds -/
def c_X4_forgetDeeds (Q : xO → Prop) (t : Unit × xI × xJ) : Prop := Q (none, 94, (t.2.1, t.2.2, xrf))
def f_X4_forgetDeeds_0 (I : xI) (J : xJ) : Option (Unit × xI × xJ) := some ((), (xup I 5 6 0), J)
def f_X4_forgetDeeds (I : xI) (J : xJ) : Option (Unit × xI × xJ) := f_X4_forgetDeeds_0 I J
theorem p_X4_forgetDeeds_0 {L : Nat} {xs : Nat → Int32} {d : Nat} {Q : xO → Prop} (I : xI) (J : xJ) {t : Unit × xI × xJ} (h : f_X4_forgetDeeds_0 I J = some t) (hC : (c_X4_forgetDeeds Q) t) : Rn L xs (d + 1) 43 0 [some (.ref 5)] [] 94 (I, J, xrf) Q := by
  unfold f_X4_forgetDeeds_0 at h
  cases h
  exact Rn.ret 4 (o := (none, 94, ((xup I 5 6 0), J, xrf))) (fun f => rfl) hC
theorem p_X4_forgetDeeds {L : Nat} {xs : Nat → Int32} {d : Nat} {Q : xO → Prop} (I : xI) (J : xJ) {t : Unit × xI × xJ} (h : f_X4_forgetDeeds I J = some t) (hC : Q (none, 94, (t.2.1, t.2.2, xrf))) : Rn L xs (d + 1) 43 0 [some (.ref 5)] [] 94 (I, J, xrf) Q := p_X4_forgetDeeds_0 I J h hC
/-! X4_emptySlots -/
def c_X4_emptySlots (Q : xO → Prop) (t : Unit × xI × xJ) : Prop := Q (none, 94, (t.2.1, t.2.2, xrf))
def c_X4_emptySlots_1 (L : Nat) (xs : Nat → Int32) (d : Nat) (Q : xO → Prop) (t : (Int32 × xI × xJ) ⊕ (Unit × xI × xJ)) : Prop := match t with
  | .inl s => Rn L xs (d + 1) 44 2 [some (.ref 5), some (.int s.1)] [] 94 (s.2.1, s.2.2, xrf) Q
  | .inr t => (c_X4_emptySlots Q) t
def f_X4_emptySlots_3 (x1 : Int32) (I : xI) (J : xJ) : Option (Unit × xI × xJ) := some ((), I, J)
def f_X4_emptySlots_2 (x1 : Int32) (I : xI) (J : xJ) : Option ((Int32 × xI × xJ) ⊕ (Unit × xI × xJ)) := if x1 < 0 ∨ 3 ≤ x1.toNatClampNeg then none else some (.inl (((x1 + 1)), ((xup I 11 x1.toNatClampNeg 0)), J))
def b_X4_emptySlots_1 (x1 : Int32) (I : xI) (J : xJ) : Option ((Int32 × xI × xJ) ⊕ (Unit × xI × xJ)) := if 3 ≤ x1 then ((f_X4_emptySlots_3 x1 I J)).map .inr else f_X4_emptySlots_2 x1 I J
def f_X4_emptySlots_1 (x1 : Int32) (I : xI) (J : xJ) : Option (Unit × xI × xJ) := xloop (fun s : Int32 × xI × xJ => b_X4_emptySlots_1 s.1 s.2.1 s.2.2) 5000 (x1, I, J)
def f_X4_emptySlots_0 (I : xI) (J : xJ) : Option (Unit × xI × xJ) := f_X4_emptySlots_1 0 I J
def f_X4_emptySlots (I : xI) (J : xJ) : Option (Unit × xI × xJ) := f_X4_emptySlots_0 I J
theorem p_X4_emptySlots_3 {L : Nat} {xs : Nat → Int32} {d : Nat} {Q : xO → Prop} (x1 : Int32) (I : xI) (J : xJ) {t : Unit × xI × xJ} (h : f_X4_emptySlots_3 x1 I J = some t) (hC : (c_X4_emptySlots Q) t) : Rn L xs (d + 1) 44 20 [some (.ref 5), some (.int x1)] [] 94 (I, J, xrf) Q := by
  unfold f_X4_emptySlots_3 at h
  cases h
  exact Rn.ret 1 (o := (none, 94, (I, J, xrf))) (fun f => rfl) hC
theorem p_X4_emptySlots_2 {L : Nat} {xs : Nat → Int32} {d : Nat} {Q : xO → Prop} (x1 : Int32) (I : xI) (J : xJ) {t : (Int32 × xI × xJ) ⊕ (Unit × xI × xJ)} (h : f_X4_emptySlots_2 x1 I J = some t) (hC : (c_X4_emptySlots_1 L xs d Q) t) : Rn L xs (d + 1) 44 7 [some (.ref 5), some (.int x1)] [] 94 (I, J, xrf) Q := by
  unfold f_X4_emptySlots_2 at h
  obtain ⟨hc, h⟩ := xif h
  refine Rn.ok 5 (c := x1 < 0 ∨ 3 ≤ x1.toNatClampNeg) (p1 := 14) (l1 := [some (.ref 5), some (.int x1)]) (s1 := []) (n1 := 94) (M1 := ((xup I 11 x1.toNatClampNeg 0), J, xrf)) (fun f => rfl) hc ?_
  refine Rn.go 2 (j' := 44) (pc' := 2) (ls' := [some (.ref 5), some (.int ((x1 + 1)))]) (st' := []) (n' := 94) (M' := ((xup I 11 x1.toNatClampNeg 0), J, xrf)) (fun f => rfl) ?_
  cases h; exact hC
theorem q_X4_emptySlots_1 {L : Nat} {xs : Nat → Int32} {d : Nat} {Q : xO → Prop} (x1 : Int32) (I : xI) (J : xJ) {t : (Int32 × xI × xJ) ⊕ (Unit × xI × xJ)} (h : b_X4_emptySlots_1 x1 I J = some t) (hC : (c_X4_emptySlots_1 L xs d Q) t) : Rn L xs (d + 1) 44 2 [some (.ref 5), some (.int x1)] [] 94 (I, J, xrf) Q := by
  unfold b_X4_emptySlots_1 at h
  refine Rn.fi 3 (c := 3 ≤ x1) (p1 := 20) (l1 := [some (.ref 5), some (.int x1)]) (s1 := []) (n1 := 94) (M1 := (I, J, xrf)) (p2 := 7) (l2 := [some (.ref 5), some (.int x1)]) (s2 := []) (n2 := 94) (M2 := (I, J, xrf)) (fun f => rfl) (fun hc => ?_) (fun hc => ?_)
  · rw [if_pos hc] at h
    obtain ⟨t0, h0, rfl⟩ := Option.map_eq_some_iff.mp h
    exact p_X4_emptySlots_3 x1 I J h0 hC
  · rw [if_neg hc] at h
    exact p_X4_emptySlots_2 x1 I J h hC
theorem p_X4_emptySlots_1 {L : Nat} {xs : Nat → Int32} {d : Nat} {Q : xO → Prop} (x1 : Int32) (I : xI) (J : xJ) {t : Unit × xI × xJ} (h : f_X4_emptySlots_1 x1 I J = some t) (hC : (c_X4_emptySlots Q) t) : Rn L xs (d + 1) 44 2 [some (.ref 5), some (.int x1)] [] 94 (I, J, xrf) Q := by
  unfold f_X4_emptySlots_1 at h
  exact xloop_some (P := fun s : Int32 × xI × xJ => Rn L xs (d + 1) 44 2 [some (.ref 5), some (.int s.1)] [] 94 (s.2.1, s.2.2, xrf) Q) t (fun s ⟨s', hb, hp⟩ => q_X4_emptySlots_1 s.1 s.2.1 s.2.2 hb hp) (fun s hb => q_X4_emptySlots_1 s.1 s.2.1 s.2.2 hb hC) _ _ h
theorem p_X4_emptySlots_0 {L : Nat} {xs : Nat → Int32} {d : Nat} {Q : xO → Prop} (I : xI) (J : xJ) {t : Unit × xI × xJ} (h : f_X4_emptySlots_0 I J = some t) (hC : (c_X4_emptySlots Q) t) : Rn L xs (d + 1) 44 0 [some (.ref 5), none] [] 94 (I, J, xrf) Q := by
  unfold f_X4_emptySlots_0 at h
  refine Rn.go 2 (j' := 44) (pc' := 2) (ls' := [some (.ref 5), some (.int 0)]) (st' := []) (n' := 94) (M' := (I, J, xrf)) (fun f => rfl) ?_
  exact p_X4_emptySlots_1 0 I J h hC
theorem p_X4_emptySlots {L : Nat} {xs : Nat → Int32} {d : Nat} {Q : xO → Prop} (I : xI) (J : xJ) {t : Unit × xI × xJ} (h : f_X4_emptySlots I J = some t) (hC : Q (none, 94, (t.2.1, t.2.2, xrf))) : Rn L xs (d + 1) 44 0 [some (.ref 5), none] [] 94 (I, J, xrf) Q := p_X4_emptySlots_0 I J h hC
/-! X11_read -/
def c_X11_read (Q : xO → Prop) (t : Int32 × xI × xJ) : Prop := Q ((some (.int t.1)), 94, (t.2.1, t.2.2, xrf))
def f_X11_read_5 (x1 : Int32) (I : xI) (J : xJ) : Option (Int32 × xI × xJ) := some (x1, (xup I 24 1 0), J)
def f_X11_read_4 (x1 : Int32) (I : xI) (J : xJ) : Option (Int32 × xI × xJ) := (f_X4_emptySlots I J).bind fun o => f_X11_read_5 x1 o.2.1 o.2.2
def f_X11_read_3 (x1 : Int32) (I : xI) (J : xJ) : Option (Int32 × xI × xJ) := (f_X4_forgetDeeds I J).bind fun o => f_X11_read_4 x1 o.2.1 o.2.2
def f_X11_read_2 (x1 : Int32) (I : xI) (J : xJ) : Option (Int32 × xI × xJ) := (f_X8_apply_1 I J).bind fun o => f_X11_read_3 x1 o.2.1 o.2.2
def f_X11_read_1 (s0 : Int32) (I : xI) (J : xJ) : Option (Int32 × xI × xJ) := if s0 = 0 then f_X11_read_2 s0 ((xup I 0 11 ((I 30 6)))) J else f_X11_read_5 s0 ((xup I 0 11 ((I 30 6)))) J
def f_X11_read_0 (I : xI) (J : xJ) : Option (Int32 × xI × xJ) := (f_X8_check I J).bind fun o => f_X11_read_1 o.1 o.2.1 o.2.2
def f_X11_read (I : xI) (J : xJ) : Option (Int32 × xI × xJ) := f_X11_read_0 I J
theorem p_X11_read_5 {L : Nat} {xs : Nat → Int32} {d : Nat} {Q : xO → Prop} (x1 : Int32) (I : xI) (J : xJ) {t : Int32 × xI × xJ} (h : f_X11_read_5 x1 I J = some t) (hC : (c_X11_read Q) t) : Rn L xs (d + 8) 140 48 [some (.ref 0), some (.int x1)] [] 94 (I, J, xrf) Q := by
  unfold f_X11_read_5 at h
  cases h
  exact Rn.ret 6 (o := ((some (.int x1)), 94, ((xup I 24 1 0), J, xrf))) (fun f => rfl) hC
theorem p_X11_read_4 {L : Nat} {xs : Nat → Int32} {d : Nat} {Q : xO → Prop} (x1 : Int32) (I : xI) (J : xJ) {t : Int32 × xI × xJ} (h : f_X11_read_4 x1 I J = some t) (hC : (c_X11_read Q) t) : Rn L xs (d + 8) 140 41 [some (.ref 0), some (.int x1)] [] 94 (I, J, xrf) Q := by
  unfold f_X11_read_4 at h
  refine Rn.go 2 (j' := 140) (pc' := 45) (ls' := [some (.ref 0), some (.int x1)]) (st' := [.ref 5]) (n' := 94) (M' := (I, J, xrf)) (fun f => rfl) ?_
  obtain ⟨o, ho, h⟩ := Option.bind_eq_some_iff.mp h
  refine Rn.call (d1 := d + 7) (j1 := 44) (ls1 := [some (.ref 5), none]) (rest := []) (fun f => rfl) ?_
  refine p_X4_emptySlots (d := d + 6) I J (t := o) ho ?_
  exact p_X11_read_5 x1 o.2.1 o.2.2 h hC
theorem p_X11_read_3 {L : Nat} {xs : Nat → Int32} {d : Nat} {Q : xO → Prop} (x1 : Int32) (I : xI) (J : xJ) {t : Int32 × xI × xJ} (h : f_X11_read_3 x1 I J = some t) (hC : (c_X11_read Q) t) : Rn L xs (d + 8) 140 34 [some (.ref 0), some (.int x1)] [] 94 (I, J, xrf) Q := by
  unfold f_X11_read_3 at h
  refine Rn.go 2 (j' := 140) (pc' := 38) (ls' := [some (.ref 0), some (.int x1)]) (st' := [.ref 5]) (n' := 94) (M' := (I, J, xrf)) (fun f => rfl) ?_
  obtain ⟨o, ho, h⟩ := Option.bind_eq_some_iff.mp h
  refine Rn.call (d1 := d + 7) (j1 := 43) (ls1 := [some (.ref 5)]) (rest := []) (fun f => rfl) ?_
  refine p_X4_forgetDeeds (d := d + 6) I J (t := o) ho ?_
  exact p_X11_read_4 x1 o.2.1 o.2.2 h hC
theorem p_X11_read_2 {L : Nat} {xs : Nat → Int32} {d : Nat} {Q : xO → Prop} (x1 : Int32) (I : xI) (J : xJ) {t : Int32 × xI × xJ} (h : f_X11_read_2 x1 I J = some t) (hC : (c_X11_read Q) t) : Rn L xs (d + 8) 140 23 [some (.ref 0), some (.int x1)] [] 94 (I, J, xrf) Q := by
  unfold f_X11_read_2 at h
  refine Rn.go 4 (j' := 140) (pc' := 31) (ls' := [some (.ref 0), some (.int x1)]) (st' := [.ref 1, .ref 30]) (n' := 94) (M' := (I, J, xrf)) (fun f => rfl) ?_
  obtain ⟨o, ho, h⟩ := Option.bind_eq_some_iff.mp h
  refine Rn.call (d1 := d + 7) (j1 := 116) (ls1 := [some (.ref 30), some (.ref 1), none, none, none, none]) (rest := []) (fun f => rfl) ?_
  refine p_X8_apply_1 (d := d + 2) I J (t := o) ho ?_
  exact p_X11_read_3 x1 o.2.1 o.2.2 h hC
theorem p_X11_read_1 {L : Nat} {xs : Nat → Int32} {d : Nat} {Q : xO → Prop} (s0 : Int32) (I : xI) (J : xJ) {t : Int32 × xI × xJ} (h : f_X11_read_1 s0 I J = some t) (hC : (c_X11_read Q) t) : Rn L xs (d + 8) 140 7 [some (.ref 0), none] [.int s0] 94 (I, J, xrf) Q := by
  unfold f_X11_read_1 at h
  refine Rn.fi 8 (c := s0 = 0) (p1 := 23) (l1 := [some (.ref 0), some (.int s0)]) (s1 := []) (n1 := 94) (M1 := ((xup I 0 11 ((I 30 6))), J, xrf)) (p2 := 48) (l2 := [some (.ref 0), some (.int s0)]) (s2 := []) (n2 := 94) (M2 := ((xup I 0 11 ((I 30 6))), J, xrf)) (fun f => rfl) (fun hc => ?_) (fun hc => ?_)
  · rw [if_pos hc] at h
    exact p_X11_read_2 s0 ((xup I 0 11 ((I 30 6)))) J h hC
  · rw [if_neg hc] at h
    exact p_X11_read_5 s0 ((xup I 0 11 ((I 30 6)))) J h hC
theorem p_X11_read_0 {L : Nat} {xs : Nat → Int32} {d : Nat} {Q : xO → Prop} (I : xI) (J : xJ) {t : Int32 × xI × xJ} (h : f_X11_read_0 I J = some t) (hC : (c_X11_read Q) t) : Rn L xs (d + 8) 140 0 [some (.ref 0), none] [] 94 (I, J, xrf) Q := by
  unfold f_X11_read_0 at h
  refine Rn.go 2 (j' := 140) (pc' := 4) (ls' := [some (.ref 0), none]) (st' := [.ref 30]) (n' := 94) (M' := (I, J, xrf)) (fun f => rfl) ?_
  obtain ⟨o, ho, h⟩ := Option.bind_eq_some_iff.mp h
  refine Rn.call (d1 := d + 7) (j1 := 106) (ls1 := [some (.ref 30), none]) (rest := []) (fun f => rfl) ?_
  refine p_X8_check (d := d + 0) I J (t := o) ho ?_
  exact p_X11_read_1 o.1 o.2.1 o.2.2 h hC
theorem p_X11_read {L : Nat} {xs : Nat → Int32} {d : Nat} {Q : xO → Prop} (I : xI) (J : xJ) {t : Int32 × xI × xJ} (h : f_X11_read I J = some t) (hC : Q ((some (.int t.1)), 94, (t.2.1, t.2.2, xrf))) : Rn L xs (d + 8) 140 0 [some (.ref 0), none] [] 94 (I, J, xrf) Q := p_X11_read_0 I J h hC
/-! X11_place -/
def c_X11_place (Q : xO → Prop) (t : Int32 × xI × xJ) : Prop := Q ((some (.int t.1)), 94, (t.2.1, t.2.2, xrf))
def f_X11_place_0 (I : xI) (J : xJ) : Option (Int32 × xI × xJ) := some ((I 0 11), I, J)
def f_X11_place (I : xI) (J : xJ) : Option (Int32 × xI × xJ) := f_X11_place_0 I J
theorem p_X11_place_0 {L : Nat} {xs : Nat → Int32} {d : Nat} {Q : xO → Prop} (I : xI) (J : xJ) {t : Int32 × xI × xJ} (h : f_X11_place_0 I J = some t) (hC : (c_X11_place Q) t) : Rn L xs (d + 1) 141 0 [some (.ref 0)] [] 94 (I, J, xrf) Q := by
  unfold f_X11_place_0 at h
  cases h
  exact Rn.ret 3 (o := ((some (.int ((I 0 11)))), 94, (I, J, xrf))) (fun f => rfl) hC
theorem p_X11_place {L : Nat} {xs : Nat → Int32} {d : Nat} {Q : xO → Prop} (I : xI) (J : xJ) {t : Int32 × xI × xJ} (h : f_X11_place I J = some t) (hC : Q ((some (.int t.1)), 94, (t.2.1, t.2.2, xrf))) : Rn L xs (d + 1) 141 0 [some (.ref 0)] [] 94 (I, J, xrf) Q := p_X11_place_0 I J h hC
/-! X5_targetOf -/
def c_X5_targetOf (Q : xO → Prop) (t : Int32 × xI × xJ) : Prop := Q ((some (.int t.1)), 94, (t.2.1, t.2.2, xrf))
def f_X5_targetOf_6 (x1 : Int32) (x2 : Int32) (s0 : Int32) (I : xI) (J : xJ) : Option (Int32 × xI × xJ) := some (s0, I, J)
def f_X5_targetOf_5 (x1 : Int32) (x2 : Int32) (I : xI) (J : xJ) : Option (Int32 × xI × xJ) := f_X5_targetOf_6 x1 x2 ((-2)) I J
def f_X5_targetOf_4 (x1 : Int32) (x2 : Int32) (I : xI) (J : xJ) : Option (Int32 × xI × xJ) := if ((x1 * 4) + x2) < 0 ∨ 24 ≤ (((x1 * 4) + x2)).toNatClampNeg then none else f_X5_targetOf_6 x1 x2 ((I 2 (((x1 * 4) + x2)).toNatClampNeg)) I J
def f_X5_targetOf_3 (x1 : Int32) (x2 : Int32) (I : xI) (J : xJ) : Option (Int32 × xI × xJ) := if (I 1 1) ≤ x2 then f_X5_targetOf_5 x1 x2 I J else f_X5_targetOf_4 x1 x2 I J
def f_X5_targetOf_2 (x1 : Int32) (x2 : Int32) (I : xI) (J : xJ) : Option (Int32 × xI × xJ) := if x2 < 0 then f_X5_targetOf_5 x1 x2 I J else f_X5_targetOf_3 x1 x2 I J
def f_X5_targetOf_1 (x1 : Int32) (x2 : Int32) (I : xI) (J : xJ) : Option (Int32 × xI × xJ) := if (I 1 0) ≤ x1 then f_X5_targetOf_5 x1 x2 I J else f_X5_targetOf_2 x1 x2 I J
def f_X5_targetOf_0 (x1 : Int32) (x2 : Int32) (I : xI) (J : xJ) : Option (Int32 × xI × xJ) := if x1 < 0 then f_X5_targetOf_5 x1 x2 I J else f_X5_targetOf_1 x1 x2 I J
def f_X5_targetOf (x1 : Int32) (x2 : Int32) (I : xI) (J : xJ) : Option (Int32 × xI × xJ) := f_X5_targetOf_0 x1 x2 I J
theorem p_X5_targetOf_6 {L : Nat} {xs : Nat → Int32} {d : Nat} {Q : xO → Prop} (x1 : Int32) (x2 : Int32) (s0 : Int32) (I : xI) (J : xJ) {t : Int32 × xI × xJ} (h : f_X5_targetOf_6 x1 x2 s0 I J = some t) (hC : (c_X5_targetOf Q) t) : Rn L xs (d + 1) 57 39 [some (.ref 1), some (.int x1), some (.int x2)] [.int s0] 94 (I, J, xrf) Q := by
  unfold f_X5_targetOf_6 at h
  cases h
  exact Rn.ret 1 (o := ((some (.int s0)), 94, (I, J, xrf))) (fun f => rfl) hC
theorem p_X5_targetOf_5 {L : Nat} {xs : Nat → Int32} {d : Nat} {Q : xO → Prop} (x1 : Int32) (x2 : Int32) (I : xI) (J : xJ) {t : Int32 × xI × xJ} (h : f_X5_targetOf_5 x1 x2 I J = some t) (hC : (c_X5_targetOf Q) t) : Rn L xs (d + 1) 57 37 [some (.ref 1), some (.int x1), some (.int x2)] [] 94 (I, J, xrf) Q := by
  unfold f_X5_targetOf_5 at h
  refine Rn.go 1 (j' := 57) (pc' := 39) (ls' := [some (.ref 1), some (.int x1), some (.int x2)]) (st' := [.int ((-2))]) (n' := 94) (M' := (I, J, xrf)) (fun f => rfl) ?_
  exact p_X5_targetOf_6 x1 x2 ((-2)) I J h hC
theorem p_X5_targetOf_4 {L : Nat} {xs : Nat → Int32} {d : Nat} {Q : xO → Prop} (x1 : Int32) (x2 : Int32) (I : xI) (J : xJ) {t : Int32 × xI × xJ} (h : f_X5_targetOf_4 x1 x2 I J = some t) (hC : (c_X5_targetOf Q) t) : Rn L xs (d + 1) 57 24 [some (.ref 1), some (.int x1), some (.int x2)] [] 94 (I, J, xrf) Q := by
  unfold f_X5_targetOf_4 at h
  obtain ⟨hc, h⟩ := xif h
  refine Rn.ok 8 (c := ((x1 * 4) + x2) < 0 ∨ 24 ≤ (((x1 * 4) + x2)).toNatClampNeg) (p1 := 34) (l1 := [some (.ref 1), some (.int x1), some (.int x2)]) (s1 := [.int ((I 2 (((x1 * 4) + x2)).toNatClampNeg))]) (n1 := 94) (M1 := (I, J, xrf)) (fun f => rfl) hc ?_
  refine Rn.go 1 (j' := 57) (pc' := 39) (ls' := [some (.ref 1), some (.int x1), some (.int x2)]) (st' := [.int ((I 2 (((x1 * 4) + x2)).toNatClampNeg))]) (n' := 94) (M' := (I, J, xrf)) (fun f => rfl) ?_
  exact p_X5_targetOf_6 x1 x2 ((I 2 (((x1 * 4) + x2)).toNatClampNeg)) I J h hC
theorem p_X5_targetOf_3 {L : Nat} {xs : Nat → Int32} {d : Nat} {Q : xO → Prop} (x1 : Int32) (x2 : Int32) (I : xI) (J : xJ) {t : Int32 × xI × xJ} (h : f_X5_targetOf_3 x1 x2 I J = some t) (hC : (c_X5_targetOf Q) t) : Rn L xs (d + 1) 57 16 [some (.ref 1), some (.int x1), some (.int x2)] [] 94 (I, J, xrf) Q := by
  unfold f_X5_targetOf_3 at h
  refine Rn.fi 4 (c := (I 1 1) ≤ x2) (p1 := 37) (l1 := [some (.ref 1), some (.int x1), some (.int x2)]) (s1 := []) (n1 := 94) (M1 := (I, J, xrf)) (p2 := 24) (l2 := [some (.ref 1), some (.int x1), some (.int x2)]) (s2 := []) (n2 := 94) (M2 := (I, J, xrf)) (fun f => rfl) (fun hc => ?_) (fun hc => ?_)
  · rw [if_pos hc] at h
    exact p_X5_targetOf_5 x1 x2 I J h hC
  · rw [if_neg hc] at h
    exact p_X5_targetOf_4 x1 x2 I J h hC
theorem p_X5_targetOf_2 {L : Nat} {xs : Nat → Int32} {d : Nat} {Q : xO → Prop} (x1 : Int32) (x2 : Int32) (I : xI) (J : xJ) {t : Int32 × xI × xJ} (h : f_X5_targetOf_2 x1 x2 I J = some t) (hC : (c_X5_targetOf Q) t) : Rn L xs (d + 1) 57 12 [some (.ref 1), some (.int x1), some (.int x2)] [] 94 (I, J, xrf) Q := by
  unfold f_X5_targetOf_2 at h
  refine Rn.fi 2 (c := x2 < 0) (p1 := 37) (l1 := [some (.ref 1), some (.int x1), some (.int x2)]) (s1 := []) (n1 := 94) (M1 := (I, J, xrf)) (p2 := 16) (l2 := [some (.ref 1), some (.int x1), some (.int x2)]) (s2 := []) (n2 := 94) (M2 := (I, J, xrf)) (fun f => rfl) (fun hc => ?_) (fun hc => ?_)
  · rw [if_pos hc] at h
    exact p_X5_targetOf_5 x1 x2 I J h hC
  · rw [if_neg hc] at h
    exact p_X5_targetOf_3 x1 x2 I J h hC
theorem p_X5_targetOf_1 {L : Nat} {xs : Nat → Int32} {d : Nat} {Q : xO → Prop} (x1 : Int32) (x2 : Int32) (I : xI) (J : xJ) {t : Int32 × xI × xJ} (h : f_X5_targetOf_1 x1 x2 I J = some t) (hC : (c_X5_targetOf Q) t) : Rn L xs (d + 1) 57 4 [some (.ref 1), some (.int x1), some (.int x2)] [] 94 (I, J, xrf) Q := by
  unfold f_X5_targetOf_1 at h
  refine Rn.fi 4 (c := (I 1 0) ≤ x1) (p1 := 37) (l1 := [some (.ref 1), some (.int x1), some (.int x2)]) (s1 := []) (n1 := 94) (M1 := (I, J, xrf)) (p2 := 12) (l2 := [some (.ref 1), some (.int x1), some (.int x2)]) (s2 := []) (n2 := 94) (M2 := (I, J, xrf)) (fun f => rfl) (fun hc => ?_) (fun hc => ?_)
  · rw [if_pos hc] at h
    exact p_X5_targetOf_5 x1 x2 I J h hC
  · rw [if_neg hc] at h
    exact p_X5_targetOf_2 x1 x2 I J h hC
theorem p_X5_targetOf_0 {L : Nat} {xs : Nat → Int32} {d : Nat} {Q : xO → Prop} (x1 : Int32) (x2 : Int32) (I : xI) (J : xJ) {t : Int32 × xI × xJ} (h : f_X5_targetOf_0 x1 x2 I J = some t) (hC : (c_X5_targetOf Q) t) : Rn L xs (d + 1) 57 0 [some (.ref 1), some (.int x1), some (.int x2)] [] 94 (I, J, xrf) Q := by
  unfold f_X5_targetOf_0 at h
  refine Rn.fi 2 (c := x1 < 0) (p1 := 37) (l1 := [some (.ref 1), some (.int x1), some (.int x2)]) (s1 := []) (n1 := 94) (M1 := (I, J, xrf)) (p2 := 4) (l2 := [some (.ref 1), some (.int x1), some (.int x2)]) (s2 := []) (n2 := 94) (M2 := (I, J, xrf)) (fun f => rfl) (fun hc => ?_) (fun hc => ?_)
  · rw [if_pos hc] at h
    exact p_X5_targetOf_5 x1 x2 I J h hC
  · rw [if_neg hc] at h
    exact p_X5_targetOf_1 x1 x2 I J h hC
theorem p_X5_targetOf {L : Nat} {xs : Nat → Int32} {d : Nat} {Q : xO → Prop} (x1 : Int32) (x2 : Int32) (I : xI) (J : xJ) {t : Int32 × xI × xJ} (h : f_X5_targetOf x1 x2 I J = some t) (hC : Q ((some (.int t.1)), 94, (t.2.1, t.2.2, xrf))) : Rn L xs (d + 1) 57 0 [some (.ref 1), some (.int x1), some (.int x2)] [] 94 (I, J, xrf) Q := p_X5_targetOf_0 x1 x2 I J h hC
/-! X5_answerOf -/
def c_X5_answerOf (Q : xO → Prop) (t : Int32 × xI × xJ) : Prop := Q ((some (.int t.1)), 94, (t.2.1, t.2.2, xrf))
def f_X5_answerOf_6 (x1 : Int32) (x2 : Int32) (s0 : Int32) (I : xI) (J : xJ) : Option (Int32 × xI × xJ) := some (s0, I, J)
def f_X5_answerOf_5 (x1 : Int32) (x2 : Int32) (I : xI) (J : xJ) : Option (Int32 × xI × xJ) := f_X5_answerOf_6 x1 x2 ((-2)) I J
def f_X5_answerOf_4 (x1 : Int32) (x2 : Int32) (I : xI) (J : xJ) : Option (Int32 × xI × xJ) := if ((x1 * 4) + x2) < 0 ∨ 24 ≤ (((x1 * 4) + x2)).toNatClampNeg then none else f_X5_answerOf_6 x1 x2 ((I 3 (((x1 * 4) + x2)).toNatClampNeg)) I J
def f_X5_answerOf_3 (x1 : Int32) (x2 : Int32) (I : xI) (J : xJ) : Option (Int32 × xI × xJ) := if (I 1 1) ≤ x2 then f_X5_answerOf_5 x1 x2 I J else f_X5_answerOf_4 x1 x2 I J
def f_X5_answerOf_2 (x1 : Int32) (x2 : Int32) (I : xI) (J : xJ) : Option (Int32 × xI × xJ) := if x2 < 0 then f_X5_answerOf_5 x1 x2 I J else f_X5_answerOf_3 x1 x2 I J
def f_X5_answerOf_1 (x1 : Int32) (x2 : Int32) (I : xI) (J : xJ) : Option (Int32 × xI × xJ) := if (I 1 0) ≤ x1 then f_X5_answerOf_5 x1 x2 I J else f_X5_answerOf_2 x1 x2 I J
def f_X5_answerOf_0 (x1 : Int32) (x2 : Int32) (I : xI) (J : xJ) : Option (Int32 × xI × xJ) := if x1 < 0 then f_X5_answerOf_5 x1 x2 I J else f_X5_answerOf_1 x1 x2 I J
def f_X5_answerOf (x1 : Int32) (x2 : Int32) (I : xI) (J : xJ) : Option (Int32 × xI × xJ) := f_X5_answerOf_0 x1 x2 I J
theorem p_X5_answerOf_6 {L : Nat} {xs : Nat → Int32} {d : Nat} {Q : xO → Prop} (x1 : Int32) (x2 : Int32) (s0 : Int32) (I : xI) (J : xJ) {t : Int32 × xI × xJ} (h : f_X5_answerOf_6 x1 x2 s0 I J = some t) (hC : (c_X5_answerOf Q) t) : Rn L xs (d + 1) 58 39 [some (.ref 1), some (.int x1), some (.int x2)] [.int s0] 94 (I, J, xrf) Q := by
  unfold f_X5_answerOf_6 at h
  cases h
  exact Rn.ret 1 (o := ((some (.int s0)), 94, (I, J, xrf))) (fun f => rfl) hC
theorem p_X5_answerOf_5 {L : Nat} {xs : Nat → Int32} {d : Nat} {Q : xO → Prop} (x1 : Int32) (x2 : Int32) (I : xI) (J : xJ) {t : Int32 × xI × xJ} (h : f_X5_answerOf_5 x1 x2 I J = some t) (hC : (c_X5_answerOf Q) t) : Rn L xs (d + 1) 58 37 [some (.ref 1), some (.int x1), some (.int x2)] [] 94 (I, J, xrf) Q := by
  unfold f_X5_answerOf_5 at h
  refine Rn.go 1 (j' := 58) (pc' := 39) (ls' := [some (.ref 1), some (.int x1), some (.int x2)]) (st' := [.int ((-2))]) (n' := 94) (M' := (I, J, xrf)) (fun f => rfl) ?_
  exact p_X5_answerOf_6 x1 x2 ((-2)) I J h hC
theorem p_X5_answerOf_4 {L : Nat} {xs : Nat → Int32} {d : Nat} {Q : xO → Prop} (x1 : Int32) (x2 : Int32) (I : xI) (J : xJ) {t : Int32 × xI × xJ} (h : f_X5_answerOf_4 x1 x2 I J = some t) (hC : (c_X5_answerOf Q) t) : Rn L xs (d + 1) 58 24 [some (.ref 1), some (.int x1), some (.int x2)] [] 94 (I, J, xrf) Q := by
  unfold f_X5_answerOf_4 at h
  obtain ⟨hc, h⟩ := xif h
  refine Rn.ok 8 (c := ((x1 * 4) + x2) < 0 ∨ 24 ≤ (((x1 * 4) + x2)).toNatClampNeg) (p1 := 34) (l1 := [some (.ref 1), some (.int x1), some (.int x2)]) (s1 := [.int ((I 3 (((x1 * 4) + x2)).toNatClampNeg))]) (n1 := 94) (M1 := (I, J, xrf)) (fun f => rfl) hc ?_
  refine Rn.go 1 (j' := 58) (pc' := 39) (ls' := [some (.ref 1), some (.int x1), some (.int x2)]) (st' := [.int ((I 3 (((x1 * 4) + x2)).toNatClampNeg))]) (n' := 94) (M' := (I, J, xrf)) (fun f => rfl) ?_
  exact p_X5_answerOf_6 x1 x2 ((I 3 (((x1 * 4) + x2)).toNatClampNeg)) I J h hC
theorem p_X5_answerOf_3 {L : Nat} {xs : Nat → Int32} {d : Nat} {Q : xO → Prop} (x1 : Int32) (x2 : Int32) (I : xI) (J : xJ) {t : Int32 × xI × xJ} (h : f_X5_answerOf_3 x1 x2 I J = some t) (hC : (c_X5_answerOf Q) t) : Rn L xs (d + 1) 58 16 [some (.ref 1), some (.int x1), some (.int x2)] [] 94 (I, J, xrf) Q := by
  unfold f_X5_answerOf_3 at h
  refine Rn.fi 4 (c := (I 1 1) ≤ x2) (p1 := 37) (l1 := [some (.ref 1), some (.int x1), some (.int x2)]) (s1 := []) (n1 := 94) (M1 := (I, J, xrf)) (p2 := 24) (l2 := [some (.ref 1), some (.int x1), some (.int x2)]) (s2 := []) (n2 := 94) (M2 := (I, J, xrf)) (fun f => rfl) (fun hc => ?_) (fun hc => ?_)
  · rw [if_pos hc] at h
    exact p_X5_answerOf_5 x1 x2 I J h hC
  · rw [if_neg hc] at h
    exact p_X5_answerOf_4 x1 x2 I J h hC
theorem p_X5_answerOf_2 {L : Nat} {xs : Nat → Int32} {d : Nat} {Q : xO → Prop} (x1 : Int32) (x2 : Int32) (I : xI) (J : xJ) {t : Int32 × xI × xJ} (h : f_X5_answerOf_2 x1 x2 I J = some t) (hC : (c_X5_answerOf Q) t) : Rn L xs (d + 1) 58 12 [some (.ref 1), some (.int x1), some (.int x2)] [] 94 (I, J, xrf) Q := by
  unfold f_X5_answerOf_2 at h
  refine Rn.fi 2 (c := x2 < 0) (p1 := 37) (l1 := [some (.ref 1), some (.int x1), some (.int x2)]) (s1 := []) (n1 := 94) (M1 := (I, J, xrf)) (p2 := 16) (l2 := [some (.ref 1), some (.int x1), some (.int x2)]) (s2 := []) (n2 := 94) (M2 := (I, J, xrf)) (fun f => rfl) (fun hc => ?_) (fun hc => ?_)
  · rw [if_pos hc] at h
    exact p_X5_answerOf_5 x1 x2 I J h hC
  · rw [if_neg hc] at h
    exact p_X5_answerOf_3 x1 x2 I J h hC
theorem p_X5_answerOf_1 {L : Nat} {xs : Nat → Int32} {d : Nat} {Q : xO → Prop} (x1 : Int32) (x2 : Int32) (I : xI) (J : xJ) {t : Int32 × xI × xJ} (h : f_X5_answerOf_1 x1 x2 I J = some t) (hC : (c_X5_answerOf Q) t) : Rn L xs (d + 1) 58 4 [some (.ref 1), some (.int x1), some (.int x2)] [] 94 (I, J, xrf) Q := by
  unfold f_X5_answerOf_1 at h
  refine Rn.fi 4 (c := (I 1 0) ≤ x1) (p1 := 37) (l1 := [some (.ref 1), some (.int x1), some (.int x2)]) (s1 := []) (n1 := 94) (M1 := (I, J, xrf)) (p2 := 12) (l2 := [some (.ref 1), some (.int x1), some (.int x2)]) (s2 := []) (n2 := 94) (M2 := (I, J, xrf)) (fun f => rfl) (fun hc => ?_) (fun hc => ?_)
  · rw [if_pos hc] at h
    exact p_X5_answerOf_5 x1 x2 I J h hC
  · rw [if_neg hc] at h
    exact p_X5_answerOf_2 x1 x2 I J h hC
theorem p_X5_answerOf_0 {L : Nat} {xs : Nat → Int32} {d : Nat} {Q : xO → Prop} (x1 : Int32) (x2 : Int32) (I : xI) (J : xJ) {t : Int32 × xI × xJ} (h : f_X5_answerOf_0 x1 x2 I J = some t) (hC : (c_X5_answerOf Q) t) : Rn L xs (d + 1) 58 0 [some (.ref 1), some (.int x1), some (.int x2)] [] 94 (I, J, xrf) Q := by
  unfold f_X5_answerOf_0 at h
  refine Rn.fi 2 (c := x1 < 0) (p1 := 37) (l1 := [some (.ref 1), some (.int x1), some (.int x2)]) (s1 := []) (n1 := 94) (M1 := (I, J, xrf)) (p2 := 4) (l2 := [some (.ref 1), some (.int x1), some (.int x2)]) (s2 := []) (n2 := 94) (M2 := (I, J, xrf)) (fun f => rfl) (fun hc => ?_) (fun hc => ?_)
  · rw [if_pos hc] at h
    exact p_X5_answerOf_5 x1 x2 I J h hC
  · rw [if_neg hc] at h
    exact p_X5_answerOf_1 x1 x2 I J h hC
theorem p_X5_answerOf {L : Nat} {xs : Nat → Int32} {d : Nat} {Q : xO → Prop} (x1 : Int32) (x2 : Int32) (I : xI) (J : xJ) {t : Int32 × xI × xJ} (h : f_X5_answerOf x1 x2 I J = some t) (hC : Q ((some (.int t.1)), 94, (t.2.1, t.2.2, xrf))) : Rn L xs (d + 1) 58 0 [some (.ref 1), some (.int x1), some (.int x2)] [] 94 (I, J, xrf) Q := p_X5_answerOf_0 x1 x2 I J h hC
/-! X4_keep -/
def c_X4_keep (Q : xO → Prop) (t : Unit × xI × xJ) : Prop := Q (none, 94, (t.2.1, t.2.2, xrf))
def f_X4_keep_0 (x1 : Int32) (x2 : Int32) (x3 : Int32) (x4 : Int32) (I : xI) (J : xJ) : Option (Unit × xI × xJ) := if (I 5 5) < 0 ∨ 40 ≤ ((I 5 5)).toNatClampNeg then none else if (((xup I 6 ((I 5 5)).toNatClampNeg x1)) 5 5) < 0 ∨ 40 ≤ ((((xup I 6 ((I 5 5)).toNatClampNeg x1)) 5 5)).toNatClampNeg then none else if (((xup ((xup I 6 ((I 5 5)).toNatClampNeg x1)) 7 ((((xup I 6 ((I 5 5)).toNatClampNeg x1)) 5 5)).toNatClampNeg x2)) 5 5) < 0 ∨ 40 ≤ ((((xup ((xup I 6 ((I 5 5)).toNatClampNeg x1)) 7 ((((xup I 6 ((I 5 5)).toNatClampNeg x1)) 5 5)).toNatClampNeg x2)) 5 5)).toNatClampNeg then none else if (((xup ((xup ((xup I 6 ((I 5 5)).toNatClampNeg x1)) 7 ((((xup I 6 ((I 5 5)).toNatClampNeg x1)) 5 5)).toNatClampNeg x2)) 8 ((((xup ((xup I 6 ((I 5 5)).toNatClampNeg x1)) 7 ((((xup I 6 ((I 5 5)).toNatClampNeg x1)) 5 5)).toNatClampNeg x2)) 5 5)).toNatClampNeg x3)) 5 5) < 0 ∨ 40 ≤ ((((xup ((xup ((xup I 6 ((I 5 5)).toNatClampNeg x1)) 7 ((((xup I 6 ((I 5 5)).toNatClampNeg x1)) 5 5)).toNatClampNeg x2)) 8 ((((xup ((xup I 6 ((I 5 5)).toNatClampNeg x1)) 7 ((((xup I 6 ((I 5 5)).toNatClampNeg x1)) 5 5)).toNatClampNeg x2)) 5 5)).toNatClampNeg x3)) 5 5)).toNatClampNeg then none else some ((), (xup ((xup ((xup ((xup ((xup ((xup I 6 ((I 5 5)).toNatClampNeg x1)) 7 ((((xup I 6 ((I 5 5)).toNatClampNeg x1)) 5 5)).toNatClampNeg x2)) 8 ((((xup ((xup I 6 ((I 5 5)).toNatClampNeg x1)) 7 ((((xup I 6 ((I 5 5)).toNatClampNeg x1)) 5 5)).toNatClampNeg x2)) 5 5)).toNatClampNeg x3)) 9 ((((xup ((xup ((xup I 6 ((I 5 5)).toNatClampNeg x1)) 7 ((((xup I 6 ((I 5 5)).toNatClampNeg x1)) 5 5)).toNatClampNeg x2)) 8 ((((xup ((xup I 6 ((I 5 5)).toNatClampNeg x1)) 7 ((((xup I 6 ((I 5 5)).toNatClampNeg x1)) 5 5)).toNatClampNeg x2)) 5 5)).toNatClampNeg x3)) 5 5)).toNatClampNeg x4)) 5 5 ((((((xup ((xup ((xup ((xup I 6 ((I 5 5)).toNatClampNeg x1)) 7 ((((xup I 6 ((I 5 5)).toNatClampNeg x1)) 5 5)).toNatClampNeg x2)) 8 ((((xup ((xup I 6 ((I 5 5)).toNatClampNeg x1)) 7 ((((xup I 6 ((I 5 5)).toNatClampNeg x1)) 5 5)).toNatClampNeg x2)) 5 5)).toNatClampNeg x3)) 9 ((((xup ((xup ((xup I 6 ((I 5 5)).toNatClampNeg x1)) 7 ((((xup I 6 ((I 5 5)).toNatClampNeg x1)) 5 5)).toNatClampNeg x2)) 8 ((((xup ((xup I 6 ((I 5 5)).toNatClampNeg x1)) 7 ((((xup I 6 ((I 5 5)).toNatClampNeg x1)) 5 5)).toNatClampNeg x2)) 5 5)).toNatClampNeg x3)) 5 5)).toNatClampNeg x4)) 5 5) + 1) - ((((xup ((xup ((xup ((xup I 6 ((I 5 5)).toNatClampNeg x1)) 7 ((((xup I 6 ((I 5 5)).toNatClampNeg x1)) 5 5)).toNatClampNeg x2)) 8 ((((xup ((xup I 6 ((I 5 5)).toNatClampNeg x1)) 7 ((((xup I 6 ((I 5 5)).toNatClampNeg x1)) 5 5)).toNatClampNeg x2)) 5 5)).toNatClampNeg x3)) 9 ((((xup ((xup ((xup I 6 ((I 5 5)).toNatClampNeg x1)) 7 ((((xup I 6 ((I 5 5)).toNatClampNeg x1)) 5 5)).toNatClampNeg x2)) 8 ((((xup ((xup I 6 ((I 5 5)).toNatClampNeg x1)) 7 ((((xup I 6 ((I 5 5)).toNatClampNeg x1)) 5 5)).toNatClampNeg x2)) 5 5)).toNatClampNeg x3)) 5 5)).toNatClampNeg x4)) 5 5) + 1) / 40 * 40)))) 5 6 ((if 40 < ((((xup ((xup ((xup ((xup ((xup I 6 ((I 5 5)).toNatClampNeg x1)) 7 ((((xup I 6 ((I 5 5)).toNatClampNeg x1)) 5 5)).toNatClampNeg x2)) 8 ((((xup ((xup I 6 ((I 5 5)).toNatClampNeg x1)) 7 ((((xup I 6 ((I 5 5)).toNatClampNeg x1)) 5 5)).toNatClampNeg x2)) 5 5)).toNatClampNeg x3)) 9 ((((xup ((xup ((xup I 6 ((I 5 5)).toNatClampNeg x1)) 7 ((((xup I 6 ((I 5 5)).toNatClampNeg x1)) 5 5)).toNatClampNeg x2)) 8 ((((xup ((xup I 6 ((I 5 5)).toNatClampNeg x1)) 7 ((((xup I 6 ((I 5 5)).toNatClampNeg x1)) 5 5)).toNatClampNeg x2)) 5 5)).toNatClampNeg x3)) 5 5)).toNatClampNeg x4)) 5 5 ((((((xup ((xup ((xup ((xup I 6 ((I 5 5)).toNatClampNeg x1)) 7 ((((xup I 6 ((I 5 5)).toNatClampNeg x1)) 5 5)).toNatClampNeg x2)) 8 ((((xup ((xup I 6 ((I 5 5)).toNatClampNeg x1)) 7 ((((xup I 6 ((I 5 5)).toNatClampNeg x1)) 5 5)).toNatClampNeg x2)) 5 5)).toNatClampNeg x3)) 9 ((((xup ((xup ((xup I 6 ((I 5 5)).toNatClampNeg x1)) 7 ((((xup I 6 ((I 5 5)).toNatClampNeg x1)) 5 5)).toNatClampNeg x2)) 8 ((((xup ((xup I 6 ((I 5 5)).toNatClampNeg x1)) 7 ((((xup I 6 ((I 5 5)).toNatClampNeg x1)) 5 5)).toNatClampNeg x2)) 5 5)).toNatClampNeg x3)) 5 5)).toNatClampNeg x4)) 5 5) + 1) - ((((xup ((xup ((xup ((xup I 6 ((I 5 5)).toNatClampNeg x1)) 7 ((((xup I 6 ((I 5 5)).toNatClampNeg x1)) 5 5)).toNatClampNeg x2)) 8 ((((xup ((xup I 6 ((I 5 5)).toNatClampNeg x1)) 7 ((((xup I 6 ((I 5 5)).toNatClampNeg x1)) 5 5)).toNatClampNeg x2)) 5 5)).toNatClampNeg x3)) 9 ((((xup ((xup ((xup I 6 ((I 5 5)).toNatClampNeg x1)) 7 ((((xup I 6 ((I 5 5)).toNatClampNeg x1)) 5 5)).toNatClampNeg x2)) 8 ((((xup ((xup I 6 ((I 5 5)).toNatClampNeg x1)) 7 ((((xup I 6 ((I 5 5)).toNatClampNeg x1)) 5 5)).toNatClampNeg x2)) 5 5)).toNatClampNeg x3)) 5 5)).toNatClampNeg x4)) 5 5) + 1) / 40 * 40)))) 5 6) + 1) then 40 else ((((xup ((xup ((xup ((xup ((xup I 6 ((I 5 5)).toNatClampNeg x1)) 7 ((((xup I 6 ((I 5 5)).toNatClampNeg x1)) 5 5)).toNatClampNeg x2)) 8 ((((xup ((xup I 6 ((I 5 5)).toNatClampNeg x1)) 7 ((((xup I 6 ((I 5 5)).toNatClampNeg x1)) 5 5)).toNatClampNeg x2)) 5 5)).toNatClampNeg x3)) 9 ((((xup ((xup ((xup I 6 ((I 5 5)).toNatClampNeg x1)) 7 ((((xup I 6 ((I 5 5)).toNatClampNeg x1)) 5 5)).toNatClampNeg x2)) 8 ((((xup ((xup I 6 ((I 5 5)).toNatClampNeg x1)) 7 ((((xup I 6 ((I 5 5)).toNatClampNeg x1)) 5 5)).toNatClampNeg x2)) 5 5)).toNatClampNeg x3)) 5 5)).toNatClampNeg x4)) 5 5 ((((((xup ((xup ((xup ((xup I 6 ((I 5 5)).toNatClampNeg x1)) 7 ((((xup I 6 ((I 5 5)).toNatClampNeg x1)) 5 5)).toNatClampNeg x2)) 8 ((((xup ((xup I 6 ((I 5 5)).toNatClampNeg x1)) 7 ((((xup I 6 ((I 5 5)).toNatClampNeg x1)) 5 5)).toNatClampNeg x2)) 5 5)).toNatClampNeg x3)) 9 ((((xup ((xup ((xup I 6 ((I 5 5)).toNatClampNeg x1)) 7 ((((xup I 6 ((I 5 5)).toNatClampNeg x1)) 5 5)).toNatClampNeg x2)) 8 ((((xup ((xup I 6 ((I 5 5)).toNatClampNeg x1)) 7 ((((xup I 6 ((I 5 5)).toNatClampNeg x1)) 5 5)).toNatClampNeg x2)) 5 5)).toNatClampNeg x3)) 5 5)).toNatClampNeg x4)) 5 5) + 1) - ((((xup ((xup ((xup ((xup I 6 ((I 5 5)).toNatClampNeg x1)) 7 ((((xup I 6 ((I 5 5)).toNatClampNeg x1)) 5 5)).toNatClampNeg x2)) 8 ((((xup ((xup I 6 ((I 5 5)).toNatClampNeg x1)) 7 ((((xup I 6 ((I 5 5)).toNatClampNeg x1)) 5 5)).toNatClampNeg x2)) 5 5)).toNatClampNeg x3)) 9 ((((xup ((xup ((xup I 6 ((I 5 5)).toNatClampNeg x1)) 7 ((((xup I 6 ((I 5 5)).toNatClampNeg x1)) 5 5)).toNatClampNeg x2)) 8 ((((xup ((xup I 6 ((I 5 5)).toNatClampNeg x1)) 7 ((((xup I 6 ((I 5 5)).toNatClampNeg x1)) 5 5)).toNatClampNeg x2)) 5 5)).toNatClampNeg x3)) 5 5)).toNatClampNeg x4)) 5 5) + 1) / 40 * 40)))) 5 6) + 1)))), J)
def f_X4_keep (x1 : Int32) (x2 : Int32) (x3 : Int32) (x4 : Int32) (I : xI) (J : xJ) : Option (Unit × xI × xJ) := f_X4_keep_0 x1 x2 x3 x4 I J
theorem p_X4_keep_0 {L : Nat} {xs : Nat → Int32} {d : Nat} {Q : xO → Prop} (x1 : Int32) (x2 : Int32) (x3 : Int32) (x4 : Int32) (I : xI) (J : xJ) {t : Unit × xI × xJ} (h : f_X4_keep_0 x1 x2 x3 x4 I J = some t) (hC : (c_X4_keep Q) t) : Rn L xs (d + 1) 41 0 [some (.ref 5), some (.int x1), some (.int x2), some (.int x3), some (.int x4)] [] 94 (I, J, xrf) Q := by
  unfold f_X4_keep_0 at h
  obtain ⟨hc, h⟩ := xif h
  refine Rn.ok 6 (c := (I 5 5) < 0 ∨ 40 ≤ ((I 5 5)).toNatClampNeg) (p1 := 10) (l1 := [some (.ref 5), some (.int x1), some (.int x2), some (.int x3), some (.int x4)]) (s1 := []) (n1 := 94) (M1 := ((xup I 6 ((I 5 5)).toNatClampNeg x1), J, xrf)) (fun f => rfl) hc ?_
  obtain ⟨hc, h⟩ := xif h
  refine Rn.ok 6 (c := (((xup I 6 ((I 5 5)).toNatClampNeg x1)) 5 5) < 0 ∨ 40 ≤ ((((xup I 6 ((I 5 5)).toNatClampNeg x1)) 5 5)).toNatClampNeg) (p1 := 20) (l1 := [some (.ref 5), some (.int x1), some (.int x2), some (.int x3), some (.int x4)]) (s1 := []) (n1 := 94) (M1 := ((xup ((xup I 6 ((I 5 5)).toNatClampNeg x1)) 7 ((((xup I 6 ((I 5 5)).toNatClampNeg x1)) 5 5)).toNatClampNeg x2), J, xrf)) (fun f => rfl) hc ?_
  obtain ⟨hc, h⟩ := xif h
  refine Rn.ok 6 (c := (((xup ((xup I 6 ((I 5 5)).toNatClampNeg x1)) 7 ((((xup I 6 ((I 5 5)).toNatClampNeg x1)) 5 5)).toNatClampNeg x2)) 5 5) < 0 ∨ 40 ≤ ((((xup ((xup I 6 ((I 5 5)).toNatClampNeg x1)) 7 ((((xup I 6 ((I 5 5)).toNatClampNeg x1)) 5 5)).toNatClampNeg x2)) 5 5)).toNatClampNeg) (p1 := 30) (l1 := [some (.ref 5), some (.int x1), some (.int x2), some (.int x3), some (.int x4)]) (s1 := []) (n1 := 94) (M1 := ((xup ((xup ((xup I 6 ((I 5 5)).toNatClampNeg x1)) 7 ((((xup I 6 ((I 5 5)).toNatClampNeg x1)) 5 5)).toNatClampNeg x2)) 8 ((((xup ((xup I 6 ((I 5 5)).toNatClampNeg x1)) 7 ((((xup I 6 ((I 5 5)).toNatClampNeg x1)) 5 5)).toNatClampNeg x2)) 5 5)).toNatClampNeg x3), J, xrf)) (fun f => rfl) hc ?_
  obtain ⟨hc, h⟩ := xif h
  refine Rn.ok 6 (c := (((xup ((xup ((xup I 6 ((I 5 5)).toNatClampNeg x1)) 7 ((((xup I 6 ((I 5 5)).toNatClampNeg x1)) 5 5)).toNatClampNeg x2)) 8 ((((xup ((xup I 6 ((I 5 5)).toNatClampNeg x1)) 7 ((((xup I 6 ((I 5 5)).toNatClampNeg x1)) 5 5)).toNatClampNeg x2)) 5 5)).toNatClampNeg x3)) 5 5) < 0 ∨ 40 ≤ ((((xup ((xup ((xup I 6 ((I 5 5)).toNatClampNeg x1)) 7 ((((xup I 6 ((I 5 5)).toNatClampNeg x1)) 5 5)).toNatClampNeg x2)) 8 ((((xup ((xup I 6 ((I 5 5)).toNatClampNeg x1)) 7 ((((xup I 6 ((I 5 5)).toNatClampNeg x1)) 5 5)).toNatClampNeg x2)) 5 5)).toNatClampNeg x3)) 5 5)).toNatClampNeg) (p1 := 41) (l1 := [some (.ref 5), some (.int x1), some (.int x2), some (.int x3), some (.int x4)]) (s1 := []) (n1 := 94) (M1 := ((xup ((xup ((xup ((xup I 6 ((I 5 5)).toNatClampNeg x1)) 7 ((((xup I 6 ((I 5 5)).toNatClampNeg x1)) 5 5)).toNatClampNeg x2)) 8 ((((xup ((xup I 6 ((I 5 5)).toNatClampNeg x1)) 7 ((((xup I 6 ((I 5 5)).toNatClampNeg x1)) 5 5)).toNatClampNeg x2)) 5 5)).toNatClampNeg x3)) 9 ((((xup ((xup ((xup I 6 ((I 5 5)).toNatClampNeg x1)) 7 ((((xup I 6 ((I 5 5)).toNatClampNeg x1)) 5 5)).toNatClampNeg x2)) 8 ((((xup ((xup I 6 ((I 5 5)).toNatClampNeg x1)) 7 ((((xup I 6 ((I 5 5)).toNatClampNeg x1)) 5 5)).toNatClampNeg x2)) 5 5)).toNatClampNeg x3)) 5 5)).toNatClampNeg x4), J, xrf)) (fun f => rfl) hc ?_
  cases h
  exact Rn.ret 17 (o := (none, 94, ((xup ((xup ((xup ((xup ((xup ((xup I 6 ((I 5 5)).toNatClampNeg x1)) 7 ((((xup I 6 ((I 5 5)).toNatClampNeg x1)) 5 5)).toNatClampNeg x2)) 8 ((((xup ((xup I 6 ((I 5 5)).toNatClampNeg x1)) 7 ((((xup I 6 ((I 5 5)).toNatClampNeg x1)) 5 5)).toNatClampNeg x2)) 5 5)).toNatClampNeg x3)) 9 ((((xup ((xup ((xup I 6 ((I 5 5)).toNatClampNeg x1)) 7 ((((xup I 6 ((I 5 5)).toNatClampNeg x1)) 5 5)).toNatClampNeg x2)) 8 ((((xup ((xup I 6 ((I 5 5)).toNatClampNeg x1)) 7 ((((xup I 6 ((I 5 5)).toNatClampNeg x1)) 5 5)).toNatClampNeg x2)) 5 5)).toNatClampNeg x3)) 5 5)).toNatClampNeg x4)) 5 5 ((((((xup ((xup ((xup ((xup I 6 ((I 5 5)).toNatClampNeg x1)) 7 ((((xup I 6 ((I 5 5)).toNatClampNeg x1)) 5 5)).toNatClampNeg x2)) 8 ((((xup ((xup I 6 ((I 5 5)).toNatClampNeg x1)) 7 ((((xup I 6 ((I 5 5)).toNatClampNeg x1)) 5 5)).toNatClampNeg x2)) 5 5)).toNatClampNeg x3)) 9 ((((xup ((xup ((xup I 6 ((I 5 5)).toNatClampNeg x1)) 7 ((((xup I 6 ((I 5 5)).toNatClampNeg x1)) 5 5)).toNatClampNeg x2)) 8 ((((xup ((xup I 6 ((I 5 5)).toNatClampNeg x1)) 7 ((((xup I 6 ((I 5 5)).toNatClampNeg x1)) 5 5)).toNatClampNeg x2)) 5 5)).toNatClampNeg x3)) 5 5)).toNatClampNeg x4)) 5 5) + 1) - ((((xup ((xup ((xup ((xup I 6 ((I 5 5)).toNatClampNeg x1)) 7 ((((xup I 6 ((I 5 5)).toNatClampNeg x1)) 5 5)).toNatClampNeg x2)) 8 ((((xup ((xup I 6 ((I 5 5)).toNatClampNeg x1)) 7 ((((xup I 6 ((I 5 5)).toNatClampNeg x1)) 5 5)).toNatClampNeg x2)) 5 5)).toNatClampNeg x3)) 9 ((((xup ((xup ((xup I 6 ((I 5 5)).toNatClampNeg x1)) 7 ((((xup I 6 ((I 5 5)).toNatClampNeg x1)) 5 5)).toNatClampNeg x2)) 8 ((((xup ((xup I 6 ((I 5 5)).toNatClampNeg x1)) 7 ((((xup I 6 ((I 5 5)).toNatClampNeg x1)) 5 5)).toNatClampNeg x2)) 5 5)).toNatClampNeg x3)) 5 5)).toNatClampNeg x4)) 5 5) + 1) / 40 * 40)))) 5 6 ((if 40 < ((((xup ((xup ((xup ((xup ((xup I 6 ((I 5 5)).toNatClampNeg x1)) 7 ((((xup I 6 ((I 5 5)).toNatClampNeg x1)) 5 5)).toNatClampNeg x2)) 8 ((((xup ((xup I 6 ((I 5 5)).toNatClampNeg x1)) 7 ((((xup I 6 ((I 5 5)).toNatClampNeg x1)) 5 5)).toNatClampNeg x2)) 5 5)).toNatClampNeg x3)) 9 ((((xup ((xup ((xup I 6 ((I 5 5)).toNatClampNeg x1)) 7 ((((xup I 6 ((I 5 5)).toNatClampNeg x1)) 5 5)).toNatClampNeg x2)) 8 ((((xup ((xup I 6 ((I 5 5)).toNatClampNeg x1)) 7 ((((xup I 6 ((I 5 5)).toNatClampNeg x1)) 5 5)).toNatClampNeg x2)) 5 5)).toNatClampNeg x3)) 5 5)).toNatClampNeg x4)) 5 5 ((((((xup ((xup ((xup ((xup I 6 ((I 5 5)).toNatClampNeg x1)) 7 ((((xup I 6 ((I 5 5)).toNatClampNeg x1)) 5 5)).toNatClampNeg x2)) 8 ((((xup ((xup I 6 ((I 5 5)).toNatClampNeg x1)) 7 ((((xup I 6 ((I 5 5)).toNatClampNeg x1)) 5 5)).toNatClampNeg x2)) 5 5)).toNatClampNeg x3)) 9 ((((xup ((xup ((xup I 6 ((I 5 5)).toNatClampNeg x1)) 7 ((((xup I 6 ((I 5 5)).toNatClampNeg x1)) 5 5)).toNatClampNeg x2)) 8 ((((xup ((xup I 6 ((I 5 5)).toNatClampNeg x1)) 7 ((((xup I 6 ((I 5 5)).toNatClampNeg x1)) 5 5)).toNatClampNeg x2)) 5 5)).toNatClampNeg x3)) 5 5)).toNatClampNeg x4)) 5 5) + 1) - ((((xup ((xup ((xup ((xup I 6 ((I 5 5)).toNatClampNeg x1)) 7 ((((xup I 6 ((I 5 5)).toNatClampNeg x1)) 5 5)).toNatClampNeg x2)) 8 ((((xup ((xup I 6 ((I 5 5)).toNatClampNeg x1)) 7 ((((xup I 6 ((I 5 5)).toNatClampNeg x1)) 5 5)).toNatClampNeg x2)) 5 5)).toNatClampNeg x3)) 9 ((((xup ((xup ((xup I 6 ((I 5 5)).toNatClampNeg x1)) 7 ((((xup I 6 ((I 5 5)).toNatClampNeg x1)) 5 5)).toNatClampNeg x2)) 8 ((((xup ((xup I 6 ((I 5 5)).toNatClampNeg x1)) 7 ((((xup I 6 ((I 5 5)).toNatClampNeg x1)) 5 5)).toNatClampNeg x2)) 5 5)).toNatClampNeg x3)) 5 5)).toNatClampNeg x4)) 5 5) + 1) / 40 * 40)))) 5 6) + 1) then 40 else ((((xup ((xup ((xup ((xup ((xup I 6 ((I 5 5)).toNatClampNeg x1)) 7 ((((xup I 6 ((I 5 5)).toNatClampNeg x1)) 5 5)).toNatClampNeg x2)) 8 ((((xup ((xup I 6 ((I 5 5)).toNatClampNeg x1)) 7 ((((xup I 6 ((I 5 5)).toNatClampNeg x1)) 5 5)).toNatClampNeg x2)) 5 5)).toNatClampNeg x3)) 9 ((((xup ((xup ((xup I 6 ((I 5 5)).toNatClampNeg x1)) 7 ((((xup I 6 ((I 5 5)).toNatClampNeg x1)) 5 5)).toNatClampNeg x2)) 8 ((((xup ((xup I 6 ((I 5 5)).toNatClampNeg x1)) 7 ((((xup I 6 ((I 5 5)).toNatClampNeg x1)) 5 5)).toNatClampNeg x2)) 5 5)).toNatClampNeg x3)) 5 5)).toNatClampNeg x4)) 5 5 ((((((xup ((xup ((xup ((xup I 6 ((I 5 5)).toNatClampNeg x1)) 7 ((((xup I 6 ((I 5 5)).toNatClampNeg x1)) 5 5)).toNatClampNeg x2)) 8 ((((xup ((xup I 6 ((I 5 5)).toNatClampNeg x1)) 7 ((((xup I 6 ((I 5 5)).toNatClampNeg x1)) 5 5)).toNatClampNeg x2)) 5 5)).toNatClampNeg x3)) 9 ((((xup ((xup ((xup I 6 ((I 5 5)).toNatClampNeg x1)) 7 ((((xup I 6 ((I 5 5)).toNatClampNeg x1)) 5 5)).toNatClampNeg x2)) 8 ((((xup ((xup I 6 ((I 5 5)).toNatClampNeg x1)) 7 ((((xup I 6 ((I 5 5)).toNatClampNeg x1)) 5 5)).toNatClampNeg x2)) 5 5)).toNatClampNeg x3)) 5 5)).toNatClampNeg x4)) 5 5) + 1) - ((((xup ((xup ((xup ((xup I 6 ((I 5 5)).toNatClampNeg x1)) 7 ((((xup I 6 ((I 5 5)).toNatClampNeg x1)) 5 5)).toNatClampNeg x2)) 8 ((((xup ((xup I 6 ((I 5 5)).toNatClampNeg x1)) 7 ((((xup I 6 ((I 5 5)).toNatClampNeg x1)) 5 5)).toNatClampNeg x2)) 5 5)).toNatClampNeg x3)) 9 ((((xup ((xup ((xup I 6 ((I 5 5)).toNatClampNeg x1)) 7 ((((xup I 6 ((I 5 5)).toNatClampNeg x1)) 5 5)).toNatClampNeg x2)) 8 ((((xup ((xup I 6 ((I 5 5)).toNatClampNeg x1)) 7 ((((xup I 6 ((I 5 5)).toNatClampNeg x1)) 5 5)).toNatClampNeg x2)) 5 5)).toNatClampNeg x3)) 5 5)).toNatClampNeg x4)) 5 5) + 1) / 40 * 40)))) 5 6) + 1)))), J, xrf))) (fun f => rfl) hC
theorem p_X4_keep {L : Nat} {xs : Nat → Int32} {d : Nat} {Q : xO → Prop} (x1 : Int32) (x2 : Int32) (x3 : Int32) (x4 : Int32) (I : xI) (J : xJ) {t : Unit × xI × xJ} (h : f_X4_keep x1 x2 x3 x4 I J = some t) (hC : Q (none, 94, (t.2.1, t.2.2, xrf))) : Rn L xs (d + 1) 41 0 [some (.ref 5), some (.int x1), some (.int x2), some (.int x3), some (.int x4)] [] 94 (I, J, xrf) Q := p_X4_keep_0 x1 x2 x3 x4 I J h hC
/-! X4_keepMove -/
def c_X4_keepMove (Q : xO → Prop) (t : Unit × xI × xJ) : Prop := Q (none, 94, (t.2.1, t.2.2, xrf))
def f_X4_keepMove_3 (x1 : Int32) (x2 : Int32) (I : xI) (J : xJ) : Option (Unit × xI × xJ) := some ((), I, J)
def f_X4_keepMove_2 (x1 : Int32) (x2 : Int32) (s1 : Int32) (s2 : Int32) (s3 : Int32) (s4 : Int32) (I : xI) (J : xJ) : Option (Unit × xI × xJ) := (f_X4_keep s1 s2 s3 s4 I J).bind fun o => f_X4_keepMove_3 x1 x2 o.2.1 o.2.2
def f_X4_keepMove_1 (x1 : Int32) (x2 : Int32) (s1 : Int32) (s2 : Int32) (s3 : Int32) (I : xI) (J : xJ) : Option (Unit × xI × xJ) := (f_X5_answerOf x1 x2 I J).bind fun o => f_X4_keepMove_2 x1 x2 s1 s2 s3 o.1 o.2.1 o.2.2
def f_X4_keepMove_0 (x1 : Int32) (x2 : Int32) (I : xI) (J : xJ) : Option (Unit × xI × xJ) := (f_X5_targetOf x1 x2 I J).bind fun o => f_X4_keepMove_1 x1 x2 x1 x2 o.1 o.2.1 o.2.2
def f_X4_keepMove (x1 : Int32) (x2 : Int32) (I : xI) (J : xJ) : Option (Unit × xI × xJ) := f_X4_keepMove_0 x1 x2 I J
theorem p_X4_keepMove_3 {L : Nat} {xs : Nat → Int32} {d : Nat} {Q : xO → Prop} (x1 : Int32) (x2 : Int32) (I : xI) (J : xJ) {t : Unit × xI × xJ} (h : f_X4_keepMove_3 x1 x2 I J = some t) (hC : (c_X4_keepMove Q) t) : Rn L xs (d + 2) 39 24 [some (.ref 5), some (.int x1), some (.int x2)] [] 94 (I, J, xrf) Q := by
  unfold f_X4_keepMove_3 at h
  cases h
  exact Rn.ret 1 (o := (none, 94, (I, J, xrf))) (fun f => rfl) hC
theorem p_X4_keepMove_2 {L : Nat} {xs : Nat → Int32} {d : Nat} {Q : xO → Prop} (x1 : Int32) (x2 : Int32) (s1 : Int32) (s2 : Int32) (s3 : Int32) (s4 : Int32) (I : xI) (J : xJ) {t : Unit × xI × xJ} (h : f_X4_keepMove_2 x1 x2 s1 s2 s3 s4 I J = some t) (hC : (c_X4_keepMove Q) t) : Rn L xs (d + 2) 39 21 [some (.ref 5), some (.int x1), some (.int x2)] [.int s4, .int s3, .int s2, .int s1, .ref 5] 94 (I, J, xrf) Q := by
  unfold f_X4_keepMove_2 at h
  obtain ⟨o, ho, h⟩ := Option.bind_eq_some_iff.mp h
  refine Rn.call (d1 := d + 1) (j1 := 41) (ls1 := [some (.ref 5), some (.int s1), some (.int s2), some (.int s3), some (.int s4)]) (rest := []) (fun f => rfl) ?_
  refine p_X4_keep (d := d + 0) s1 s2 s3 s4 I J (t := o) ho ?_
  exact p_X4_keepMove_3 x1 x2 o.2.1 o.2.2 h hC
theorem p_X4_keepMove_1 {L : Nat} {xs : Nat → Int32} {d : Nat} {Q : xO → Prop} (x1 : Int32) (x2 : Int32) (s1 : Int32) (s2 : Int32) (s3 : Int32) (I : xI) (J : xJ) {t : Unit × xI × xJ} (h : f_X4_keepMove_1 x1 x2 s1 s2 s3 I J = some t) (hC : (c_X4_keepMove Q) t) : Rn L xs (d + 2) 39 12 [some (.ref 5), some (.int x1), some (.int x2)] [.int s3, .int s2, .int s1, .ref 5] 94 (I, J, xrf) Q := by
  unfold f_X4_keepMove_1 at h
  refine Rn.go 4 (j' := 39) (pc' := 18) (ls' := [some (.ref 5), some (.int x1), some (.int x2)]) (st' := [.int x2, .int x1, .ref 1, .int s3, .int s2, .int s1, .ref 5]) (n' := 94) (M' := (I, J, xrf)) (fun f => rfl) ?_
  obtain ⟨o, ho, h⟩ := Option.bind_eq_some_iff.mp h
  refine Rn.call (d1 := d + 1) (j1 := 58) (ls1 := [some (.ref 1), some (.int x1), some (.int x2)]) (rest := [.int s3, .int s2, .int s1, .ref 5]) (fun f => rfl) ?_
  refine p_X5_answerOf (d := d + 0) x1 x2 I J (t := o) ho ?_
  exact p_X4_keepMove_2 x1 x2 s1 s2 s3 o.1 o.2.1 o.2.2 h hC
theorem p_X4_keepMove_0 {L : Nat} {xs : Nat → Int32} {d : Nat} {Q : xO → Prop} (x1 : Int32) (x2 : Int32) (I : xI) (J : xJ) {t : Unit × xI × xJ} (h : f_X4_keepMove_0 x1 x2 I J = some t) (hC : (c_X4_keepMove Q) t) : Rn L xs (d + 2) 39 0 [some (.ref 5), some (.int x1), some (.int x2)] [] 94 (I, J, xrf) Q := by
  unfold f_X4_keepMove_0 at h
  refine Rn.go 7 (j' := 39) (pc' := 9) (ls' := [some (.ref 5), some (.int x1), some (.int x2)]) (st' := [.int x2, .int x1, .ref 1, .int x2, .int x1, .ref 5]) (n' := 94) (M' := (I, J, xrf)) (fun f => rfl) ?_
  obtain ⟨o, ho, h⟩ := Option.bind_eq_some_iff.mp h
  refine Rn.call (d1 := d + 1) (j1 := 57) (ls1 := [some (.ref 1), some (.int x1), some (.int x2)]) (rest := [.int x2, .int x1, .ref 5]) (fun f => rfl) ?_
  refine p_X5_targetOf (d := d + 0) x1 x2 I J (t := o) ho ?_
  exact p_X4_keepMove_1 x1 x2 x1 x2 o.1 o.2.1 o.2.2 h hC
theorem p_X4_keepMove {L : Nat} {xs : Nat → Int32} {d : Nat} {Q : xO → Prop} (x1 : Int32) (x2 : Int32) (I : xI) (J : xJ) {t : Unit × xI × xJ} (h : f_X4_keepMove x1 x2 I J = some t) (hC : Q (none, 94, (t.2.1, t.2.2, xrf))) : Rn L xs (d + 2) 39 0 [some (.ref 5), some (.int x1), some (.int x2)] [] 94 (I, J, xrf) Q := p_X4_keepMove_0 x1 x2 I J h hC
/-! X11_set -/
def c_X11_set (Q : xO → Prop) (t : Int32 × xI × xJ) : Prop := Q ((some (.int t.1)), 94, (t.2.1, t.2.2, xrf))
def f_X11_set_17 (x1 : Int32) (x2 : Int32) (x3 : Int32) (x4 : Int32) (x5 : Int32) (I : xI) (J : xJ) : Option (Int32 × xI × xJ) := some (0, I, J)
def f_X11_set_20 (x1 : Int32) (x2 : Int32) (x3 : Int32) (x4 : Int32) (x5 : Int32) (I : xI) (J : xJ) : Option (Int32 × xI × xJ) := some (1, I, J)
def f_X11_set_19 (x1 : Int32) (x2 : Int32) (x3 : Int32) (x4 : Int32) (x5 : Int32) (I : xI) (J : xJ) : Option (Int32 × xI × xJ) := (f_X5_putMove x1 x2 x3 x4 I J).bind fun o => f_X11_set_20 x1 x2 x3 x4 x5 o.2.1 o.2.2
def f_X11_set_18 (x1 : Int32) (x2 : Int32) (x3 : Int32) (x4 : Int32) (x5 : Int32) (I : xI) (J : xJ) : Option (Int32 × xI × xJ) := (f_X4_keepMove x1 x2 I J).bind fun o => f_X11_set_19 x1 x2 x3 x4 x5 o.2.1 o.2.2
def f_X11_set_16 (x1 : Int32) (x2 : Int32) (x3 : Int32) (x4 : Int32) (x5 : Int32) (s0 : Int32) (I : xI) (J : xJ) : Option (Int32 × xI × xJ) := if s0 = x4 then f_X11_set_17 x1 x2 x3 x4 x5 I J else f_X11_set_18 x1 x2 x3 x4 x5 I J
def f_X11_set_15 (x1 : Int32) (x2 : Int32) (x3 : Int32) (x4 : Int32) (x5 : Int32) (I : xI) (J : xJ) : Option (Int32 × xI × xJ) := (f_X5_answerOf x1 x2 I J).bind fun o => f_X11_set_16 x1 x2 x3 x4 x5 o.1 o.2.1 o.2.2
def f_X11_set_14 (x1 : Int32) (x2 : Int32) (x3 : Int32) (x4 : Int32) (x5 : Int32) (s0 : Int32) (I : xI) (J : xJ) : Option (Int32 × xI × xJ) := if s0 = x3 then f_X11_set_15 x1 x2 x3 x4 x5 I J else f_X11_set_18 x1 x2 x3 x4 x5 I J
def f_X11_set_13 (x1 : Int32) (x2 : Int32) (x3 : Int32) (x4 : Int32) (x5 : Int32) (I : xI) (J : xJ) : Option (Int32 × xI × xJ) := (f_X5_targetOf x1 x2 I J).bind fun o => f_X11_set_14 x1 x2 x3 x4 x5 o.1 o.2.1 o.2.2
def f_X11_set_12 (x1 : Int32) (x2 : Int32) (x3 : Int32) (x4 : Int32) (s0 : Int32) (I : xI) (J : xJ) : Option (Int32 × xI × xJ) := if s0 = 0 then f_X11_set_17 x1 x2 x3 x4 s0 I J else f_X11_set_13 x1 x2 x3 x4 s0 I J
def f_X11_set_11 (x1 : Int32) (x2 : Int32) (x3 : Int32) (x4 : Int32) (I : xI) (J : xJ) : Option (Int32 × xI × xJ) := f_X11_set_12 x1 x2 x3 x4 0 I J
def f_X11_set_10 (x1 : Int32) (x2 : Int32) (x3 : Int32) (x4 : Int32) (I : xI) (J : xJ) : Option (Int32 × xI × xJ) := f_X11_set_12 x1 x2 x3 x4 1 I J
def f_X11_set_9 (x1 : Int32) (x2 : Int32) (x3 : Int32) (x4 : Int32) (I : xI) (J : xJ) : Option (Int32 × xI × xJ) := if 3 < x4 then f_X11_set_11 x1 x2 x3 x4 I J else f_X11_set_10 x1 x2 x3 x4 I J
def f_X11_set_8 (x1 : Int32) (x2 : Int32) (x3 : Int32) (x4 : Int32) (I : xI) (J : xJ) : Option (Int32 × xI × xJ) := if x4 < 0 then f_X11_set_11 x1 x2 x3 x4 I J else f_X11_set_9 x1 x2 x3 x4 I J
def f_X11_set_7 (x1 : Int32) (x2 : Int32) (x3 : Int32) (x4 : Int32) (I : xI) (J : xJ) : Option (Int32 × xI × xJ) := if x4 = (-2) then f_X11_set_10 x1 x2 x3 x4 I J else f_X11_set_8 x1 x2 x3 x4 I J
def f_X11_set_6 (x1 : Int32) (x2 : Int32) (x3 : Int32) (x4 : Int32) (s0 : Int32) (I : xI) (J : xJ) : Option (Int32 × xI × xJ) := if s0 = 0 then f_X11_set_11 x1 x2 x3 x4 I J else f_X11_set_7 x1 x2 x3 x4 I J
def f_X11_set_5 (x1 : Int32) (x2 : Int32) (x3 : Int32) (x4 : Int32) (I : xI) (J : xJ) : Option (Int32 × xI × xJ) := (f_X5_hasState x3 I J).bind fun o => f_X11_set_6 x1 x2 x3 x4 o.1 o.2.1 o.2.2
def f_X11_set_4 (x1 : Int32) (x2 : Int32) (x3 : Int32) (x4 : Int32) (I : xI) (J : xJ) : Option (Int32 × xI × xJ) := if x3 = (-2) then f_X11_set_7 x1 x2 x3 x4 I J else f_X11_set_5 x1 x2 x3 x4 I J
def f_X11_set_3 (x1 : Int32) (x2 : Int32) (x3 : Int32) (x4 : Int32) (s0 : Int32) (I : xI) (J : xJ) : Option (Int32 × xI × xJ) := if s0 = 0 then f_X11_set_11 x1 x2 x3 x4 I J else f_X11_set_4 x1 x2 x3 x4 I J
def f_X11_set_2 (x1 : Int32) (x2 : Int32) (x3 : Int32) (x4 : Int32) (I : xI) (J : xJ) : Option (Int32 × xI × xJ) := (f_X5_hasInput x2 I J).bind fun o => f_X11_set_3 x1 x2 x3 x4 o.1 o.2.1 o.2.2
def f_X11_set_1 (x1 : Int32) (x2 : Int32) (x3 : Int32) (x4 : Int32) (s0 : Int32) (I : xI) (J : xJ) : Option (Int32 × xI × xJ) := if s0 = 0 then f_X11_set_11 x1 x2 x3 x4 I J else f_X11_set_2 x1 x2 x3 x4 I J
def f_X11_set_0 (x1 : Int32) (x2 : Int32) (x3 : Int32) (x4 : Int32) (I : xI) (J : xJ) : Option (Int32 × xI × xJ) := (f_X5_hasState x1 I J).bind fun o => f_X11_set_1 x1 x2 x3 x4 o.1 o.2.1 o.2.2
def f_X11_set (x1 : Int32) (x2 : Int32) (x3 : Int32) (x4 : Int32) (I : xI) (J : xJ) : Option (Int32 × xI × xJ) := f_X11_set_0 x1 x2 x3 x4 I J
theorem p_X11_set_17 {L : Nat} {xs : Nat → Int32} {d : Nat} {Q : xO → Prop} (x1 : Int32) (x2 : Int32) (x3 : Int32) (x4 : Int32) (x5 : Int32) (I : xI) (J : xJ) {t : Int32 × xI × xJ} (h : f_X11_set_17 x1 x2 x3 x4 x5 I J = some t) (hC : (c_X11_set Q) t) : Rn L xs (d + 3) 142 96 [some (.ref 0), some (.int x1), some (.int x2), some (.int x3), some (.int x4), some (.int x5)] [] 94 (I, J, xrf) Q := by
  unfold f_X11_set_17 at h
  cases h
  exact Rn.ret 2 (o := ((some (.int 0)), 94, (I, J, xrf))) (fun f => rfl) hC
theorem p_X11_set_20 {L : Nat} {xs : Nat → Int32} {d : Nat} {Q : xO → Prop} (x1 : Int32) (x2 : Int32) (x3 : Int32) (x4 : Int32) (x5 : Int32) (I : xI) (J : xJ) {t : Int32 × xI × xJ} (h : f_X11_set_20 x1 x2 x3 x4 x5 I J = some t) (hC : (c_X11_set Q) t) : Rn L xs (d + 3) 142 119 [some (.ref 0), some (.int x1), some (.int x2), some (.int x3), some (.int x4), some (.int x5)] [] 94 (I, J, xrf) Q := by
  unfold f_X11_set_20 at h
  cases h
  exact Rn.ret 2 (o := ((some (.int 1)), 94, (I, J, xrf))) (fun f => rfl) hC
theorem p_X11_set_19 {L : Nat} {xs : Nat → Int32} {d : Nat} {Q : xO → Prop} (x1 : Int32) (x2 : Int32) (x3 : Int32) (x4 : Int32) (x5 : Int32) (I : xI) (J : xJ) {t : Int32 × xI × xJ} (h : f_X11_set_19 x1 x2 x3 x4 x5 I J = some t) (hC : (c_X11_set Q) t) : Rn L xs (d + 3) 142 107 [some (.ref 0), some (.int x1), some (.int x2), some (.int x3), some (.int x4), some (.int x5)] [] 94 (I, J, xrf) Q := by
  unfold f_X11_set_19 at h
  refine Rn.go 6 (j' := 142) (pc' := 116) (ls' := [some (.ref 0), some (.int x1), some (.int x2), some (.int x3), some (.int x4), some (.int x5)]) (st' := [.int x4, .int x3, .int x2, .int x1, .ref 1]) (n' := 94) (M' := (I, J, xrf)) (fun f => rfl) ?_
  obtain ⟨o, ho, h⟩ := Option.bind_eq_some_iff.mp h
  refine Rn.call (d1 := d + 2) (j1 := 59) (ls1 := [some (.ref 1), some (.int x1), some (.int x2), some (.int x3), some (.int x4)]) (rest := []) (fun f => rfl) ?_
  refine p_X5_putMove (d := d + 0) x1 x2 x3 x4 I J (t := o) ho ?_
  exact p_X11_set_20 x1 x2 x3 x4 x5 o.2.1 o.2.2 h hC
theorem p_X11_set_18 {L : Nat} {xs : Nat → Int32} {d : Nat} {Q : xO → Prop} (x1 : Int32) (x2 : Int32) (x3 : Int32) (x4 : Int32) (x5 : Int32) (I : xI) (J : xJ) {t : Int32 × xI × xJ} (h : f_X11_set_18 x1 x2 x3 x4 x5 I J = some t) (hC : (c_X11_set Q) t) : Rn L xs (d + 3) 142 98 [some (.ref 0), some (.int x1), some (.int x2), some (.int x3), some (.int x4), some (.int x5)] [] 94 (I, J, xrf) Q := by
  unfold f_X11_set_18 at h
  refine Rn.go 4 (j' := 142) (pc' := 104) (ls' := [some (.ref 0), some (.int x1), some (.int x2), some (.int x3), some (.int x4), some (.int x5)]) (st' := [.int x2, .int x1, .ref 5]) (n' := 94) (M' := (I, J, xrf)) (fun f => rfl) ?_
  obtain ⟨o, ho, h⟩ := Option.bind_eq_some_iff.mp h
  refine Rn.call (d1 := d + 2) (j1 := 39) (ls1 := [some (.ref 5), some (.int x1), some (.int x2)]) (rest := []) (fun f => rfl) ?_
  refine p_X4_keepMove (d := d + 0) x1 x2 I J (t := o) ho ?_
  exact p_X11_set_19 x1 x2 x3 x4 x5 o.2.1 o.2.2 h hC
theorem p_X11_set_16 {L : Nat} {xs : Nat → Int32} {d : Nat} {Q : xO → Prop} (x1 : Int32) (x2 : Int32) (x3 : Int32) (x4 : Int32) (x5 : Int32) (s0 : Int32) (I : xI) (J : xJ) {t : Int32 × xI × xJ} (h : f_X11_set_16 x1 x2 x3 x4 x5 s0 I J = some t) (hC : (c_X11_set Q) t) : Rn L xs (d + 3) 142 91 [some (.ref 0), some (.int x1), some (.int x2), some (.int x3), some (.int x4), some (.int x5)] [.int s0] 94 (I, J, xrf) Q := by
  unfold f_X11_set_16 at h
  refine Rn.fi 2 (c := s0 = x4) (p1 := 96) (l1 := [some (.ref 0), some (.int x1), some (.int x2), some (.int x3), some (.int x4), some (.int x5)]) (s1 := []) (n1 := 94) (M1 := (I, J, xrf)) (p2 := 98) (l2 := [some (.ref 0), some (.int x1), some (.int x2), some (.int x3), some (.int x4), some (.int x5)]) (s2 := []) (n2 := 94) (M2 := (I, J, xrf)) (fun f => rfl) (fun hc => ?_) (fun hc => ?_)
  · rw [if_pos hc] at h
    exact p_X11_set_17 x1 x2 x3 x4 x5 I J h hC
  · rw [if_neg hc] at h
    exact p_X11_set_18 x1 x2 x3 x4 x5 I J h hC
theorem p_X11_set_15 {L : Nat} {xs : Nat → Int32} {d : Nat} {Q : xO → Prop} (x1 : Int32) (x2 : Int32) (x3 : Int32) (x4 : Int32) (x5 : Int32) (I : xI) (J : xJ) {t : Int32 × xI × xJ} (h : f_X11_set_15 x1 x2 x3 x4 x5 I J = some t) (hC : (c_X11_set Q) t) : Rn L xs (d + 3) 142 82 [some (.ref 0), some (.int x1), some (.int x2), some (.int x3), some (.int x4), some (.int x5)] [] 94 (I, J, xrf) Q := by
  unfold f_X11_set_15 at h
  refine Rn.go 4 (j' := 142) (pc' := 88) (ls' := [some (.ref 0), some (.int x1), some (.int x2), some (.int x3), some (.int x4), some (.int x5)]) (st' := [.int x2, .int x1, .ref 1]) (n' := 94) (M' := (I, J, xrf)) (fun f => rfl) ?_
  obtain ⟨o, ho, h⟩ := Option.bind_eq_some_iff.mp h
  refine Rn.call (d1 := d + 2) (j1 := 58) (ls1 := [some (.ref 1), some (.int x1), some (.int x2)]) (rest := []) (fun f => rfl) ?_
  refine p_X5_answerOf (d := d + 1) x1 x2 I J (t := o) ho ?_
  exact p_X11_set_16 x1 x2 x3 x4 x5 o.1 o.2.1 o.2.2 h hC
theorem p_X11_set_14 {L : Nat} {xs : Nat → Int32} {d : Nat} {Q : xO → Prop} (x1 : Int32) (x2 : Int32) (x3 : Int32) (x4 : Int32) (x5 : Int32) (s0 : Int32) (I : xI) (J : xJ) {t : Int32 × xI × xJ} (h : f_X11_set_14 x1 x2 x3 x4 x5 s0 I J = some t) (hC : (c_X11_set Q) t) : Rn L xs (d + 3) 142 78 [some (.ref 0), some (.int x1), some (.int x2), some (.int x3), some (.int x4), some (.int x5)] [.int s0] 94 (I, J, xrf) Q := by
  unfold f_X11_set_14 at h
  refine Rn.fi 2 (c := s0 = x3) (p1 := 82) (l1 := [some (.ref 0), some (.int x1), some (.int x2), some (.int x3), some (.int x4), some (.int x5)]) (s1 := []) (n1 := 94) (M1 := (I, J, xrf)) (p2 := 98) (l2 := [some (.ref 0), some (.int x1), some (.int x2), some (.int x3), some (.int x4), some (.int x5)]) (s2 := []) (n2 := 94) (M2 := (I, J, xrf)) (fun f => rfl) (fun hc => ?_) (fun hc => ?_)
  · rw [if_pos hc] at h
    exact p_X11_set_15 x1 x2 x3 x4 x5 I J h hC
  · rw [if_neg hc] at h
    exact p_X11_set_18 x1 x2 x3 x4 x5 I J h hC
theorem p_X11_set_13 {L : Nat} {xs : Nat → Int32} {d : Nat} {Q : xO → Prop} (x1 : Int32) (x2 : Int32) (x3 : Int32) (x4 : Int32) (x5 : Int32) (I : xI) (J : xJ) {t : Int32 × xI × xJ} (h : f_X11_set_13 x1 x2 x3 x4 x5 I J = some t) (hC : (c_X11_set Q) t) : Rn L xs (d + 3) 142 69 [some (.ref 0), some (.int x1), some (.int x2), some (.int x3), some (.int x4), some (.int x5)] [] 94 (I, J, xrf) Q := by
  unfold f_X11_set_13 at h
  refine Rn.go 4 (j' := 142) (pc' := 75) (ls' := [some (.ref 0), some (.int x1), some (.int x2), some (.int x3), some (.int x4), some (.int x5)]) (st' := [.int x2, .int x1, .ref 1]) (n' := 94) (M' := (I, J, xrf)) (fun f => rfl) ?_
  obtain ⟨o, ho, h⟩ := Option.bind_eq_some_iff.mp h
  refine Rn.call (d1 := d + 2) (j1 := 57) (ls1 := [some (.ref 1), some (.int x1), some (.int x2)]) (rest := []) (fun f => rfl) ?_
  refine p_X5_targetOf (d := d + 1) x1 x2 I J (t := o) ho ?_
  exact p_X11_set_14 x1 x2 x3 x4 x5 o.1 o.2.1 o.2.2 h hC
theorem p_X11_set_12 {L : Nat} {xs : Nat → Int32} {d : Nat} {Q : xO → Prop} (x1 : Int32) (x2 : Int32) (x3 : Int32) (x4 : Int32) (s0 : Int32) (I : xI) (J : xJ) {t : Int32 × xI × xJ} (h : f_X11_set_12 x1 x2 x3 x4 s0 I J = some t) (hC : (c_X11_set Q) t) : Rn L xs (d + 3) 142 62 [some (.ref 0), some (.int x1), some (.int x2), some (.int x3), some (.int x4), none] [.int s0] 94 (I, J, xrf) Q := by
  unfold f_X11_set_12 at h
  refine Rn.fi 3 (c := s0 = 0) (p1 := 96) (l1 := [some (.ref 0), some (.int x1), some (.int x2), some (.int x3), some (.int x4), some (.int s0)]) (s1 := []) (n1 := 94) (M1 := (I, J, xrf)) (p2 := 69) (l2 := [some (.ref 0), some (.int x1), some (.int x2), some (.int x3), some (.int x4), some (.int s0)]) (s2 := []) (n2 := 94) (M2 := (I, J, xrf)) (fun f => rfl) (fun hc => ?_) (fun hc => ?_)
  · rw [if_pos hc] at h
    exact p_X11_set_17 x1 x2 x3 x4 s0 I J h hC
  · rw [if_neg hc] at h
    exact p_X11_set_13 x1 x2 x3 x4 s0 I J h hC
theorem p_X11_set_11 {L : Nat} {xs : Nat → Int32} {d : Nat} {Q : xO → Prop} (x1 : Int32) (x2 : Int32) (x3 : Int32) (x4 : Int32) (I : xI) (J : xJ) {t : Int32 × xI × xJ} (h : f_X11_set_11 x1 x2 x3 x4 I J = some t) (hC : (c_X11_set Q) t) : Rn L xs (d + 3) 142 61 [some (.ref 0), some (.int x1), some (.int x2), some (.int x3), some (.int x4), none] [] 94 (I, J, xrf) Q := by
  unfold f_X11_set_11 at h
  refine Rn.go 1 (j' := 142) (pc' := 62) (ls' := [some (.ref 0), some (.int x1), some (.int x2), some (.int x3), some (.int x4), none]) (st' := [.int 0]) (n' := 94) (M' := (I, J, xrf)) (fun f => rfl) ?_
  exact p_X11_set_12 x1 x2 x3 x4 0 I J h hC
theorem p_X11_set_10 {L : Nat} {xs : Nat → Int32} {d : Nat} {Q : xO → Prop} (x1 : Int32) (x2 : Int32) (x3 : Int32) (x4 : Int32) (I : xI) (J : xJ) {t : Int32 × xI × xJ} (h : f_X11_set_10 x1 x2 x3 x4 I J = some t) (hC : (c_X11_set Q) t) : Rn L xs (d + 3) 142 57 [some (.ref 0), some (.int x1), some (.int x2), some (.int x3), some (.int x4), none] [] 94 (I, J, xrf) Q := by
  unfold f_X11_set_10 at h
  refine Rn.go 2 (j' := 142) (pc' := 62) (ls' := [some (.ref 0), some (.int x1), some (.int x2), some (.int x3), some (.int x4), none]) (st' := [.int 1]) (n' := 94) (M' := (I, J, xrf)) (fun f => rfl) ?_
  exact p_X11_set_12 x1 x2 x3 x4 1 I J h hC
theorem p_X11_set_9 {L : Nat} {xs : Nat → Int32} {d : Nat} {Q : xO → Prop} (x1 : Int32) (x2 : Int32) (x3 : Int32) (x4 : Int32) (I : xI) (J : xJ) {t : Int32 × xI × xJ} (h : f_X11_set_9 x1 x2 x3 x4 I J = some t) (hC : (c_X11_set Q) t) : Rn L xs (d + 3) 142 51 [some (.ref 0), some (.int x1), some (.int x2), some (.int x3), some (.int x4), none] [] 94 (I, J, xrf) Q := by
  unfold f_X11_set_9 at h
  refine Rn.fi 3 (c := 3 < x4) (p1 := 61) (l1 := [some (.ref 0), some (.int x1), some (.int x2), some (.int x3), some (.int x4), none]) (s1 := []) (n1 := 94) (M1 := (I, J, xrf)) (p2 := 57) (l2 := [some (.ref 0), some (.int x1), some (.int x2), some (.int x3), some (.int x4), none]) (s2 := []) (n2 := 94) (M2 := (I, J, xrf)) (fun f => rfl) (fun hc => ?_) (fun hc => ?_)
  · rw [if_pos hc] at h
    exact p_X11_set_11 x1 x2 x3 x4 I J h hC
  · rw [if_neg hc] at h
    exact p_X11_set_10 x1 x2 x3 x4 I J h hC
theorem p_X11_set_8 {L : Nat} {xs : Nat → Int32} {d : Nat} {Q : xO → Prop} (x1 : Int32) (x2 : Int32) (x3 : Int32) (x4 : Int32) (I : xI) (J : xJ) {t : Int32 × xI × xJ} (h : f_X11_set_8 x1 x2 x3 x4 I J = some t) (hC : (c_X11_set Q) t) : Rn L xs (d + 3) 142 46 [some (.ref 0), some (.int x1), some (.int x2), some (.int x3), some (.int x4), none] [] 94 (I, J, xrf) Q := by
  unfold f_X11_set_8 at h
  refine Rn.fi 2 (c := x4 < 0) (p1 := 61) (l1 := [some (.ref 0), some (.int x1), some (.int x2), some (.int x3), some (.int x4), none]) (s1 := []) (n1 := 94) (M1 := (I, J, xrf)) (p2 := 51) (l2 := [some (.ref 0), some (.int x1), some (.int x2), some (.int x3), some (.int x4), none]) (s2 := []) (n2 := 94) (M2 := (I, J, xrf)) (fun f => rfl) (fun hc => ?_) (fun hc => ?_)
  · rw [if_pos hc] at h
    exact p_X11_set_11 x1 x2 x3 x4 I J h hC
  · rw [if_neg hc] at h
    exact p_X11_set_9 x1 x2 x3 x4 I J h hC
theorem p_X11_set_7 {L : Nat} {xs : Nat → Int32} {d : Nat} {Q : xO → Prop} (x1 : Int32) (x2 : Int32) (x3 : Int32) (x4 : Int32) (I : xI) (J : xJ) {t : Int32 × xI × xJ} (h : f_X11_set_7 x1 x2 x3 x4 I J = some t) (hC : (c_X11_set Q) t) : Rn L xs (d + 3) 142 39 [some (.ref 0), some (.int x1), some (.int x2), some (.int x3), some (.int x4), none] [] 94 (I, J, xrf) Q := by
  unfold f_X11_set_7 at h
  refine Rn.fi 3 (c := x4 = (-2)) (p1 := 57) (l1 := [some (.ref 0), some (.int x1), some (.int x2), some (.int x3), some (.int x4), none]) (s1 := []) (n1 := 94) (M1 := (I, J, xrf)) (p2 := 46) (l2 := [some (.ref 0), some (.int x1), some (.int x2), some (.int x3), some (.int x4), none]) (s2 := []) (n2 := 94) (M2 := (I, J, xrf)) (fun f => rfl) (fun hc => ?_) (fun hc => ?_)
  · rw [if_pos hc] at h
    exact p_X11_set_10 x1 x2 x3 x4 I J h hC
  · rw [if_neg hc] at h
    exact p_X11_set_8 x1 x2 x3 x4 I J h hC
theorem p_X11_set_6 {L : Nat} {xs : Nat → Int32} {d : Nat} {Q : xO → Prop} (x1 : Int32) (x2 : Int32) (x3 : Int32) (x4 : Int32) (s0 : Int32) (I : xI) (J : xJ) {t : Int32 × xI × xJ} (h : f_X11_set_6 x1 x2 x3 x4 s0 I J = some t) (hC : (c_X11_set Q) t) : Rn L xs (d + 3) 142 36 [some (.ref 0), some (.int x1), some (.int x2), some (.int x3), some (.int x4), none] [.int s0] 94 (I, J, xrf) Q := by
  unfold f_X11_set_6 at h
  refine Rn.fi 1 (c := s0 = 0) (p1 := 61) (l1 := [some (.ref 0), some (.int x1), some (.int x2), some (.int x3), some (.int x4), none]) (s1 := []) (n1 := 94) (M1 := (I, J, xrf)) (p2 := 39) (l2 := [some (.ref 0), some (.int x1), some (.int x2), some (.int x3), some (.int x4), none]) (s2 := []) (n2 := 94) (M2 := (I, J, xrf)) (fun f => rfl) (fun hc => ?_) (fun hc => ?_)
  · rw [if_pos hc] at h
    exact p_X11_set_11 x1 x2 x3 x4 I J h hC
  · rw [if_neg hc] at h
    exact p_X11_set_7 x1 x2 x3 x4 I J h hC
theorem p_X11_set_5 {L : Nat} {xs : Nat → Int32} {d : Nat} {Q : xO → Prop} (x1 : Int32) (x2 : Int32) (x3 : Int32) (x4 : Int32) (I : xI) (J : xJ) {t : Int32 × xI × xJ} (h : f_X11_set_5 x1 x2 x3 x4 I J = some t) (hC : (c_X11_set Q) t) : Rn L xs (d + 3) 142 28 [some (.ref 0), some (.int x1), some (.int x2), some (.int x3), some (.int x4), none] [] 94 (I, J, xrf) Q := by
  unfold f_X11_set_5 at h
  refine Rn.go 3 (j' := 142) (pc' := 33) (ls' := [some (.ref 0), some (.int x1), some (.int x2), some (.int x3), some (.int x4), none]) (st' := [.int x3, .ref 1]) (n' := 94) (M' := (I, J, xrf)) (fun f => rfl) ?_
  obtain ⟨o, ho, h⟩ := Option.bind_eq_some_iff.mp h
  refine Rn.call (d1 := d + 2) (j1 := 51) (ls1 := [some (.ref 1), some (.int x3)]) (rest := []) (fun f => rfl) ?_
  refine p_X5_hasState (d := d + 1) x3 I J (t := o) ho ?_
  exact p_X11_set_6 x1 x2 x3 x4 o.1 o.2.1 o.2.2 h hC
theorem p_X11_set_4 {L : Nat} {xs : Nat → Int32} {d : Nat} {Q : xO → Prop} (x1 : Int32) (x2 : Int32) (x3 : Int32) (x4 : Int32) (I : xI) (J : xJ) {t : Int32 × xI × xJ} (h : f_X11_set_4 x1 x2 x3 x4 I J = some t) (hC : (c_X11_set Q) t) : Rn L xs (d + 3) 142 22 [some (.ref 0), some (.int x1), some (.int x2), some (.int x3), some (.int x4), none] [] 94 (I, J, xrf) Q := by
  unfold f_X11_set_4 at h
  refine Rn.fi 3 (c := x3 = (-2)) (p1 := 39) (l1 := [some (.ref 0), some (.int x1), some (.int x2), some (.int x3), some (.int x4), none]) (s1 := []) (n1 := 94) (M1 := (I, J, xrf)) (p2 := 28) (l2 := [some (.ref 0), some (.int x1), some (.int x2), some (.int x3), some (.int x4), none]) (s2 := []) (n2 := 94) (M2 := (I, J, xrf)) (fun f => rfl) (fun hc => ?_) (fun hc => ?_)
  · rw [if_pos hc] at h
    exact p_X11_set_7 x1 x2 x3 x4 I J h hC
  · rw [if_neg hc] at h
    exact p_X11_set_5 x1 x2 x3 x4 I J h hC
theorem p_X11_set_3 {L : Nat} {xs : Nat → Int32} {d : Nat} {Q : xO → Prop} (x1 : Int32) (x2 : Int32) (x3 : Int32) (x4 : Int32) (s0 : Int32) (I : xI) (J : xJ) {t : Int32 × xI × xJ} (h : f_X11_set_3 x1 x2 x3 x4 s0 I J = some t) (hC : (c_X11_set Q) t) : Rn L xs (d + 3) 142 19 [some (.ref 0), some (.int x1), some (.int x2), some (.int x3), some (.int x4), none] [.int s0] 94 (I, J, xrf) Q := by
  unfold f_X11_set_3 at h
  refine Rn.fi 1 (c := s0 = 0) (p1 := 61) (l1 := [some (.ref 0), some (.int x1), some (.int x2), some (.int x3), some (.int x4), none]) (s1 := []) (n1 := 94) (M1 := (I, J, xrf)) (p2 := 22) (l2 := [some (.ref 0), some (.int x1), some (.int x2), some (.int x3), some (.int x4), none]) (s2 := []) (n2 := 94) (M2 := (I, J, xrf)) (fun f => rfl) (fun hc => ?_) (fun hc => ?_)
  · rw [if_pos hc] at h
    exact p_X11_set_11 x1 x2 x3 x4 I J h hC
  · rw [if_neg hc] at h
    exact p_X11_set_4 x1 x2 x3 x4 I J h hC
theorem p_X11_set_2 {L : Nat} {xs : Nat → Int32} {d : Nat} {Q : xO → Prop} (x1 : Int32) (x2 : Int32) (x3 : Int32) (x4 : Int32) (I : xI) (J : xJ) {t : Int32 × xI × xJ} (h : f_X11_set_2 x1 x2 x3 x4 I J = some t) (hC : (c_X11_set Q) t) : Rn L xs (d + 3) 142 11 [some (.ref 0), some (.int x1), some (.int x2), some (.int x3), some (.int x4), none] [] 94 (I, J, xrf) Q := by
  unfold f_X11_set_2 at h
  refine Rn.go 3 (j' := 142) (pc' := 16) (ls' := [some (.ref 0), some (.int x1), some (.int x2), some (.int x3), some (.int x4), none]) (st' := [.int x2, .ref 1]) (n' := 94) (M' := (I, J, xrf)) (fun f => rfl) ?_
  obtain ⟨o, ho, h⟩ := Option.bind_eq_some_iff.mp h
  refine Rn.call (d1 := d + 2) (j1 := 52) (ls1 := [some (.ref 1), some (.int x2)]) (rest := []) (fun f => rfl) ?_
  refine p_X5_hasInput (d := d + 1) x2 I J (t := o) ho ?_
  exact p_X11_set_3 x1 x2 x3 x4 o.1 o.2.1 o.2.2 h hC
theorem p_X11_set_1 {L : Nat} {xs : Nat → Int32} {d : Nat} {Q : xO → Prop} (x1 : Int32) (x2 : Int32) (x3 : Int32) (x4 : Int32) (s0 : Int32) (I : xI) (J : xJ) {t : Int32 × xI × xJ} (h : f_X11_set_1 x1 x2 x3 x4 s0 I J = some t) (hC : (c_X11_set Q) t) : Rn L xs (d + 3) 142 8 [some (.ref 0), some (.int x1), some (.int x2), some (.int x3), some (.int x4), none] [.int s0] 94 (I, J, xrf) Q := by
  unfold f_X11_set_1 at h
  refine Rn.fi 1 (c := s0 = 0) (p1 := 61) (l1 := [some (.ref 0), some (.int x1), some (.int x2), some (.int x3), some (.int x4), none]) (s1 := []) (n1 := 94) (M1 := (I, J, xrf)) (p2 := 11) (l2 := [some (.ref 0), some (.int x1), some (.int x2), some (.int x3), some (.int x4), none]) (s2 := []) (n2 := 94) (M2 := (I, J, xrf)) (fun f => rfl) (fun hc => ?_) (fun hc => ?_)
  · rw [if_pos hc] at h
    exact p_X11_set_11 x1 x2 x3 x4 I J h hC
  · rw [if_neg hc] at h
    exact p_X11_set_2 x1 x2 x3 x4 I J h hC
theorem p_X11_set_0 {L : Nat} {xs : Nat → Int32} {d : Nat} {Q : xO → Prop} (x1 : Int32) (x2 : Int32) (x3 : Int32) (x4 : Int32) (I : xI) (J : xJ) {t : Int32 × xI × xJ} (h : f_X11_set_0 x1 x2 x3 x4 I J = some t) (hC : (c_X11_set Q) t) : Rn L xs (d + 3) 142 0 [some (.ref 0), some (.int x1), some (.int x2), some (.int x3), some (.int x4), none] [] 94 (I, J, xrf) Q := by
  unfold f_X11_set_0 at h
  refine Rn.go 3 (j' := 142) (pc' := 5) (ls' := [some (.ref 0), some (.int x1), some (.int x2), some (.int x3), some (.int x4), none]) (st' := [.int x1, .ref 1]) (n' := 94) (M' := (I, J, xrf)) (fun f => rfl) ?_
  obtain ⟨o, ho, h⟩ := Option.bind_eq_some_iff.mp h
  refine Rn.call (d1 := d + 2) (j1 := 51) (ls1 := [some (.ref 1), some (.int x1)]) (rest := []) (fun f => rfl) ?_
  refine p_X5_hasState (d := d + 1) x1 I J (t := o) ho ?_
  exact p_X11_set_1 x1 x2 x3 x4 o.1 o.2.1 o.2.2 h hC
theorem p_X11_set {L : Nat} {xs : Nat → Int32} {d : Nat} {Q : xO → Prop} (x1 : Int32) (x2 : Int32) (x3 : Int32) (x4 : Int32) (I : xI) (J : xJ) {t : Int32 × xI × xJ} (h : f_X11_set x1 x2 x3 x4 I J = some t) (hC : Q ((some (.int t.1)), 94, (t.2.1, t.2.2, xrf))) : Rn L xs (d + 3) 142 0 [some (.ref 0), some (.int x1), some (.int x2), some (.int x3), some (.int x4), none] [] 94 (I, J, xrf) Q := p_X11_set_0 x1 x2 x3 x4 I J h hC
/-! X4_keepCode -/
def c_X4_keepCode (Q : xO → Prop) (t : Unit × xI × xJ) : Prop := Q (none, 94, (t.2.1, t.2.2, xrf))
def f_X4_keepCode_3 (x1 : Int32) (I : xI) (J : xJ) : Option (Unit × xI × xJ) := some ((), I, J)
def f_X4_keepCode_2 (x1 : Int32) (I : xI) (J : xJ) : Option (Unit × xI × xJ) := if x1 < 0 ∨ 6 ≤ x1.toNatClampNeg then none else (f_X4_keep x1 ((-1)) ((I 4 x1.toNatClampNeg)) ((-2)) I J).bind fun o => f_X4_keepCode_3 x1 o.2.1 o.2.2
def f_X4_keepCode_1 (x1 : Int32) (s0 : Int32) (I : xI) (J : xJ) : Option (Unit × xI × xJ) := if s0 = 0 then f_X4_keepCode_3 x1 I J else f_X4_keepCode_2 x1 I J
def f_X4_keepCode_0 (x1 : Int32) (I : xI) (J : xJ) : Option (Unit × xI × xJ) := (f_X5_hasState x1 I J).bind fun o => f_X4_keepCode_1 x1 o.1 o.2.1 o.2.2
def f_X4_keepCode (x1 : Int32) (I : xI) (J : xJ) : Option (Unit × xI × xJ) := f_X4_keepCode_0 x1 I J
theorem p_X4_keepCode_3 {L : Nat} {xs : Nat → Int32} {d : Nat} {Q : xO → Prop} (x1 : Int32) (I : xI) (J : xJ) {t : Unit × xI × xJ} (h : f_X4_keepCode_3 x1 I J = some t) (hC : (c_X4_keepCode Q) t) : Rn L xs (d + 2) 40 28 [some (.ref 5), some (.int x1)] [] 94 (I, J, xrf) Q := by
  unfold f_X4_keepCode_3 at h
  cases h
  exact Rn.ret 1 (o := (none, 94, (I, J, xrf))) (fun f => rfl) hC
theorem p_X4_keepCode_2 {L : Nat} {xs : Nat → Int32} {d : Nat} {Q : xO → Prop} (x1 : Int32) (I : xI) (J : xJ) {t : Unit × xI × xJ} (h : f_X4_keepCode_2 x1 I J = some t) (hC : (c_X4_keepCode Q) t) : Rn L xs (d + 2) 40 11 [some (.ref 5), some (.int x1)] [] 94 (I, J, xrf) Q := by
  unfold f_X4_keepCode_2 at h
  obtain ⟨hc, h⟩ := xif h
  refine Rn.ok 8 (c := x1 < 0 ∨ 6 ≤ x1.toNatClampNeg) (p1 := 23) (l1 := [some (.ref 5), some (.int x1)]) (s1 := [.int ((I 4 x1.toNatClampNeg)), .int ((-1)), .int x1, .ref 5]) (n1 := 94) (M1 := (I, J, xrf)) (fun f => rfl) hc ?_
  refine Rn.go 1 (j' := 40) (pc' := 25) (ls' := [some (.ref 5), some (.int x1)]) (st' := [.int ((-2)), .int ((I 4 x1.toNatClampNeg)), .int ((-1)), .int x1, .ref 5]) (n' := 94) (M' := (I, J, xrf)) (fun f => rfl) ?_
  obtain ⟨o, ho, h⟩ := Option.bind_eq_some_iff.mp h
  refine Rn.call (d1 := d + 1) (j1 := 41) (ls1 := [some (.ref 5), some (.int x1), some (.int ((-1))), some (.int ((I 4 x1.toNatClampNeg))), some (.int ((-2)))]) (rest := []) (fun f => rfl) ?_
  refine p_X4_keep (d := d + 0) x1 ((-1)) ((I 4 x1.toNatClampNeg)) ((-2)) I J (t := o) ho ?_
  exact p_X4_keepCode_3 x1 o.2.1 o.2.2 h hC
theorem p_X4_keepCode_1 {L : Nat} {xs : Nat → Int32} {d : Nat} {Q : xO → Prop} (x1 : Int32) (s0 : Int32) (I : xI) (J : xJ) {t : Unit × xI × xJ} (h : f_X4_keepCode_1 x1 s0 I J = some t) (hC : (c_X4_keepCode Q) t) : Rn L xs (d + 2) 40 8 [some (.ref 5), some (.int x1)] [.int s0] 94 (I, J, xrf) Q := by
  unfold f_X4_keepCode_1 at h
  refine Rn.fi 1 (c := s0 = 0) (p1 := 28) (l1 := [some (.ref 5), some (.int x1)]) (s1 := []) (n1 := 94) (M1 := (I, J, xrf)) (p2 := 11) (l2 := [some (.ref 5), some (.int x1)]) (s2 := []) (n2 := 94) (M2 := (I, J, xrf)) (fun f => rfl) (fun hc => ?_) (fun hc => ?_)
  · rw [if_pos hc] at h
    exact p_X4_keepCode_3 x1 I J h hC
  · rw [if_neg hc] at h
    exact p_X4_keepCode_2 x1 I J h hC
theorem p_X4_keepCode_0 {L : Nat} {xs : Nat → Int32} {d : Nat} {Q : xO → Prop} (x1 : Int32) (I : xI) (J : xJ) {t : Unit × xI × xJ} (h : f_X4_keepCode_0 x1 I J = some t) (hC : (c_X4_keepCode Q) t) : Rn L xs (d + 2) 40 0 [some (.ref 5), some (.int x1)] [] 94 (I, J, xrf) Q := by
  unfold f_X4_keepCode_0 at h
  refine Rn.go 3 (j' := 40) (pc' := 5) (ls' := [some (.ref 5), some (.int x1)]) (st' := [.int x1, .ref 1]) (n' := 94) (M' := (I, J, xrf)) (fun f => rfl) ?_
  obtain ⟨o, ho, h⟩ := Option.bind_eq_some_iff.mp h
  refine Rn.call (d1 := d + 1) (j1 := 51) (ls1 := [some (.ref 1), some (.int x1)]) (rest := []) (fun f => rfl) ?_
  refine p_X5_hasState (d := d + 0) x1 I J (t := o) ho ?_
  exact p_X4_keepCode_1 x1 o.1 o.2.1 o.2.2 h hC
theorem p_X4_keepCode {L : Nat} {xs : Nat → Int32} {d : Nat} {Q : xO → Prop} (x1 : Int32) (I : xI) (J : xJ) {t : Unit × xI × xJ} (h : f_X4_keepCode x1 I J = some t) (hC : Q (none, 94, (t.2.1, t.2.2, xrf))) : Rn L xs (d + 2) 40 0 [some (.ref 5), some (.int x1)] [] 94 (I, J, xrf) Q := p_X4_keepCode_0 x1 I J h hC
/-! X11_code -/
def c_X11_code (Q : xO → Prop) (t : Int32 × xI × xJ) : Prop := Q ((some (.int t.1)), 94, (t.2.1, t.2.2, xrf))
def f_X11_code_5 (x1 : Int32) (x2 : Int32) (I : xI) (J : xJ) : Option (Int32 × xI × xJ) := some (0, I, J)
def f_X11_code_8 (x1 : Int32) (x2 : Int32) (I : xI) (J : xJ) : Option (Int32 × xI × xJ) := some (1, I, J)
def f_X11_code_7 (x1 : Int32) (x2 : Int32) (I : xI) (J : xJ) : Option (Int32 × xI × xJ) := (f_X5_putCode x1 x2 I J).bind fun o => f_X11_code_8 x1 x2 o.2.1 o.2.2
def f_X11_code_6 (x1 : Int32) (x2 : Int32) (I : xI) (J : xJ) : Option (Int32 × xI × xJ) := (f_X4_keepCode x1 I J).bind fun o => f_X11_code_7 x1 x2 o.2.1 o.2.2
def f_X11_code_4 (x1 : Int32) (x2 : Int32) (I : xI) (J : xJ) : Option (Int32 × xI × xJ) := if x1 < 0 ∨ 6 ≤ x1.toNatClampNeg then none else if (I 4 x1.toNatClampNeg) = x2 then f_X11_code_5 x1 x2 I J else f_X11_code_6 x1 x2 I J
def f_X11_code_3 (x1 : Int32) (x2 : Int32) (I : xI) (J : xJ) : Option (Int32 × xI × xJ) := if 8 ≤ x2 then f_X11_code_5 x1 x2 I J else f_X11_code_4 x1 x2 I J
def f_X11_code_2 (x1 : Int32) (x2 : Int32) (I : xI) (J : xJ) : Option (Int32 × xI × xJ) := if x2 < 0 then f_X11_code_5 x1 x2 I J else f_X11_code_3 x1 x2 I J
def f_X11_code_1 (x1 : Int32) (x2 : Int32) (s0 : Int32) (I : xI) (J : xJ) : Option (Int32 × xI × xJ) := if s0 = 0 then f_X11_code_5 x1 x2 I J else f_X11_code_2 x1 x2 I J
def f_X11_code_0 (x1 : Int32) (x2 : Int32) (I : xI) (J : xJ) : Option (Int32 × xI × xJ) := (f_X5_hasState x1 I J).bind fun o => f_X11_code_1 x1 x2 o.1 o.2.1 o.2.2
def f_X11_code (x1 : Int32) (x2 : Int32) (I : xI) (J : xJ) : Option (Int32 × xI × xJ) := f_X11_code_0 x1 x2 I J
theorem p_X11_code_5 {L : Nat} {xs : Nat → Int32} {d : Nat} {Q : xO → Prop} (x1 : Int32) (x2 : Int32) (I : xI) (J : xJ) {t : Int32 × xI × xJ} (h : f_X11_code_5 x1 x2 I J = some t) (hC : (c_X11_code Q) t) : Rn L xs (d + 3) 143 34 [some (.ref 0), some (.int x1), some (.int x2)] [] 94 (I, J, xrf) Q := by
  unfold f_X11_code_5 at h
  cases h
  exact Rn.ret 2 (o := ((some (.int 0)), 94, (I, J, xrf))) (fun f => rfl) hC
theorem p_X11_code_8 {L : Nat} {xs : Nat → Int32} {d : Nat} {Q : xO → Prop} (x1 : Int32) (x2 : Int32) (I : xI) (J : xJ) {t : Int32 × xI × xJ} (h : f_X11_code_8 x1 x2 I J = some t) (hC : (c_X11_code Q) t) : Rn L xs (d + 3) 143 53 [some (.ref 0), some (.int x1), some (.int x2)] [] 94 (I, J, xrf) Q := by
  unfold f_X11_code_8 at h
  cases h
  exact Rn.ret 2 (o := ((some (.int 1)), 94, (I, J, xrf))) (fun f => rfl) hC
theorem p_X11_code_7 {L : Nat} {xs : Nat → Int32} {d : Nat} {Q : xO → Prop} (x1 : Int32) (x2 : Int32) (I : xI) (J : xJ) {t : Int32 × xI × xJ} (h : f_X11_code_7 x1 x2 I J = some t) (hC : (c_X11_code Q) t) : Rn L xs (d + 3) 143 44 [some (.ref 0), some (.int x1), some (.int x2)] [] 94 (I, J, xrf) Q := by
  unfold f_X11_code_7 at h
  refine Rn.go 4 (j' := 143) (pc' := 50) (ls' := [some (.ref 0), some (.int x1), some (.int x2)]) (st' := [.int x2, .int x1, .ref 1]) (n' := 94) (M' := (I, J, xrf)) (fun f => rfl) ?_
  obtain ⟨o, ho, h⟩ := Option.bind_eq_some_iff.mp h
  refine Rn.call (d1 := d + 2) (j1 := 60) (ls1 := [some (.ref 1), some (.int x1), some (.int x2)]) (rest := []) (fun f => rfl) ?_
  refine p_X5_putCode (d := d + 0) x1 x2 I J (t := o) ho ?_
  exact p_X11_code_8 x1 x2 o.2.1 o.2.2 h hC
theorem p_X11_code_6 {L : Nat} {xs : Nat → Int32} {d : Nat} {Q : xO → Prop} (x1 : Int32) (x2 : Int32) (I : xI) (J : xJ) {t : Int32 × xI × xJ} (h : f_X11_code_6 x1 x2 I J = some t) (hC : (c_X11_code Q) t) : Rn L xs (d + 3) 143 36 [some (.ref 0), some (.int x1), some (.int x2)] [] 94 (I, J, xrf) Q := by
  unfold f_X11_code_6 at h
  refine Rn.go 3 (j' := 143) (pc' := 41) (ls' := [some (.ref 0), some (.int x1), some (.int x2)]) (st' := [.int x1, .ref 5]) (n' := 94) (M' := (I, J, xrf)) (fun f => rfl) ?_
  obtain ⟨o, ho, h⟩ := Option.bind_eq_some_iff.mp h
  refine Rn.call (d1 := d + 2) (j1 := 40) (ls1 := [some (.ref 5), some (.int x1)]) (rest := []) (fun f => rfl) ?_
  refine p_X4_keepCode (d := d + 0) x1 I J (t := o) ho ?_
  exact p_X11_code_7 x1 x2 o.2.1 o.2.2 h hC
theorem p_X11_code_4 {L : Nat} {xs : Nat → Int32} {d : Nat} {Q : xO → Prop} (x1 : Int32) (x2 : Int32) (I : xI) (J : xJ) {t : Int32 × xI × xJ} (h : f_X11_code_4 x1 x2 I J = some t) (hC : (c_X11_code Q) t) : Rn L xs (d + 3) 143 21 [some (.ref 0), some (.int x1), some (.int x2)] [] 94 (I, J, xrf) Q := by
  unfold f_X11_code_4 at h
  obtain ⟨hc, h⟩ := xif h
  refine Rn.ok 5 (c := x1 < 0 ∨ 6 ≤ x1.toNatClampNeg) (p1 := 30) (l1 := [some (.ref 0), some (.int x1), some (.int x2)]) (s1 := [.int ((I 4 x1.toNatClampNeg))]) (n1 := 94) (M1 := (I, J, xrf)) (fun f => rfl) hc ?_
  refine Rn.fi 2 (c := (I 4 x1.toNatClampNeg) = x2) (p1 := 34) (l1 := [some (.ref 0), some (.int x1), some (.int x2)]) (s1 := []) (n1 := 94) (M1 := (I, J, xrf)) (p2 := 36) (l2 := [some (.ref 0), some (.int x1), some (.int x2)]) (s2 := []) (n2 := 94) (M2 := (I, J, xrf)) (fun f => rfl) (fun hc => ?_) (fun hc => ?_)
  · rw [if_pos hc] at h
    exact p_X11_code_5 x1 x2 I J h hC
  · rw [if_neg hc] at h
    exact p_X11_code_6 x1 x2 I J h hC
theorem p_X11_code_3 {L : Nat} {xs : Nat → Int32} {d : Nat} {Q : xO → Prop} (x1 : Int32) (x2 : Int32) (I : xI) (J : xJ) {t : Int32 × xI × xJ} (h : f_X11_code_3 x1 x2 I J = some t) (hC : (c_X11_code Q) t) : Rn L xs (d + 3) 143 15 [some (.ref 0), some (.int x1), some (.int x2)] [] 94 (I, J, xrf) Q := by
  unfold f_X11_code_3 at h
  refine Rn.fi 3 (c := 8 ≤ x2) (p1 := 34) (l1 := [some (.ref 0), some (.int x1), some (.int x2)]) (s1 := []) (n1 := 94) (M1 := (I, J, xrf)) (p2 := 21) (l2 := [some (.ref 0), some (.int x1), some (.int x2)]) (s2 := []) (n2 := 94) (M2 := (I, J, xrf)) (fun f => rfl) (fun hc => ?_) (fun hc => ?_)
  · rw [if_pos hc] at h
    exact p_X11_code_5 x1 x2 I J h hC
  · rw [if_neg hc] at h
    exact p_X11_code_4 x1 x2 I J h hC
theorem p_X11_code_2 {L : Nat} {xs : Nat → Int32} {d : Nat} {Q : xO → Prop} (x1 : Int32) (x2 : Int32) (I : xI) (J : xJ) {t : Int32 × xI × xJ} (h : f_X11_code_2 x1 x2 I J = some t) (hC : (c_X11_code Q) t) : Rn L xs (d + 3) 143 11 [some (.ref 0), some (.int x1), some (.int x2)] [] 94 (I, J, xrf) Q := by
  unfold f_X11_code_2 at h
  refine Rn.fi 2 (c := x2 < 0) (p1 := 34) (l1 := [some (.ref 0), some (.int x1), some (.int x2)]) (s1 := []) (n1 := 94) (M1 := (I, J, xrf)) (p2 := 15) (l2 := [some (.ref 0), some (.int x1), some (.int x2)]) (s2 := []) (n2 := 94) (M2 := (I, J, xrf)) (fun f => rfl) (fun hc => ?_) (fun hc => ?_)
  · rw [if_pos hc] at h
    exact p_X11_code_5 x1 x2 I J h hC
  · rw [if_neg hc] at h
    exact p_X11_code_3 x1 x2 I J h hC
theorem p_X11_code_1 {L : Nat} {xs : Nat → Int32} {d : Nat} {Q : xO → Prop} (x1 : Int32) (x2 : Int32) (s0 : Int32) (I : xI) (J : xJ) {t : Int32 × xI × xJ} (h : f_X11_code_1 x1 x2 s0 I J = some t) (hC : (c_X11_code Q) t) : Rn L xs (d + 3) 143 8 [some (.ref 0), some (.int x1), some (.int x2)] [.int s0] 94 (I, J, xrf) Q := by
  unfold f_X11_code_1 at h
  refine Rn.fi 1 (c := s0 = 0) (p1 := 34) (l1 := [some (.ref 0), some (.int x1), some (.int x2)]) (s1 := []) (n1 := 94) (M1 := (I, J, xrf)) (p2 := 11) (l2 := [some (.ref 0), some (.int x1), some (.int x2)]) (s2 := []) (n2 := 94) (M2 := (I, J, xrf)) (fun f => rfl) (fun hc => ?_) (fun hc => ?_)
  · rw [if_pos hc] at h
    exact p_X11_code_5 x1 x2 I J h hC
  · rw [if_neg hc] at h
    exact p_X11_code_2 x1 x2 I J h hC
theorem p_X11_code_0 {L : Nat} {xs : Nat → Int32} {d : Nat} {Q : xO → Prop} (x1 : Int32) (x2 : Int32) (I : xI) (J : xJ) {t : Int32 × xI × xJ} (h : f_X11_code_0 x1 x2 I J = some t) (hC : (c_X11_code Q) t) : Rn L xs (d + 3) 143 0 [some (.ref 0), some (.int x1), some (.int x2)] [] 94 (I, J, xrf) Q := by
  unfold f_X11_code_0 at h
  refine Rn.go 3 (j' := 143) (pc' := 5) (ls' := [some (.ref 0), some (.int x1), some (.int x2)]) (st' := [.int x1, .ref 1]) (n' := 94) (M' := (I, J, xrf)) (fun f => rfl) ?_
  obtain ⟨o, ho, h⟩ := Option.bind_eq_some_iff.mp h
  refine Rn.call (d1 := d + 2) (j1 := 51) (ls1 := [some (.ref 1), some (.int x1)]) (rest := []) (fun f => rfl) ?_
  refine p_X5_hasState (d := d + 1) x1 I J (t := o) ho ?_
  exact p_X11_code_1 x1 x2 o.1 o.2.1 o.2.2 h hC
theorem p_X11_code {L : Nat} {xs : Nat → Int32} {d : Nat} {Q : xO → Prop} (x1 : Int32) (x2 : Int32) (I : xI) (J : xJ) {t : Int32 × xI × xJ} (h : f_X11_code x1 x2 I J = some t) (hC : Q ((some (.int t.1)), 94, (t.2.1, t.2.2, xrf))) : Rn L xs (d + 3) 143 0 [some (.ref 0), some (.int x1), some (.int x2)] [] 94 (I, J, xrf) Q := p_X11_code_0 x1 x2 I J h hC
/-! X4_takeBack -/
def c_X4_takeBack (Q : xO → Prop) (t : Int32 × xI × xJ) : Prop := Q ((some (.int t.1)), 94, (t.2.1, t.2.2, xrf))
def f_X4_takeBack_6 (I : xI) (J : xJ) : Option (Int32 × xI × xJ) := some (1, I, J)
def f_X4_takeBack_5 (I : xI) (J : xJ) : Option (Int32 × xI × xJ) := if (I 5 5) < 0 ∨ 40 ≤ ((I 5 5)).toNatClampNeg then none else if (I 5 5) < 0 ∨ 40 ≤ ((I 5 5)).toNatClampNeg then none else if (I 5 5) < 0 ∨ 40 ≤ ((I 5 5)).toNatClampNeg then none else if (I 5 5) < 0 ∨ 40 ≤ ((I 5 5)).toNatClampNeg then none else (f_X5_putMove ((I 6 ((I 5 5)).toNatClampNeg)) ((I 7 ((I 5 5)).toNatClampNeg)) ((I 8 ((I 5 5)).toNatClampNeg)) ((I 9 ((I 5 5)).toNatClampNeg)) I J).bind fun o => f_X4_takeBack_6 o.2.1 o.2.2
def f_X4_takeBack_4 (I : xI) (J : xJ) : Option (Int32 × xI × xJ) := f_X4_takeBack_6 I J
def f_X4_takeBack_3 (I : xI) (J : xJ) : Option (Int32 × xI × xJ) := if (I 5 5) < 0 ∨ 40 ≤ ((I 5 5)).toNatClampNeg then none else if (I 5 5) < 0 ∨ 40 ≤ ((I 5 5)).toNatClampNeg then none else (f_X5_putCode ((I 6 ((I 5 5)).toNatClampNeg)) ((I 8 ((I 5 5)).toNatClampNeg)) I J).bind fun o => f_X4_takeBack_4 o.2.1 o.2.2
def f_X4_takeBack_2 (I : xI) (J : xJ) : Option (Int32 × xI × xJ) := if (((xup ((xup I 5 6 (((I 5 6) - 1)))) 5 5 (((((((xup I 5 6 (((I 5 6) - 1)))) 5 5) + 40) - 1) - (((((xup I 5 6 (((I 5 6) - 1)))) 5 5) + 40) - 1) / 40 * 40)))) 5 5) < 0 ∨ 40 ≤ ((((xup ((xup I 5 6 (((I 5 6) - 1)))) 5 5 (((((((xup I 5 6 (((I 5 6) - 1)))) 5 5) + 40) - 1) - (((((xup I 5 6 (((I 5 6) - 1)))) 5 5) + 40) - 1) / 40 * 40)))) 5 5)).toNatClampNeg then none else if (((xup ((xup I 5 6 (((I 5 6) - 1)))) 5 5 (((((((xup I 5 6 (((I 5 6) - 1)))) 5 5) + 40) - 1) - (((((xup I 5 6 (((I 5 6) - 1)))) 5 5) + 40) - 1) / 40 * 40)))) 7 ((((xup ((xup I 5 6 (((I 5 6) - 1)))) 5 5 (((((((xup I 5 6 (((I 5 6) - 1)))) 5 5) + 40) - 1) - (((((xup I 5 6 (((I 5 6) - 1)))) 5 5) + 40) - 1) / 40 * 40)))) 5 5)).toNatClampNeg) = (-1) then f_X4_takeBack_3 ((xup ((xup I 5 6 (((I 5 6) - 1)))) 5 5 (((((((xup I 5 6 (((I 5 6) - 1)))) 5 5) + 40) - 1) - (((((xup I 5 6 (((I 5 6) - 1)))) 5 5) + 40) - 1) / 40 * 40)))) J else f_X4_takeBack_5 ((xup ((xup I 5 6 (((I 5 6) - 1)))) 5 5 (((((((xup I 5 6 (((I 5 6) - 1)))) 5 5) + 40) - 1) - (((((xup I 5 6 (((I 5 6) - 1)))) 5 5) + 40) - 1) / 40 * 40)))) J
def f_X4_takeBack_1 (I : xI) (J : xJ) : Option (Int32 × xI × xJ) := some (0, I, J)
def f_X4_takeBack_0 (I : xI) (J : xJ) : Option (Int32 × xI × xJ) := if (I 5 6) = 0 then f_X4_takeBack_1 I J else f_X4_takeBack_2 I J
def f_X4_takeBack (I : xI) (J : xJ) : Option (Int32 × xI × xJ) := f_X4_takeBack_0 I J
theorem p_X4_takeBack_6 {L : Nat} {xs : Nat → Int32} {d : Nat} {Q : xO → Prop} (I : xI) (J : xJ) {t : Int32 × xI × xJ} (h : f_X4_takeBack_6 I J = some t) (hC : (c_X4_takeBack Q) t) : Rn L xs (d + 3) 42 119 [some (.ref 5)] [] 94 (I, J, xrf) Q := by
  unfold f_X4_takeBack_6 at h
  cases h
  exact Rn.ret 2 (o := ((some (.int 1)), 94, (I, J, xrf))) (fun f => rfl) hC
theorem p_X4_takeBack_5 {L : Nat} {xs : Nat → Int32} {d : Nat} {Q : xO → Prop} (I : xI) (J : xJ) {t : Int32 × xI × xJ} (h : f_X4_takeBack_5 I J = some t) (hC : (c_X4_takeBack Q) t) : Rn L xs (d + 3) 42 76 [some (.ref 5)] [] 94 (I, J, xrf) Q := by
  unfold f_X4_takeBack_5 at h
  obtain ⟨hc, h⟩ := xif h
  refine Rn.ok 7 (c := (I 5 5) < 0 ∨ 40 ≤ ((I 5 5)).toNatClampNeg) (p1 := 89) (l1 := [some (.ref 5)]) (s1 := [.int ((I 6 ((I 5 5)).toNatClampNeg)), .ref 1]) (n1 := 94) (M1 := (I, J, xrf)) (fun f => rfl) hc ?_
  obtain ⟨hc, h⟩ := xif h
  refine Rn.ok 5 (c := (I 5 5) < 0 ∨ 40 ≤ ((I 5 5)).toNatClampNeg) (p1 := 98) (l1 := [some (.ref 5)]) (s1 := [.int ((I 7 ((I 5 5)).toNatClampNeg)), .int ((I 6 ((I 5 5)).toNatClampNeg)), .ref 1]) (n1 := 94) (M1 := (I, J, xrf)) (fun f => rfl) hc ?_
  obtain ⟨hc, h⟩ := xif h
  refine Rn.ok 5 (c := (I 5 5) < 0 ∨ 40 ≤ ((I 5 5)).toNatClampNeg) (p1 := 107) (l1 := [some (.ref 5)]) (s1 := [.int ((I 8 ((I 5 5)).toNatClampNeg)), .int ((I 7 ((I 5 5)).toNatClampNeg)), .int ((I 6 ((I 5 5)).toNatClampNeg)), .ref 1]) (n1 := 94) (M1 := (I, J, xrf)) (fun f => rfl) hc ?_
  obtain ⟨hc, h⟩ := xif h
  refine Rn.ok 5 (c := (I 5 5) < 0 ∨ 40 ≤ ((I 5 5)).toNatClampNeg) (p1 := 116) (l1 := [some (.ref 5)]) (s1 := [.int ((I 9 ((I 5 5)).toNatClampNeg)), .int ((I 8 ((I 5 5)).toNatClampNeg)), .int ((I 7 ((I 5 5)).toNatClampNeg)), .int ((I 6 ((I 5 5)).toNatClampNeg)), .ref 1]) (n1 := 94) (M1 := (I, J, xrf)) (fun f => rfl) hc ?_
  obtain ⟨o, ho, h⟩ := Option.bind_eq_some_iff.mp h
  refine Rn.call (d1 := d + 2) (j1 := 59) (ls1 := [some (.ref 1), some (.int ((I 6 ((I 5 5)).toNatClampNeg))), some (.int ((I 7 ((I 5 5)).toNatClampNeg))), some (.int ((I 8 ((I 5 5)).toNatClampNeg))), some (.int ((I 9 ((I 5 5)).toNatClampNeg)))]) (rest := []) (fun f => rfl) ?_
  refine p_X5_putMove (d := d + 0) ((I 6 ((I 5 5)).toNatClampNeg)) ((I 7 ((I 5 5)).toNatClampNeg)) ((I 8 ((I 5 5)).toNatClampNeg)) ((I 9 ((I 5 5)).toNatClampNeg)) I J (t := o) ho ?_
  exact p_X4_takeBack_6 o.2.1 o.2.2 h hC
theorem p_X4_takeBack_4 {L : Nat} {xs : Nat → Int32} {d : Nat} {Q : xO → Prop} (I : xI) (J : xJ) {t : Int32 × xI × xJ} (h : f_X4_takeBack_4 I J = some t) (hC : (c_X4_takeBack Q) t) : Rn L xs (d + 3) 42 73 [some (.ref 5)] [] 94 (I, J, xrf) Q := by
  unfold f_X4_takeBack_4 at h
  refine Rn.go 1 (j' := 42) (pc' := 119) (ls' := [some (.ref 5)]) (st' := []) (n' := 94) (M' := (I, J, xrf)) (fun f => rfl) ?_
  exact p_X4_takeBack_6 I J h hC
theorem p_X4_takeBack_3 {L : Nat} {xs : Nat → Int32} {d : Nat} {Q : xO → Prop} (I : xI) (J : xJ) {t : Int32 × xI × xJ} (h : f_X4_takeBack_3 I J = some t) (hC : (c_X4_takeBack Q) t) : Rn L xs (d + 3) 42 48 [some (.ref 5)] [] 94 (I, J, xrf) Q := by
  unfold f_X4_takeBack_3 at h
  obtain ⟨hc, h⟩ := xif h
  refine Rn.ok 7 (c := (I 5 5) < 0 ∨ 40 ≤ ((I 5 5)).toNatClampNeg) (p1 := 61) (l1 := [some (.ref 5)]) (s1 := [.int ((I 6 ((I 5 5)).toNatClampNeg)), .ref 1]) (n1 := 94) (M1 := (I, J, xrf)) (fun f => rfl) hc ?_
  obtain ⟨hc, h⟩ := xif h
  refine Rn.ok 5 (c := (I 5 5) < 0 ∨ 40 ≤ ((I 5 5)).toNatClampNeg) (p1 := 70) (l1 := [some (.ref 5)]) (s1 := [.int ((I 8 ((I 5 5)).toNatClampNeg)), .int ((I 6 ((I 5 5)).toNatClampNeg)), .ref 1]) (n1 := 94) (M1 := (I, J, xrf)) (fun f => rfl) hc ?_
  obtain ⟨o, ho, h⟩ := Option.bind_eq_some_iff.mp h
  refine Rn.call (d1 := d + 2) (j1 := 60) (ls1 := [some (.ref 1), some (.int ((I 6 ((I 5 5)).toNatClampNeg))), some (.int ((I 8 ((I 5 5)).toNatClampNeg)))]) (rest := []) (fun f => rfl) ?_
  refine p_X5_putCode (d := d + 0) ((I 6 ((I 5 5)).toNatClampNeg)) ((I 8 ((I 5 5)).toNatClampNeg)) I J (t := o) ho ?_
  exact p_X4_takeBack_4 o.2.1 o.2.2 h hC
theorem p_X4_takeBack_2 {L : Nat} {xs : Nat → Int32} {d : Nat} {Q : xO → Prop} (I : xI) (J : xJ) {t : Int32 × xI × xJ} (h : f_X4_takeBack_2 I J = some t) (hC : (c_X4_takeBack Q) t) : Rn L xs (d + 3) 42 9 [some (.ref 5)] [] 94 (I, J, xrf) Q := by
  unfold f_X4_takeBack_2 at h
  obtain ⟨hc, h⟩ := xif h
  refine Rn.ok 21 (c := (((xup ((xup I 5 6 (((I 5 6) - 1)))) 5 5 (((((((xup I 5 6 (((I 5 6) - 1)))) 5 5) + 40) - 1) - (((((xup I 5 6 (((I 5 6) - 1)))) 5 5) + 40) - 1) / 40 * 40)))) 5 5) < 0 ∨ 40 ≤ ((((xup ((xup I 5 6 (((I 5 6) - 1)))) 5 5 (((((((xup I 5 6 (((I 5 6) - 1)))) 5 5) + 40) - 1) - (((((xup I 5 6 (((I 5 6) - 1)))) 5 5) + 40) - 1) / 40 * 40)))) 5 5)).toNatClampNeg) (p1 := 44) (l1 := [some (.ref 5)]) (s1 := [.int ((((xup ((xup I 5 6 (((I 5 6) - 1)))) 5 5 (((((((xup I 5 6 (((I 5 6) - 1)))) 5 5) + 40) - 1) - (((((xup I 5 6 (((I 5 6) - 1)))) 5 5) + 40) - 1) / 40 * 40)))) 7 ((((xup ((xup I 5 6 (((I 5 6) - 1)))) 5 5 (((((((xup I 5 6 (((I 5 6) - 1)))) 5 5) + 40) - 1) - (((((xup I 5 6 (((I 5 6) - 1)))) 5 5) + 40) - 1) / 40 * 40)))) 5 5)).toNatClampNeg))]) (n1 := 94) (M1 := ((xup ((xup I 5 6 (((I 5 6) - 1)))) 5 5 (((((((xup I 5 6 (((I 5 6) - 1)))) 5 5) + 40) - 1) - (((((xup I 5 6 (((I 5 6) - 1)))) 5 5) + 40) - 1) / 40 * 40))), J, xrf)) (fun f => rfl) hc ?_
  refine Rn.fi 2 (c := (((xup ((xup I 5 6 (((I 5 6) - 1)))) 5 5 (((((((xup I 5 6 (((I 5 6) - 1)))) 5 5) + 40) - 1) - (((((xup I 5 6 (((I 5 6) - 1)))) 5 5) + 40) - 1) / 40 * 40)))) 7 ((((xup ((xup I 5 6 (((I 5 6) - 1)))) 5 5 (((((((xup I 5 6 (((I 5 6) - 1)))) 5 5) + 40) - 1) - (((((xup I 5 6 (((I 5 6) - 1)))) 5 5) + 40) - 1) / 40 * 40)))) 5 5)).toNatClampNeg) = (-1)) (p1 := 48) (l1 := [some (.ref 5)]) (s1 := []) (n1 := 94) (M1 := ((xup ((xup I 5 6 (((I 5 6) - 1)))) 5 5 (((((((xup I 5 6 (((I 5 6) - 1)))) 5 5) + 40) - 1) - (((((xup I 5 6 (((I 5 6) - 1)))) 5 5) + 40) - 1) / 40 * 40))), J, xrf)) (p2 := 76) (l2 := [some (.ref 5)]) (s2 := []) (n2 := 94) (M2 := ((xup ((xup I 5 6 (((I 5 6) - 1)))) 5 5 (((((((xup I 5 6 (((I 5 6) - 1)))) 5 5) + 40) - 1) - (((((xup I 5 6 (((I 5 6) - 1)))) 5 5) + 40) - 1) / 40 * 40))), J, xrf)) (fun f => rfl) (fun hc => ?_) (fun hc => ?_)
  · rw [if_pos hc] at h
    exact p_X4_takeBack_3 ((xup ((xup I 5 6 (((I 5 6) - 1)))) 5 5 (((((((xup I 5 6 (((I 5 6) - 1)))) 5 5) + 40) - 1) - (((((xup I 5 6 (((I 5 6) - 1)))) 5 5) + 40) - 1) / 40 * 40)))) J h hC
  · rw [if_neg hc] at h
    exact p_X4_takeBack_5 ((xup ((xup I 5 6 (((I 5 6) - 1)))) 5 5 (((((((xup I 5 6 (((I 5 6) - 1)))) 5 5) + 40) - 1) - (((((xup I 5 6 (((I 5 6) - 1)))) 5 5) + 40) - 1) / 40 * 40)))) J h hC
theorem p_X4_takeBack_1 {L : Nat} {xs : Nat → Int32} {d : Nat} {Q : xO → Prop} (I : xI) (J : xJ) {t : Int32 × xI × xJ} (h : f_X4_takeBack_1 I J = some t) (hC : (c_X4_takeBack Q) t) : Rn L xs (d + 3) 42 7 [some (.ref 5)] [] 94 (I, J, xrf) Q := by
  unfold f_X4_takeBack_1 at h
  cases h
  exact Rn.ret 2 (o := ((some (.int 0)), 94, (I, J, xrf))) (fun f => rfl) hC
theorem p_X4_takeBack_0 {L : Nat} {xs : Nat → Int32} {d : Nat} {Q : xO → Prop} (I : xI) (J : xJ) {t : Int32 × xI × xJ} (h : f_X4_takeBack_0 I J = some t) (hC : (c_X4_takeBack Q) t) : Rn L xs (d + 3) 42 0 [some (.ref 5)] [] 94 (I, J, xrf) Q := by
  unfold f_X4_takeBack_0 at h
  refine Rn.fi 3 (c := (I 5 6) = 0) (p1 := 7) (l1 := [some (.ref 5)]) (s1 := []) (n1 := 94) (M1 := (I, J, xrf)) (p2 := 9) (l2 := [some (.ref 5)]) (s2 := []) (n2 := 94) (M2 := (I, J, xrf)) (fun f => rfl) (fun hc => ?_) (fun hc => ?_)
  · rw [if_pos hc] at h
    exact p_X4_takeBack_1 I J h hC
  · rw [if_neg hc] at h
    exact p_X4_takeBack_2 I J h hC
theorem p_X4_takeBack {L : Nat} {xs : Nat → Int32} {d : Nat} {Q : xO → Prop} (I : xI) (J : xJ) {t : Int32 × xI × xJ} (h : f_X4_takeBack I J = some t) (hC : Q ((some (.int t.1)), 94, (t.2.1, t.2.2, xrf))) : Rn L xs (d + 3) 42 0 [some (.ref 5)] [] 94 (I, J, xrf) Q := p_X4_takeBack_0 I J h hC
