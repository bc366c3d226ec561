/-! X11_sum -/
def c_X11_sum (Q : xO → Prop) (t : Int32 × xI × xJ) : Prop := Q ((some (.int t.1)), 94, (t.2.1, t.2.2, xrf))
def f_X11_sum_5 (s0 : Int32) (I : xI) (J : xJ) : Option (Int32 × xI × xJ) := some (s0, I, J)
def f_X11_sum_4 (I : xI) (J : xJ) : Option (Int32 × xI × xJ) := f_X11_sum_5 ((-2)) I J
def f_X11_sum_3 (s0 : Int32) (I : xI) (J : xJ) : Option (Int32 × xI × xJ) := f_X11_sum_5 s0 I J
def f_X11_sum_2 (I : xI) (J : xJ) : Option (Int32 × xI × xJ) := (f_X2_total_4 ((I 1 0)) 1000 I J).bind fun o => f_X11_sum_3 o.1 o.2.1 o.2.2
def f_X11_sum_1 (s0 : Int32) (I : xI) (J : xJ) : Option (Int32 × xI × xJ) := if s0 = 0 then f_X11_sum_4 I J else f_X11_sum_2 I J
def f_X11_sum_0 (I : xI) (J : xJ) : Option (Int32 × xI × xJ) := (f_X5_isProper I J).bind fun o => f_X11_sum_1 o.1 o.2.1 o.2.2
def f_X11_sum (I : xI) (J : xJ) : Option (Int32 × xI × xJ) := f_X11_sum_0 I J
theorem p_X11_sum_5 {L : Nat} {xs : Nat → Int32} {d : Nat} {Q : xO → Prop} (s0 : Int32) (I : xI) (J : xJ) {t : Int32 × xI × xJ} (h : f_X11_sum_5 s0 I J = some t) (hC : (c_X11_sum Q) t) : Rn L xs (d + 16) 170 39 [some (.ref 0)] [.int s0] 94 (I, J, xrf) Q := by
  unfold f_X11_sum_5 at h
  cases h
  exact Rn.ret 1 (o := ((some (.int s0)), 94, (I, J, xrf))) (fun f => rfl) hC
theorem p_X11_sum_4 {L : Nat} {xs : Nat → Int32} {d : Nat} {Q : xO → Prop} (I : xI) (J : xJ) {t : Int32 × xI × xJ} (h : f_X11_sum_4 I J = some t) (hC : (c_X11_sum Q) t) : Rn L xs (d + 16) 170 37 [some (.ref 0)] [] 94 (I, J, xrf) Q := by
  unfold f_X11_sum_4 at h
  refine Rn.go 1 (j' := 170) (pc' := 39) (ls' := [some (.ref 0)]) (st' := [.int ((-2))]) (n' := 94) (M' := (I, J, xrf)) (fun f => rfl) ?_
  exact p_X11_sum_5 ((-2)) I J h hC
theorem p_X11_sum_3 {L : Nat} {xs : Nat → Int32} {d : Nat} {Q : xO → Prop} (s0 : Int32) (I : xI) (J : xJ) {t : Int32 × xI × xJ} (h : f_X11_sum_3 s0 I J = some t) (hC : (c_X11_sum Q) t) : Rn L xs (d + 16) 170 34 [some (.ref 0)] [.int s0] 94 (I, J, xrf) Q := by
  unfold f_X11_sum_3 at h
  refine Rn.go 1 (j' := 170) (pc' := 39) (ls' := [some (.ref 0)]) (st' := [.int s0]) (n' := 94) (M' := (I, J, xrf)) (fun f => rfl) ?_
  exact p_X11_sum_5 s0 I J h hC
theorem p_X11_sum_2 {L : Nat} {xs : Nat → Int32} {d : Nat} {Q : xO → Prop} (I : xI) (J : xJ) {t : Int32 × xI × xJ} (h : f_X11_sum_2 I J = some t) (hC : (c_X11_sum Q) t) : Rn L xs (d + 16) 170 10 [some (.ref 0)] [] 94 (I, J, xrf) Q := by
  unfold f_X11_sum_2 at h
  refine Rn.go 9 (j' := 170) (pc' := 31) (ls' := [some (.ref 0)]) (st' := [.int 1000, .int ((I 1 0)), .ref 4, .ref 51]) (n' := 94) (M' := (I, J, xrf)) (fun f => rfl) ?_
  obtain ⟨o, ho, h⟩ := Option.bind_eq_some_iff.mp h
  refine Rn.call (d1 := d + 15) (j1 := 31) (ls1 := [some (.ref 51), some (.ref 4), some (.int ((I 1 0))), some (.int 1000), none, none, none]) (rest := []) (fun f => rfl) ?_
  refine p_X2_total_4 (d := d + 0) ((I 1 0)) 1000 I J (t := o) ho ?_
  exact p_X11_sum_3 o.1 o.2.1 o.2.2 h hC
theorem p_X11_sum_1 {L : Nat} {xs : Nat → Int32} {d : Nat} {Q : xO → Prop} (s0 : Int32) (I : xI) (J : xJ) {t : Int32 × xI × xJ} (h : f_X11_sum_1 s0 I J = some t) (hC : (c_X11_sum Q) t) : Rn L xs (d + 16) 170 7 [some (.ref 0)] [.int s0] 94 (I, J, xrf) Q := by
  unfold f_X11_sum_1 at h
  refine Rn.fi 1 (c := s0 = 0) (p1 := 37) (l1 := [some (.ref 0)]) (s1 := []) (n1 := 94) (M1 := (I, J, xrf)) (p2 := 10) (l2 := [some (.ref 0)]) (s2 := []) (n2 := 94) (M2 := (I, J, xrf)) (fun f => rfl) (fun hc => ?_) (fun hc => ?_)
  · rw [if_pos hc] at h
    exact p_X11_sum_4 I J h hC
  · rw [if_neg hc] at h
    exact p_X11_sum_2 I J h hC
theorem p_X11_sum_0 {L : Nat} {xs : Nat → Int32} {d : Nat} {Q : xO → Prop} (I : xI) (J : xJ) {t : Int32 × xI × xJ} (h : f_X11_sum_0 I J = some t) (hC : (c_X11_sum Q) t) : Rn L xs (d + 16) 170 0 [some (.ref 0)] [] 94 (I, J, xrf) Q := by
  unfold f_X11_sum_0 at h
  refine Rn.go 2 (j' := 170) (pc' := 4) (ls' := [some (.ref 0)]) (st' := [.ref 1]) (n' := 94) (M' := (I, J, xrf)) (fun f => rfl) ?_
  obtain ⟨o, ho, h⟩ := Option.bind_eq_some_iff.mp h
  refine Rn.call (d1 := d + 15) (j1 := 63) (ls1 := [some (.ref 1), none, none]) (rest := []) (fun f => rfl) ?_
  refine p_X5_isProper (d := d + 13) I J (t := o) ho ?_
  exact p_X11_sum_1 o.1 o.2.1 o.2.2 h hC
theorem p_X11_sum {L : Nat} {xs : Nat → Int32} {d : Nat} {Q : xO → Prop} (I : xI) (J : xJ) {t : Int32 × xI × xJ} (h : f_X11_sum I J = some t) (hC : Q ((some (.int t.1)), 94, (t.2.1, t.2.2, xrf))) : Rn L xs (d + 16) 170 0 [some (.ref 0)] [] 94 (I, J, xrf) Q := p_X11_sum_0 I J h hC
/-! X2_nextCode -/
def c_X2_nextCode (Q : xO → Prop) (t : Int32 × xI × xJ) : Prop := Q ((some (.int t.1)), 94, (t.2.1, t.2.2, xrf))
def c_X2_nextCode_1 (L : Nat) (xs : Nat → Int32) (d : Nat) (Q : xO → Prop) (t : (Int32 × Int32 × Int32 × Int32 × (Option Value) × (Option Value) × xI × xJ) ⊕ (Int32 × xI × xJ)) : Prop := match t with
  | .inl s => Rn L xs (d + 29) 32 5 [some (.ref 51), some (.int s.1), some (.int s.2.1), some (.int s.2.2.1), some (.int s.2.2.2.1), s.2.2.2.2.1, s.2.2.2.2.2.1] [] 94 (s.2.2.2.2.2.2.1, s.2.2.2.2.2.2.2, xrf) Q
  | .inr t => (c_X2_nextCode Q) t
def c_X2_nextCode_5 (L : Nat) (xs : Nat → Int32) (d : Nat) (Q : xO → Prop) (t : (Int32 × Int32 × Int32 × Int32 × Int32 × Int32 × xI × xJ) ⊕ ((Int32 × Int32 × Int32 × Int32 × (Option Value) × (Option Value) × xI × xJ) ⊕ (Int32 × xI × xJ))) : Prop := match t with
  | .inl s => Rn L xs (d + 29) 32 29 [some (.ref 51), some (.int s.1), some (.int s.2.1), some (.int s.2.2.1), some (.int s.2.2.2.1), some (.int s.2.2.2.2.1), some (.int s.2.2.2.2.2.1)] [] 94 (s.2.2.2.2.2.2.1, s.2.2.2.2.2.2.2, xrf) Q
  | .inr t => (c_X2_nextCode_1 L xs d Q) t
def f_X2_nextCode_8 (x1 : Int32) (x2 : Int32) (x3 : Int32) (x4 : Int32) (z5 : Option Value) (z6 : Option Value) (I : xI) (J : xJ) : Option (Int32 × xI × xJ) := some (x3, I, J)
def f_X2_nextCode_7 (x1 : Int32) (x2 : Int32) (x3 : Int32) (x4 : Int32) (x5 : Int32) (x6 : Int32) (I : xI) (J : xJ) : Option ((Int32 × Int32 × Int32 × Int32 × (Option Value) × (Option Value) × xI × xJ) ⊕ (Int32 × xI × xJ)) := some (.inl (x1, x2, x3, ((x4 + 1)), (some (.int x5)), (some (.int x6)), I, J))
def f_X2_nextCode_6 (x1 : Int32) (x2 : Int32) (x3 : Int32) (x4 : Int32) (x5 : Int32) (x6 : Int32) (I : xI) (J : xJ) : Option ((Int32 × Int32 × Int32 × Int32 × Int32 × Int32 × xI × xJ) ⊕ ((Int32 × Int32 × Int32 × Int32 × (Option Value) × (Option Value) × xI × xJ) ⊕ (Int32 × xI × xJ))) := if x6 < 0 ∨ 8 ≤ x6.toNatClampNeg then none else if (I 55 x6.toNatClampNeg) < 0 ∨ 27 ≤ ((I 55 x6.toNatClampNeg)).toNatClampNeg then none else some (.inl (x1, x2, ((x3 ||| ((((I 52 ((I 55 x6.toNatClampNeg)).toNatClampNeg) >>> (x1 &&& 31)) &&& 1) <<< (x4 &&& 31)))), x4, x5, ((x6 + 1)), I, J))
def b_X2_nextCode_5 (x1 : Int32) (x2 : Int32) (x3 : Int32) (x4 : Int32) (x5 : Int32) (x6 : Int32) (I : xI) (J : xJ) : Option ((Int32 × Int32 × Int32 × Int32 × Int32 × Int32 × xI × xJ) ⊕ ((Int32 × Int32 × Int32 × Int32 × (Option Value) × (Option Value) × xI × xJ) ⊕ (Int32 × xI × xJ))) := if x5 ≤ x6 then ((f_X2_nextCode_7 x1 x2 x3 x4 x5 x6 I J)).map .inr else f_X2_nextCode_6 x1 x2 x3 x4 x5 x6 I J
def f_X2_nextCode_5 (x1 : Int32) (x2 : Int32) (x3 : Int32) (x4 : Int32) (x5 : Int32) (x6 : Int32) (I : xI) (J : xJ) : Option ((Int32 × Int32 × Int32 × Int32 × (Option Value) × (Option Value) × xI × xJ) ⊕ (Int32 × xI × xJ)) := xloop (fun s : Int32 × Int32 × Int32 × Int32 × Int32 × Int32 × xI × xJ => b_X2_nextCode_5 s.1 s.2.1 s.2.2.1 s.2.2.2.1 s.2.2.2.2.1 s.2.2.2.2.2.1 s.2.2.2.2.2.2.1 s.2.2.2.2.2.2.2) 5000 (x1, x2, x3, x4, x5, x6, I, J)
def f_X2_nextCode_4 (x1 : Int32) (x2 : Int32) (x3 : Int32) (x4 : Int32) (z5 : Option Value) (z6 : Option Value) (s0 : Int32) (I : xI) (J : xJ) : Option ((Int32 × Int32 × Int32 × Int32 × (Option Value) × (Option Value) × xI × xJ) ⊕ (Int32 × xI × xJ)) := f_X2_nextCode_5 x1 x2 x3 x4 s0 0 I J
def f_X2_nextCode_3 (x1 : Int32) (x2 : Int32) (x3 : Int32) (x4 : Int32) (z5 : Option Value) (z6 : Option Value) (I : xI) (J : xJ) : Option ((Int32 × Int32 × Int32 × Int32 × (Option Value) × (Option Value) × xI × xJ) ⊕ (Int32 × xI × xJ)) := (f_X2_list x4 x2 I J).bind fun o => f_X2_nextCode_4 x1 x2 x3 x4 z5 z6 o.1 o.2.1 o.2.2
def f_X2_nextCode_2 (x1 : Int32) (x2 : Int32) (x3 : Int32) (x4 : Int32) (z5 : Option Value) (z6 : Option Value) (s0 : Int32) (s1 : Int32) (I : xI) (J : xJ) : Option ((Int32 × Int32 × Int32 × Int32 × (Option Value) × (Option Value) × xI × xJ) ⊕ (Int32 × xI × xJ)) := if s1 ≤ s0 then ((f_X2_nextCode_8 x1 x2 x3 x4 z5 z6 I J)).map .inr else f_X2_nextCode_3 x1 x2 x3 x4 z5 z6 I J
def b_X2_nextCode_1 (x1 : Int32) (x2 : Int32) (x3 : Int32) (x4 : Int32) (z5 : Option Value) (z6 : Option Value) (I : xI) (J : xJ) : Option ((Int32 × Int32 × Int32 × Int32 × (Option Value) × (Option Value) × xI × xJ) ⊕ (Int32 × xI × xJ)) := (f_X5_bits I J).bind fun o => f_X2_nextCode_2 x1 x2 x3 x4 z5 z6 x4 o.1 o.2.1 o.2.2
def f_X2_nextCode_1 (x1 : Int32) (x2 : Int32) (x3 : Int32) (x4 : Int32) (z5 : Option Value) (z6 : Option Value) (I : xI) (J : xJ) : Option (Int32 × xI × xJ) := xloop (fun s : Int32 × Int32 × Int32 × Int32 × (Option Value) × (Option Value) × xI × xJ => b_X2_nextCode_1 s.1 s.2.1 s.2.2.1 s.2.2.2.1 s.2.2.2.2.1 s.2.2.2.2.2.1 s.2.2.2.2.2.2.1 s.2.2.2.2.2.2.2) 5000 (x1, x2, x3, x4, z5, z6, I, J)
def f_X2_nextCode_0 (x1 : Int32) (x2 : Int32) (I : xI) (J : xJ) : Option (Int32 × xI × xJ) := f_X2_nextCode_1 x1 x2 0 0 none none I J
def f_X2_nextCode (x1 : Int32) (x2 : Int32) (I : xI) (J : xJ) : Option (Int32 × xI × xJ) := f_X2_nextCode_0 x1 x2 I J
theorem p_X2_nextCode_8 {L : Nat} {xs : Nat → Int32} {d : Nat} {Q : xO → Prop} (x1 : Int32) (x2 : Int32) (x3 : Int32) (x4 : Int32) (z5 : Option Value) (z6 : Option Value) (I : xI) (J : xJ) {t : Int32 × xI × xJ} (h : f_X2_nextCode_8 x1 x2 x3 x4 z5 z6 I J = some t) (hC : (c_X2_nextCode Q) t) : Rn L xs (d + 29) 32 70 [some (.ref 51), some (.int x1), some (.int x2), some (.int x3), some (.int x4), z5, z6] [] 94 (I, J, xrf) Q := by
  unfold f_X2_nextCode_8 at h
  cases h
  exact Rn.ret 2 (o := ((some (.int x3)), 94, (I, J, xrf))) (fun f => rfl) hC
theorem p_X2_nextCode_7 {L : Nat} {xs : Nat → Int32} {d : Nat} {Q : xO → Prop} (x1 : Int32) (x2 : Int32) (x3 : Int32) (x4 : Int32) (x5 : Int32) (x6 : Int32) (I : xI) (J : xJ) {t : (Int32 × Int32 × Int32 × Int32 × (Option Value) × (Option Value) × xI × xJ) ⊕ (Int32 × xI × xJ)} (h : f_X2_nextCode_7 x1 x2 x3 x4 x5 x6 I J = some t) (hC : (c_X2_nextCode_1 L xs d Q) t) : Rn L xs (d + 29) 32 64 [some (.ref 51), some (.int x1), some (.int x2), some (.int x3), some (.int x4), some (.int x5), some (.int x6)] [] 94 (I, J, xrf) Q := by
  unfold f_X2_nextCode_7 at h
  refine Rn.go 2 (j' := 32) (pc' := 5) (ls' := [some (.ref 51), some (.int x1), some (.int x2), some (.int x3), some (.int ((x4 + 1))), some (.int x5), some (.int x6)]) (st' := []) (n' := 94) (M' := (I, J, xrf)) (fun f => rfl) ?_
  cases h; exact hC
theorem p_X2_nextCode_6 {L : Nat} {xs : Nat → Int32} {d : Nat} {Q : xO → Prop} (x1 : Int32) (x2 : Int32) (x3 : Int32) (x4 : Int32) (x5 : Int32) (x6 : Int32) (I : xI) (J : xJ) {t : (Int32 × Int32 × Int32 × Int32 × Int32 × Int32 × xI × xJ) ⊕ ((Int32 × Int32 × Int32 × Int32 × (Option Value) × (Option Value) × xI × xJ) ⊕ (Int32 × xI × xJ))} (h : f_X2_nextCode_6 x1 x2 x3 x4 x5 x6 I J = some t) (hC : (c_X2_nextCode_5 L xs d Q) t) : Rn L xs (d + 29) 32 36 [some (.ref 51), some (.int x1), some (.int x2), some (.int x3), some (.int x4), some (.int x5), some (.int x6)] [] 94 (I, J, xrf) Q := by
  unfold f_X2_nextCode_6 at h
  obtain ⟨hc, h⟩ := xif h
  refine Rn.ok 7 (c := x6 < 0 ∨ 8 ≤ x6.toNatClampNeg) (p1 := 48) (l1 := [some (.ref 51), some (.int x1), some (.int x2), some (.int x3), some (.int x4), some (.int x5), some (.int x6)]) (s1 := [.int ((I 55 x6.toNatClampNeg)), .ref 52, .int x3]) (n1 := 94) (M1 := (I, J, xrf)) (fun f => rfl) hc ?_
  obtain ⟨hc, h⟩ := xif h
  refine Rn.ok 1 (c := (I 55 x6.toNatClampNeg) < 0 ∨ 27 ≤ ((I 55 x6.toNatClampNeg)).toNatClampNeg) (p1 := 49) (l1 := [some (.ref 51), some (.int x1), some (.int x2), some (.int x3), some (.int x4), some (.int x5), some (.int x6)]) (s1 := [.int ((I 52 ((I 55 x6.toNatClampNeg)).toNatClampNeg)), .int x3]) (n1 := 94) (M1 := (I, J, xrf)) (fun f => rfl) hc ?_
  refine Rn.go 10 (j' := 32) (pc' := 29) (ls' := [some (.ref 51), some (.int x1), some (.int x2), some (.int ((x3 ||| ((((I 52 ((I 55 x6.toNatClampNeg)).toNatClampNeg) >>> (x1 &&& 31)) &&& 1) <<< (x4 &&& 31))))), some (.int x4), some (.int x5), some (.int ((x6 + 1)))]) (st' := []) (n' := 94) (M' := (I, J, xrf)) (fun f => rfl) ?_
  cases h; exact hC
theorem q_X2_nextCode_5 {L : Nat} {xs : Nat → Int32} {d : Nat} {Q : xO → Prop} (x1 : Int32) (x2 : Int32) (x3 : Int32) (x4 : Int32) (x5 : Int32) (x6 : Int32) (I : xI) (J : xJ) {t : (Int32 × Int32 × Int32 × Int32 × Int32 × Int32 × xI × xJ) ⊕ ((Int32 × Int32 × Int32 × Int32 × (Option Value) × (Option Value) × xI × xJ) ⊕ (Int32 × xI × xJ))} (h : b_X2_nextCode_5 x1 x2 x3 x4 x5 x6 I J = some t) (hC : (c_X2_nextCode_5 L xs d Q) t) : Rn L xs (d + 29) 32 29 [some (.ref 51), some (.int x1), some (.int x2), some (.int x3), some (.int x4), some (.int x5), some (.int x6)] [] 94 (I, J, xrf) Q := by
  unfold b_X2_nextCode_5 at h
  refine Rn.fi 3 (c := x5 ≤ x6) (p1 := 64) (l1 := [some (.ref 51), some (.int x1), some (.int x2), some (.int x3), some (.int x4), some (.int x5), some (.int x6)]) (s1 := []) (n1 := 94) (M1 := (I, J, xrf)) (p2 := 36) (l2 := [some (.ref 51), some (.int x1), some (.int x2), some (.int x3), some (.int x4), some (.int x5), some (.int x6)]) (s2 := []) (n2 := 94) (M2 := (I, J, xrf)) (fun f => rfl) (fun hc => ?_) (fun hc => ?_)
  · rw [if_pos hc] at h
    obtain ⟨t0, h0, rfl⟩ := Option.map_eq_some_iff.mp h
    exact p_X2_nextCode_7 x1 x2 x3 x4 x5 x6 I J h0 hC
  · rw [if_neg hc] at h
    exact p_X2_nextCode_6 x1 x2 x3 x4 x5 x6 I J h hC
theorem p_X2_nextCode_5 {L : Nat} {xs : Nat → Int32} {d : Nat} {Q : xO → Prop} (x1 : Int32) (x2 : Int32) (x3 : Int32) (x4 : Int32) (x5 : Int32) (x6 : Int32) (I : xI) (J : xJ) {t : (Int32 × Int32 × Int32 × Int32 × (Option Value) × (Option Value) × xI × xJ) ⊕ (Int32 × xI × xJ)} (h : f_X2_nextCode_5 x1 x2 x3 x4 x5 x6 I J = some t) (hC : (c_X2_nextCode_1 L xs d Q) t) : Rn L xs (d + 29) 32 29 [some (.ref 51), some (.int x1), some (.int x2), some (.int x3), some (.int x4), some (.int x5), some (.int x6)] [] 94 (I, J, xrf) Q := by
  unfold f_X2_nextCode_5 at h
  exact xloop_some (P := fun s : Int32 × Int32 × Int32 × Int32 × Int32 × Int32 × xI × xJ => Rn L xs (d + 29) 32 29 [some (.ref 51), some (.int s.1), some (.int s.2.1), some (.int s.2.2.1), some (.int s.2.2.2.1), some (.int s.2.2.2.2.1), some (.int s.2.2.2.2.2.1)] [] 94 (s.2.2.2.2.2.2.1, s.2.2.2.2.2.2.2, xrf) Q) t (fun s ⟨s', hb, hp⟩ => q_X2_nextCode_5 s.1 s.2.1 s.2.2.1 s.2.2.2.1 s.2.2.2.2.1 s.2.2.2.2.2.1 s.2.2.2.2.2.2.1 s.2.2.2.2.2.2.2 hb hp) (fun s hb => q_X2_nextCode_5 s.1 s.2.1 s.2.2.1 s.2.2.2.1 s.2.2.2.2.1 s.2.2.2.2.2.1 s.2.2.2.2.2.2.1 s.2.2.2.2.2.2.2 hb hC) _ _ h
theorem p_X2_nextCode_4 {L : Nat} {xs : Nat → Int32} {d : Nat} {Q : xO → Prop} (x1 : Int32) (x2 : Int32) (x3 : Int32) (x4 : Int32) (z5 : Option Value) (z6 : Option Value) (s0 : Int32) (I : xI) (J : xJ) {t : (Int32 × Int32 × Int32 × Int32 × (Option Value) × (Option Value) × xI × xJ) ⊕ (Int32 × xI × xJ)} (h : f_X2_nextCode_4 x1 x2 x3 x4 z5 z6 s0 I J = some t) (hC : (c_X2_nextCode_1 L xs d Q) t) : Rn L xs (d + 29) 32 24 [some (.ref 51), some (.int x1), some (.int x2), some (.int x3), some (.int x4), z5, z6] [.int s0] 94 (I, J, xrf) Q := by
  unfold f_X2_nextCode_4 at h
  refine Rn.go 3 (j' := 32) (pc' := 29) (ls' := [some (.ref 51), some (.int x1), some (.int x2), some (.int x3), some (.int x4), some (.int s0), some (.int 0)]) (st' := []) (n' := 94) (M' := (I, J, xrf)) (fun f => rfl) ?_
  exact p_X2_nextCode_5 x1 x2 x3 x4 s0 0 I J h hC
theorem p_X2_nextCode_3 {L : Nat} {xs : Nat → Int32} {d : Nat} {Q : xO → Prop} (x1 : Int32) (x2 : Int32) (x3 : Int32) (x4 : Int32) (z5 : Option Value) (z6 : Option Value) (I : xI) (J : xJ) {t : (Int32 × Int32 × Int32 × Int32 × (Option Value) × (Option Value) × xI × xJ) ⊕ (Int32 × xI × xJ)} (h : f_X2_nextCode_3 x1 x2 x3 x4 z5 z6 I J = some t) (hC : (c_X2_nextCode_1 L xs d Q) t) : Rn L xs (d + 29) 32 17 [some (.ref 51), some (.int x1), some (.int x2), some (.int x3), some (.int x4), z5, z6] [] 94 (I, J, xrf) Q := by
  unfold f_X2_nextCode_3 at h
  refine Rn.go 3 (j' := 32) (pc' := 21) (ls' := [some (.ref 51), some (.int x1), some (.int x2), some (.int x3), some (.int x4), z5, z6]) (st' := [.int x2, .int x4, .ref 51]) (n' := 94) (M' := (I, J, xrf)) (fun f => rfl) ?_
  obtain ⟨o, ho, h⟩ := Option.bind_eq_some_iff.mp h
  refine Rn.call (d1 := d + 28) (j1 := 29) (ls1 := [some (.ref 51), some (.int x4), some (.int x2), none]) (rest := []) (fun f => rfl) ?_
  refine p_X2_list (d := d + 0) x4 x2 I J (t := o) ho ?_
  exact p_X2_nextCode_4 x1 x2 x3 x4 z5 z6 o.1 o.2.1 o.2.2 h hC
theorem p_X2_nextCode_2 {L : Nat} {xs : Nat → Int32} {d : Nat} {Q : xO → Prop} (x1 : Int32) (x2 : Int32) (x3 : Int32) (x4 : Int32) (z5 : Option Value) (z6 : Option Value) (s0 : Int32) (s1 : Int32) (I : xI) (J : xJ) {t : (Int32 × Int32 × Int32 × Int32 × (Option Value) × (Option Value) × xI × xJ) ⊕ (Int32 × xI × xJ)} (h : f_X2_nextCode_2 x1 x2 x3 x4 z5 z6 s0 s1 I J = some t) (hC : (c_X2_nextCode_1 L xs d Q) t) : Rn L xs (d + 29) 32 14 [some (.ref 51), some (.int x1), some (.int x2), some (.int x3), some (.int x4), z5, z6] [.int s1, .int s0] 94 (I, J, xrf) Q := by
  unfold f_X2_nextCode_2 at h
  refine Rn.fi 1 (c := s1 ≤ s0) (p1 := 70) (l1 := [some (.ref 51), some (.int x1), some (.int x2), some (.int x3), some (.int x4), z5, z6]) (s1 := []) (n1 := 94) (M1 := (I, J, xrf)) (p2 := 17) (l2 := [some (.ref 51), some (.int x1), some (.int x2), some (.int x3), some (.int x4), z5, z6]) (s2 := []) (n2 := 94) (M2 := (I, J, xrf)) (fun f => rfl) (fun hc => ?_) (fun hc => ?_)
  · rw [if_pos hc] at h
    obtain ⟨t0, h0, rfl⟩ := Option.map_eq_some_iff.mp h
    exact p_X2_nextCode_8 x1 x2 x3 x4 z5 z6 I J h0 hC
  · rw [if_neg hc] at h
    exact p_X2_nextCode_3 x1 x2 x3 x4 z5 z6 I J h hC
theorem q_X2_nextCode_1 {L : Nat} {xs : Nat → Int32} {d : Nat} {Q : xO → Prop} (x1 : Int32) (x2 : Int32) (x3 : Int32) (x4 : Int32) (z5 : Option Value) (z6 : Option Value) (I : xI) (J : xJ) {t : (Int32 × Int32 × Int32 × Int32 × (Option Value) × (Option Value) × xI × xJ) ⊕ (Int32 × xI × xJ)} (h : b_X2_nextCode_1 x1 x2 x3 x4 z5 z6 I J = some t) (hC : (c_X2_nextCode_1 L xs d Q) t) : Rn L xs (d + 29) 32 5 [some (.ref 51), some (.int x1), some (.int x2), some (.int x3), some (.int x4), z5, z6] [] 94 (I, J, xrf) Q := by
  unfold b_X2_nextCode_1 at h
  refine Rn.go 3 (j' := 32) (pc' := 11) (ls' := [some (.ref 51), some (.int x1), some (.int x2), some (.int x3), some (.int x4), z5, z6]) (st' := [.ref 1, .int x4]) (n' := 94) (M' := (I, J, xrf)) (fun f => rfl) ?_
  obtain ⟨o, ho, h⟩ := Option.bind_eq_some_iff.mp h
  refine Rn.call (d1 := d + 28) (j1 := 62) (ls1 := [some (.ref 1)]) (rest := [.int x4]) (fun f => rfl) ?_
  refine p_X5_bits (d := d + 27) I J (t := o) ho ?_
  exact p_X2_nextCode_2 x1 x2 x3 x4 z5 z6 x4 o.1 o.2.1 o.2.2 h hC
theorem p_X2_nextCode_1 {L : Nat} {xs : Nat → Int32} {d : Nat} {Q : xO → Prop} (x1 : Int32) (x2 : Int32) (x3 : Int32) (x4 : Int32) (z5 : Option Value) (z6 : Option Value) (I : xI) (J : xJ) {t : Int32 × xI × xJ} (h : f_X2_nextCode_1 x1 x2 x3 x4 z5 z6 I J = some t) (hC : (c_X2_nextCode Q) t) : Rn L xs (d + 29) 32 5 [some (.ref 51), some (.int x1), some (.int x2), some (.int x3), some (.int x4), z5, z6] [] 94 (I, J, xrf) Q := by
  unfold f_X2_nextCode_1 at h
  exact xloop_some (P := fun s : Int32 × Int32 × Int32 × Int32 × (Option Value) × (Option Value) × xI × xJ => Rn L xs (d + 29) 32 5 [some (.ref 51), some (.int s.1), some (.int s.2.1), some (.int s.2.2.1), some (.int s.2.2.2.1), s.2.2.2.2.1, s.2.2.2.2.2.1] [] 94 (s.2.2.2.2.2.2.1, s.2.2.2.2.2.2.2, xrf) Q) t (fun s ⟨s', hb, hp⟩ => q_X2_nextCode_1 s.1 s.2.1 s.2.2.1 s.2.2.2.1 s.2.2.2.2.1 s.2.2.2.2.2.1 s.2.2.2.2.2.2.1 s.2.2.2.2.2.2.2 hb hp) (fun s hb => q_X2_nextCode_1 s.1 s.2.1 s.2.2.1 s.2.2.2.1 s.2.2.2.2.1 s.2.2.2.2.2.1 s.2.2.2.2.2.2.1 s.2.2.2.2.2.2.2 hb hC) _ _ h
theorem p_X2_nextCode_0 {L : Nat} {xs : Nat → Int32} {d : Nat} {Q : xO → Prop} (x1 : Int32) (x2 : Int32) (I : xI) (J : xJ) {t : Int32 × xI × xJ} (h : f_X2_nextCode_0 x1 x2 I J = some t) (hC : (c_X2_nextCode Q) t) : Rn L xs (d + 29) 32 0 [some (.ref 51), some (.int x1), some (.int x2), none, none, none, none] [] 94 (I, J, xrf) Q := by
  unfold f_X2_nextCode_0 at h
  refine Rn.go 4 (j' := 32) (pc' := 5) (ls' := [some (.ref 51), some (.int x1), some (.int x2), some (.int 0), some (.int 0), none, none]) (st' := []) (n' := 94) (M' := (I, J, xrf)) (fun f => rfl) ?_
  exact p_X2_nextCode_1 x1 x2 0 0 none none I J h hC
theorem p_X2_nextCode {L : Nat} {xs : Nat → Int32} {d : Nat} {Q : xO → Prop} (x1 : Int32) (x2 : Int32) (I : xI) (J : xJ) {t : Int32 × xI × xJ} (h : f_X2_nextCode x1 x2 I J = some t) (hC : Q ((some (.int t.1)), 94, (t.2.1, t.2.2, xrf))) : Rn L xs (d + 29) 32 0 [some (.ref 51), some (.int x1), some (.int x2), none, none, none, none] [] 94 (I, J, xrf) Q := p_X2_nextCode_0 x1 x2 I J h hC
/-! X11_coded -/
def c_X11_coded (Q : xO → Prop) (t : Int32 × xI × xJ) : Prop := Q ((some (.int t.1)), 94, (t.2.1, t.2.2, xrf))
def f_X11_coded_5 (x1 : Int32) (x2 : Int32) (I : xI) (J : xJ) : Option (Int32 × xI × xJ) := some ((-1), I, J)
def f_X11_coded_11 (x1 : Int32) (x2 : Int32) (s0 : Int32) (I : xI) (J : xJ) : Option (Int32 × xI × xJ) := some (s0, I, J)
def f_X11_coded_10 (x1 : Int32) (x2 : Int32) (I : xI) (J : xJ) : Option (Int32 × xI × xJ) := f_X11_coded_11 x1 x2 ((-2)) I J
def f_X11_coded_9 (x1 : Int32) (x2 : Int32) (s0 : Int32) (I : xI) (J : xJ) : Option (Int32 × xI × xJ) := f_X11_coded_11 x1 x2 s0 I J
def f_X11_coded_8 (x1 : Int32) (x2 : Int32) (I : xI) (J : xJ) : Option (Int32 × xI × xJ) := (f_X2_nextCode x1 x2 I J).bind fun o => f_X11_coded_9 x1 x2 o.1 o.2.1 o.2.2
def f_X11_coded_7 (x1 : Int32) (x2 : Int32) (s0 : Int32) (I : xI) (J : xJ) : Option (Int32 × xI × xJ) := if s0 = 0 then f_X11_coded_10 x1 x2 I J else f_X11_coded_8 x1 x2 I J
def f_X11_coded_6 (x1 : Int32) (x2 : Int32) (I : xI) (J : xJ) : Option (Int32 × xI × xJ) := (f_X5_isProper I J).bind fun o => f_X11_coded_7 x1 x2 o.1 o.2.1 o.2.2
def f_X11_coded_4 (x1 : Int32) (x2 : Int32) (s0 : Int32) (I : xI) (J : xJ) : Option (Int32 × xI × xJ) := if s0 = 0 then f_X11_coded_5 x1 x2 I J else f_X11_coded_6 x1 x2 I J
def f_X11_coded_3 (x1 : Int32) (x2 : Int32) (I : xI) (J : xJ) : Option (Int32 × xI × xJ) := (f_X5_hasInput x2 I J).bind fun o => f_X11_coded_4 x1 x2 o.1 o.2.1 o.2.2
def f_X11_coded_2 (x1 : Int32) (x2 : Int32) (s0 : Int32) (s1 : Int32) (s2 : Int32) (I : xI) (J : xJ) : Option (Int32 × xI × xJ) := if (s1 <<< (s2 &&& 31)) ≤ s0 then f_X11_coded_5 x1 x2 I J else f_X11_coded_3 x1 x2 I J
def f_X11_coded_1 (x1 : Int32) (x2 : Int32) (I : xI) (J : xJ) : Option (Int32 × xI × xJ) := (f_X5_bits I J).bind fun o => f_X11_coded_2 x1 x2 x1 1 o.1 o.2.1 o.2.2
def f_X11_coded_0 (x1 : Int32) (x2 : Int32) (I : xI) (J : xJ) : Option (Int32 × xI × xJ) := if x1 < 0 then f_X11_coded_5 x1 x2 I J else f_X11_coded_1 x1 x2 I J
def f_X11_coded (x1 : Int32) (x2 : Int32) (I : xI) (J : xJ) : Option (Int32 × xI × xJ) := f_X11_coded_0 x1 x2 I J
theorem p_X11_coded_5 {L : Nat} {xs : Nat → Int32} {d : Nat} {Q : xO → Prop} (x1 : Int32) (x2 : Int32) (I : xI) (J : xJ) {t : Int32 × xI × xJ} (h : f_X11_coded_5 x1 x2 I J = some t) (hC : (c_X11_coded Q) t) : Rn L xs (d + 30) 171 28 [some (.ref 0), some (.int x1), some (.int x2)] [] 94 (I, J, xrf) Q := by
  unfold f_X11_coded_5 at h
  cases h
  exact Rn.ret 2 (o := ((some (.int ((-1)))), 94, (I, J, xrf))) (fun f => rfl) hC
theorem p_X11_coded_11 {L : Nat} {xs : Nat → Int32} {d : Nat} {Q : xO → Prop} (x1 : Int32) (x2 : Int32) (s0 : Int32) (I : xI) (J : xJ) {t : Int32 × xI × xJ} (h : f_X11_coded_11 x1 x2 s0 I J = some t) (hC : (c_X11_coded Q) t) : Rn L xs (d + 30) 171 54 [some (.ref 0), some (.int x1), some (.int x2)] [.int s0] 94 (I, J, xrf) Q := by
  unfold f_X11_coded_11 at h
  cases h
  exact Rn.ret 1 (o := ((some (.int s0)), 94, (I, J, xrf))) (fun f => rfl) hC
theorem p_X11_coded_10 {L : Nat} {xs : Nat → Int32} {d : Nat} {Q : xO → Prop} (x1 : Int32) (x2 : Int32) (I : xI) (J : xJ) {t : Int32 × xI × xJ} (h : f_X11_coded_10 x1 x2 I J = some t) (hC : (c_X11_coded Q) t) : Rn L xs (d + 30) 171 52 [some (.ref 0), some (.int x1), some (.int x2)] [] 94 (I, J, xrf) Q := by
  unfold f_X11_coded_10 at h
  refine Rn.go 1 (j' := 171) (pc' := 54) (ls' := [some (.ref 0), some (.int x1), some (.int x2)]) (st' := [.int ((-2))]) (n' := 94) (M' := (I, J, xrf)) (fun f => rfl) ?_
  exact p_X11_coded_11 x1 x2 ((-2)) I J h hC
theorem p_X11_coded_9 {L : Nat} {xs : Nat → Int32} {d : Nat} {Q : xO → Prop} (x1 : Int32) (x2 : Int32) (s0 : Int32) (I : xI) (J : xJ) {t : Int32 × xI × xJ} (h : f_X11_coded_9 x1 x2 s0 I J = some t) (hC : (c_X11_coded Q) t) : Rn L xs (d + 30) 171 49 [some (.ref 0), some (.int x1), some (.int x2)] [.int s0] 94 (I, J, xrf) Q := by
  unfold f_X11_coded_9 at h
  refine Rn.go 1 (j' := 171) (pc' := 54) (ls' := [some (.ref 0), some (.int x1), some (.int x2)]) (st' := [.int s0]) (n' := 94) (M' := (I, J, xrf)) (fun f => rfl) ?_
  exact p_X11_coded_11 x1 x2 s0 I J h hC
theorem p_X11_coded_8 {L : Nat} {xs : Nat → Int32} {d : Nat} {Q : xO → Prop} (x1 : Int32) (x2 : Int32) (I : xI) (J : xJ) {t : Int32 × xI × xJ} (h : f_X11_coded_8 x1 x2 I J = some t) (hC : (c_X11_coded Q) t) : Rn L xs (d + 30) 171 40 [some (.ref 0), some (.int x1), some (.int x2)] [] 94 (I, J, xrf) Q := by
  unfold f_X11_coded_8 at h
  refine Rn.go 4 (j' := 171) (pc' := 46) (ls' := [some (.ref 0), some (.int x1), some (.int x2)]) (st' := [.int x2, .int x1, .ref 51]) (n' := 94) (M' := (I, J, xrf)) (fun f => rfl) ?_
  obtain ⟨o, ho, h⟩ := Option.bind_eq_some_iff.mp h
  refine Rn.call (d1 := d + 29) (j1 := 32) (ls1 := [some (.ref 51), some (.int x1), some (.int x2), none, none, none, none]) (rest := []) (fun f => rfl) ?_
  refine p_X2_nextCode (d := d + 0) x1 x2 I J (t := o) ho ?_
  exact p_X11_coded_9 x1 x2 o.1 o.2.1 o.2.2 h hC
theorem p_X11_coded_7 {L : Nat} {xs : Nat → Int32} {d : Nat} {Q : xO → Prop} (x1 : Int32) (x2 : Int32) (s0 : Int32) (I : xI) (J : xJ) {t : Int32 × xI × xJ} (h : f_X11_coded_7 x1 x2 s0 I J = some t) (hC : (c_X11_coded Q) t) : Rn L xs (d + 30) 171 37 [some (.ref 0), some (.int x1), some (.int x2)] [.int s0] 94 (I, J, xrf) Q := by
  unfold f_X11_coded_7 at h
  refine Rn.fi 1 (c := s0 = 0) (p1 := 52) (l1 := [some (.ref 0), some (.int x1), some (.int x2)]) (s1 := []) (n1 := 94) (M1 := (I, J, xrf)) (p2 := 40) (l2 := [some (.ref 0), some (.int x1), some (.int x2)]) (s2 := []) (n2 := 94) (M2 := (I, J, xrf)) (fun f => rfl) (fun hc => ?_) (fun hc => ?_)
  · rw [if_pos hc] at h
    exact p_X11_coded_10 x1 x2 I J h hC
  · rw [if_neg hc] at h
    exact p_X11_coded_8 x1 x2 I J h hC
theorem p_X11_coded_6 {L : Nat} {xs : Nat → Int32} {d : Nat} {Q : xO → Prop} (x1 : Int32) (x2 : Int32) (I : xI) (J : xJ) {t : Int32 × xI × xJ} (h : f_X11_coded_6 x1 x2 I J = some t) (hC : (c_X11_coded Q) t) : Rn L xs (d + 30) 171 30 [some (.ref 0), some (.int x1), some (.int x2)] [] 94 (I, J, xrf) Q := by
  unfold f_X11_coded_6 at h
  refine Rn.go 2 (j' := 171) (pc' := 34) (ls' := [some (.ref 0), some (.int x1), some (.int x2)]) (st' := [.ref 1]) (n' := 94) (M' := (I, J, xrf)) (fun f => rfl) ?_
  obtain ⟨o, ho, h⟩ := Option.bind_eq_some_iff.mp h
  refine Rn.call (d1 := d + 29) (j1 := 63) (ls1 := [some (.ref 1), none, none]) (rest := []) (fun f => rfl) ?_
  refine p_X5_isProper (d := d + 27) I J (t := o) ho ?_
  exact p_X11_coded_7 x1 x2 o.1 o.2.1 o.2.2 h hC
theorem p_X11_coded_4 {L : Nat} {xs : Nat → Int32} {d : Nat} {Q : xO → Prop} (x1 : Int32) (x2 : Int32) (s0 : Int32) (I : xI) (J : xJ) {t : Int32 × xI × xJ} (h : f_X11_coded_4 x1 x2 s0 I J = some t) (hC : (c_X11_coded Q) t) : Rn L xs (d + 30) 171 25 [some (.ref 0), some (.int x1), some (.int x2)] [.int s0] 94 (I, J, xrf) Q := by
  unfold f_X11_coded_4 at h
  refine Rn.fi 1 (c := s0 = 0) (p1 := 28) (l1 := [some (.ref 0), some (.int x1), some (.int x2)]) (s1 := []) (n1 := 94) (M1 := (I, J, xrf)) (p2 := 30) (l2 := [some (.ref 0), some (.int x1), some (.int x2)]) (s2 := []) (n2 := 94) (M2 := (I, J, xrf)) (fun f => rfl) (fun hc => ?_) (fun hc => ?_)
  · rw [if_pos hc] at h
    exact p_X11_coded_5 x1 x2 I J h hC
  · rw [if_neg hc] at h
    exact p_X11_coded_6 x1 x2 I J h hC
theorem p_X11_coded_3 {L : Nat} {xs : Nat → Int32} {d : Nat} {Q : xO → Prop} (x1 : Int32) (x2 : Int32) (I : xI) (J : xJ) {t : Int32 × xI × xJ} (h : f_X11_coded_3 x1 x2 I J = some t) (hC : (c_X11_coded Q) t) : Rn L xs (d + 30) 171 17 [some (.ref 0), some (.int x1), some (.int x2)] [] 94 (I, J, xrf) Q := by
  unfold f_X11_coded_3 at h
  refine Rn.go 3 (j' := 171) (pc' := 22) (ls' := [some (.ref 0), some (.int x1), some (.int x2)]) (st' := [.int x2, .ref 1]) (n' := 94) (M' := (I, J, xrf)) (fun f => rfl) ?_
  obtain ⟨o, ho, h⟩ := Option.bind_eq_some_iff.mp h
  refine Rn.call (d1 := d + 29) (j1 := 52) (ls1 := [some (.ref 1), some (.int x2)]) (rest := []) (fun f => rfl) ?_
  refine p_X5_hasInput (d := d + 28) x2 I J (t := o) ho ?_
  exact p_X11_coded_4 x1 x2 o.1 o.2.1 o.2.2 h hC
theorem p_X11_coded_2 {L : Nat} {xs : Nat → Int32} {d : Nat} {Q : xO → Prop} (x1 : Int32) (x2 : Int32) (s0 : Int32) (s1 : Int32) (s2 : Int32) (I : xI) (J : xJ) {t : Int32 × xI × xJ} (h : f_X11_coded_2 x1 x2 s0 s1 s2 I J = some t) (hC : (c_X11_coded Q) t) : Rn L xs (d + 30) 171 13 [some (.ref 0), some (.int x1), some (.int x2)] [.int s2, .int s1, .int s0] 94 (I, J, xrf) Q := by
  unfold f_X11_coded_2 at h
  refine Rn.fi 2 (c := (s1 <<< (s2 &&& 31)) ≤ s0) (p1 := 28) (l1 := [some (.ref 0), some (.int x1), some (.int x2)]) (s1 := []) (n1 := 94) (M1 := (I, J, xrf)) (p2 := 17) (l2 := [some (.ref 0), some (.int x1), some (.int x2)]) (s2 := []) (n2 := 94) (M2 := (I, J, xrf)) (fun f => rfl) (fun hc => ?_) (fun hc => ?_)
  · rw [if_pos hc] at h
    exact p_X11_coded_5 x1 x2 I J h hC
  · rw [if_neg hc] at h
    exact p_X11_coded_3 x1 x2 I J h hC
theorem p_X11_coded_1 {L : Nat} {xs : Nat → Int32} {d : Nat} {Q : xO → Prop} (x1 : Int32) (x2 : Int32) (I : xI) (J : xJ) {t : Int32 × xI × xJ} (h : f_X11_coded_1 x1 x2 I J = some t) (hC : (c_X11_coded Q) t) : Rn L xs (d + 30) 171 4 [some (.ref 0), some (.int x1), some (.int x2)] [] 94 (I, J, xrf) Q := by
  unfold f_X11_coded_1 at h
  refine Rn.go 4 (j' := 171) (pc' := 10) (ls' := [some (.ref 0), some (.int x1), some (.int x2)]) (st' := [.ref 1, .int 1, .int x1]) (n' := 94) (M' := (I, J, xrf)) (fun f => rfl) ?_
  obtain ⟨o, ho, h⟩ := Option.bind_eq_some_iff.mp h
  refine Rn.call (d1 := d + 29) (j1 := 62) (ls1 := [some (.ref 1)]) (rest := [.int 1, .int x1]) (fun f => rfl) ?_
  refine p_X5_bits (d := d + 28) I J (t := o) ho ?_
  exact p_X11_coded_2 x1 x2 x1 1 o.1 o.2.1 o.2.2 h hC
theorem p_X11_coded_0 {L : Nat} {xs : Nat → Int32} {d : Nat} {Q : xO → Prop} (x1 : Int32) (x2 : Int32) (I : xI) (J : xJ) {t : Int32 × xI × xJ} (h : f_X11_coded_0 x1 x2 I J = some t) (hC : (c_X11_coded Q) t) : Rn L xs (d + 30) 171 0 [some (.ref 0), some (.int x1), some (.int x2)] [] 94 (I, J, xrf) Q := by
  unfold f_X11_coded_0 at h
  refine Rn.fi 2 (c := x1 < 0) (p1 := 28) (l1 := [some (.ref 0), some (.int x1), some (.int x2)]) (s1 := []) (n1 := 94) (M1 := (I, J, xrf)) (p2 := 4) (l2 := [some (.ref 0), some (.int x1), some (.int x2)]) (s2 := []) (n2 := 94) (M2 := (I, J, xrf)) (fun f => rfl) (fun hc => ?_) (fun hc => ?_)
  · rw [if_pos hc] at h
    exact p_X11_coded_5 x1 x2 I J h hC
  · rw [if_neg hc] at h
    exact p_X11_coded_1 x1 x2 I J h hC
theorem p_X11_coded {L : Nat} {xs : Nat → Int32} {d : Nat} {Q : xO → Prop} (x1 : Int32) (x2 : Int32) (I : xI) (J : xJ) {t : Int32 × xI × xJ} (h : f_X11_coded x1 x2 I J = some t) (hC : Q ((some (.int t.1)), 94, (t.2.1, t.2.2, xrf))) : Rn L xs (d + 30) 171 0 [some (.ref 0), some (.int x1), some (.int x2)] [] 94 (I, J, xrf) Q := p_X11_coded_0 x1 x2 I J h hC
/-! X3_alikePairs_57 -/
def c_X3_alikePairs_57 (Q : xO → Prop) (t : Int32 × xI × xJ) : Prop := Q ((some (.int t.1)), 94, (t.2.1, t.2.2, xrf))
def c_X3_alikePairs_57_1 (L : Nat) (xs : Nat → Int32) (d : Nat) (Q : xO → Prop) (t : (Int32 × Int32 × Int32 × (Option Value) × xI × xJ) ⊕ (Int32 × xI × xJ)) : Prop := match t with
  | .inl s => Rn L xs (d + 2) 35 5 [some (.ref 48), some (.ref 57), some (.int s.1), some (.int s.2.1), some (.int s.2.2.1), s.2.2.2.1] [] 94 (s.2.2.2.2.1, s.2.2.2.2.2, xrf) Q
  | .inr t => (c_X3_alikePairs_57 Q) t
def c_X3_alikePairs_57_3 (L : Nat) (xs : Nat → Int32) (d : Nat) (Q : xO → Prop) (t : (Int32 × Int32 × Int32 × Int32 × xI × xJ) ⊕ ((Int32 × Int32 × Int32 × (Option Value) × xI × xJ) ⊕ (Int32 × xI × xJ))) : Prop := match t with
  | .inl s => Rn L xs (d + 2) 35 23 [some (.ref 48), some (.ref 57), some (.int s.1), some (.int s.2.1), some (.int s.2.2.1), some (.int s.2.2.2.1)] [] 94 (s.2.2.2.2.1, s.2.2.2.2.2, xrf) Q
  | .inr t => (c_X3_alikePairs_57_1 L xs d Q) t
def f_X3_alikePairs_57_9 (x2 : Int32) (x3 : Int32) (x4 : Int32) (z5 : Option Value) (I : xI) (J : xJ) : Option (Int32 × xI × xJ) := some (x3, I, J)
def f_X3_alikePairs_57_8 (x2 : Int32) (x3 : Int32) (x4 : Int32) (x5 : Int32) (I : xI) (J : xJ) : Option ((Int32 × Int32 × Int32 × (Option Value) × xI × xJ) ⊕ (Int32 × xI × xJ)) := some (.inl (x2, x3, ((x4 + 1)), (some (.int x5)), I, J))
def f_X3_alikePairs_57_7 (x2 : Int32) (x3 : Int32) (x4 : Int32) (x5 : Int32) (I : xI) (J : xJ) : Option ((Int32 × Int32 × Int32 × Int32 × xI × xJ) ⊕ ((Int32 × Int32 × Int32 × (Option Value) × xI × xJ) ⊕ (Int32 × xI × xJ))) := some (.inl (x2, x3, x4, ((x5 + 1)), I, J))
def f_X3_alikePairs_57_6 (x2 : Int32) (x3 : Int32) (x4 : Int32) (x5 : Int32) (s0 : Int32) (s1 : Int32) (I : xI) (J : xJ) : Option ((Int32 × Int32 × Int32 × Int32 × xI × xJ) ⊕ ((Int32 × Int32 × Int32 × (Option Value) × xI × xJ) ⊕ (Int32 × xI × xJ))) := f_X3_alikePairs_57_7 x2 ((s0 ||| s1)) x4 x5 I J
def f_X3_alikePairs_57_5 (x2 : Int32) (x3 : Int32) (x4 : Int32) (x5 : Int32) (I : xI) (J : xJ) : Option ((Int32 × Int32 × Int32 × Int32 × xI × xJ) ⊕ ((Int32 × Int32 × Int32 × (Option Value) × xI × xJ) ⊕ (Int32 × xI × xJ))) := (f_X11_pairOf x4 x5 I J).bind fun o => f_X3_alikePairs_57_6 x2 x3 x4 x5 x3 o.1 o.2.1 o.2.2
def f_X3_alikePairs_57_4 (x2 : Int32) (x3 : Int32) (x4 : Int32) (x5 : Int32) (I : xI) (J : xJ) : Option ((Int32 × Int32 × Int32 × Int32 × xI × xJ) ⊕ ((Int32 × Int32 × Int32 × (Option Value) × xI × xJ) ⊕ (Int32 × xI × xJ))) := if x4 < 0 ∨ 6 ≤ x4.toNatClampNeg then none else if x5 < 0 ∨ 6 ≤ x5.toNatClampNeg then none else if (((I 57 x4.toNatClampNeg) ^^^ (I 57 x5.toNatClampNeg)) &&& x2) = 0 then f_X3_alikePairs_57_5 x2 x3 x4 x5 I J else f_X3_alikePairs_57_7 x2 x3 x4 x5 I J
def b_X3_alikePairs_57_3 (x2 : Int32) (x3 : Int32) (x4 : Int32) (x5 : Int32) (I : xI) (J : xJ) : Option ((Int32 × Int32 × Int32 × Int32 × xI × xJ) ⊕ ((Int32 × Int32 × Int32 × (Option Value) × xI × xJ) ⊕ (Int32 × xI × xJ))) := if (I 1 0) ≤ x5 then ((f_X3_alikePairs_57_8 x2 x3 x4 x5 I J)).map .inr else f_X3_alikePairs_57_4 x2 x3 x4 x5 I J
def f_X3_alikePairs_57_3 (x2 : Int32) (x3 : Int32) (x4 : Int32) (x5 : Int32) (I : xI) (J : xJ) : Option ((Int32 × Int32 × Int32 × (Option Value) × xI × xJ) ⊕ (Int32 × xI × xJ)) := xloop (fun s : Int32 × Int32 × Int32 × Int32 × xI × xJ => b_X3_alikePairs_57_3 s.1 s.2.1 s.2.2.1 s.2.2.2.1 s.2.2.2.2.1 s.2.2.2.2.2) 5000 (x2, x3, x4, x5, I, J)
def f_X3_alikePairs_57_2 (x2 : Int32) (x3 : Int32) (x4 : Int32) (z5 : Option Value) (I : xI) (J : xJ) : Option ((Int32 × Int32 × Int32 × (Option Value) × xI × xJ) ⊕ (Int32 × xI × xJ)) := f_X3_alikePairs_57_3 x2 x3 x4 ((x4 + 1)) I J
def b_X3_alikePairs_57_1 (x2 : Int32) (x3 : Int32) (x4 : Int32) (z5 : Option Value) (I : xI) (J : xJ) : Option ((Int32 × Int32 × Int32 × (Option Value) × xI × xJ) ⊕ (Int32 × xI × xJ)) := if (I 1 0) ≤ x4 then ((f_X3_alikePairs_57_9 x2 x3 x4 z5 I J)).map .inr else f_X3_alikePairs_57_2 x2 x3 x4 z5 I J
def f_X3_alikePairs_57_1 (x2 : Int32) (x3 : Int32) (x4 : Int32) (z5 : Option Value) (I : xI) (J : xJ) : Option (Int32 × xI × xJ) := xloop (fun s : Int32 × Int32 × Int32 × (Option Value) × xI × xJ => b_X3_alikePairs_57_1 s.1 s.2.1 s.2.2.1 s.2.2.2.1 s.2.2.2.2.1 s.2.2.2.2.2) 5000 (x2, x3, x4, z5, I, J)
def f_X3_alikePairs_57_0 (x2 : Int32) (I : xI) (J : xJ) : Option (Int32 × xI × xJ) := f_X3_alikePairs_57_1 x2 0 0 none I J
def f_X3_alikePairs_57 (x2 : Int32) (I : xI) (J : xJ) : Option (Int32 × xI × xJ) := f_X3_alikePairs_57_0 x2 I J
theorem p_X3_alikePairs_57_9 {L : Nat} {xs : Nat → Int32} {d : Nat} {Q : xO → Prop} (x2 : Int32) (x3 : Int32) (x4 : Int32) (z5 : Option Value) (I : xI) (J : xJ) {t : Int32 × xI × xJ} (h : f_X3_alikePairs_57_9 x2 x3 x4 z5 I J = some t) (hC : (c_X3_alikePairs_57 Q) t) : Rn L xs (d + 2) 35 71 [some (.ref 48), some (.ref 57), some (.int x2), some (.int x3), some (.int x4), z5] [] 94 (I, J, xrf) Q := by
  unfold f_X3_alikePairs_57_9 at h
  cases h
  exact Rn.ret 2 (o := ((some (.int x3)), 94, (I, J, xrf))) (fun f => rfl) hC
theorem p_X3_alikePairs_57_8 {L : Nat} {xs : Nat → Int32} {d : Nat} {Q : xO → Prop} (x2 : Int32) (x3 : Int32) (x4 : Int32) (x5 : Int32) (I : xI) (J : xJ) {t : (Int32 × Int32 × Int32 × (Option Value) × xI × xJ) ⊕ (Int32 × xI × xJ)} (h : f_X3_alikePairs_57_8 x2 x3 x4 x5 I J = some t) (hC : (c_X3_alikePairs_57_1 L xs d Q) t) : Rn L xs (d + 2) 35 65 [some (.ref 48), some (.ref 57), some (.int x2), some (.int x3), some (.int x4), some (.int x5)] [] 94 (I, J, xrf) Q := by
  unfold f_X3_alikePairs_57_8 at h
  refine Rn.go 2 (j' := 35) (pc' := 5) (ls' := [some (.ref 48), some (.ref 57), some (.int x2), some (.int x3), some (.int ((x4 + 1))), some (.int x5)]) (st' := []) (n' := 94) (M' := (I, J, xrf)) (fun f => rfl) ?_
  cases h; exact hC
theorem p_X3_alikePairs_57_7 {L : Nat} {xs : Nat → Int32} {d : Nat} {Q : xO → Prop} (x2 : Int32) (x3 : Int32) (x4 : Int32) (x5 : Int32) (I : xI) (J : xJ) {t : (Int32 × Int32 × Int32 × Int32 × xI × xJ) ⊕ ((Int32 × Int32 × Int32 × (Option Value) × xI × xJ) ⊕ (Int32 × xI × xJ))} (h : f_X3_alikePairs_57_7 x2 x3 x4 x5 I J = some t) (hC : (c_X3_alikePairs_57_3 L xs d Q) t) : Rn L xs (d + 2) 35 59 [some (.ref 48), some (.ref 57), some (.int x2), some (.int x3), some (.int x4), some (.int x5)] [] 94 (I, J, xrf) Q := by
  unfold f_X3_alikePairs_57_7 at h
  refine Rn.go 2 (j' := 35) (pc' := 23) (ls' := [some (.ref 48), some (.ref 57), some (.int x2), some (.int x3), some (.int x4), some (.int ((x5 + 1)))]) (st' := []) (n' := 94) (M' := (I, J, xrf)) (fun f => rfl) ?_
  cases h; exact hC
theorem p_X3_alikePairs_57_6 {L : Nat} {xs : Nat → Int32} {d : Nat} {Q : xO → Prop} (x2 : Int32) (x3 : Int32) (x4 : Int32) (x5 : Int32) (s0 : Int32) (s1 : Int32) (I : xI) (J : xJ) {t : (Int32 × Int32 × Int32 × Int32 × xI × xJ) ⊕ ((Int32 × Int32 × Int32 × (Option Value) × xI × xJ) ⊕ (Int32 × xI × xJ))} (h : f_X3_alikePairs_57_6 x2 x3 x4 x5 s0 s1 I J = some t) (hC : (c_X3_alikePairs_57_3 L xs d Q) t) : Rn L xs (d + 2) 35 57 [some (.ref 48), some (.ref 57), some (.int x2), some (.int x3), some (.int x4), some (.int x5)] [.int s1, .int s0] 94 (I, J, xrf) Q := by
  unfold f_X3_alikePairs_57_6 at h
  refine Rn.go 2 (j' := 35) (pc' := 59) (ls' := [some (.ref 48), some (.ref 57), some (.int x2), some (.int ((s0 ||| s1))), some (.int x4), some (.int x5)]) (st' := []) (n' := 94) (M' := (I, J, xrf)) (fun f => rfl) ?_
  exact p_X3_alikePairs_57_7 x2 ((s0 ||| s1)) x4 x5 I J h hC
theorem p_X3_alikePairs_57_5 {L : Nat} {xs : Nat → Int32} {d : Nat} {Q : xO → Prop} (x2 : Int32) (x3 : Int32) (x4 : Int32) (x5 : Int32) (I : xI) (J : xJ) {t : (Int32 × Int32 × Int32 × Int32 × xI × xJ) ⊕ ((Int32 × Int32 × Int32 × (Option Value) × xI × xJ) ⊕ (Int32 × xI × xJ))} (h : f_X3_alikePairs_57_5 x2 x3 x4 x5 I J = some t) (hC : (c_X3_alikePairs_57_3 L xs d Q) t) : Rn L xs (d + 2) 35 49 [some (.ref 48), some (.ref 57), some (.int x2), some (.int x3), some (.int x4), some (.int x5)] [] 94 (I, J, xrf) Q := by
  unfold f_X3_alikePairs_57_5 at h
  refine Rn.go 3 (j' := 35) (pc' := 54) (ls' := [some (.ref 48), some (.ref 57), some (.int x2), some (.int x3), some (.int x4), some (.int x5)]) (st' := [.int x5, .int x4, .int x3]) (n' := 94) (M' := (I, J, xrf)) (fun f => rfl) ?_
  obtain ⟨o, ho, h⟩ := Option.bind_eq_some_iff.mp h
  refine Rn.call (d1 := d + 1) (j1 := 181) (ls1 := [some (.int x4), some (.int x5), none]) (rest := [.int x3]) (fun f => rfl) ?_
  refine p_X11_pairOf (d := d + 0) x4 x5 I J (t := o) ho ?_
  exact p_X3_alikePairs_57_6 x2 x3 x4 x5 x3 o.1 o.2.1 o.2.2 h hC
theorem p_X3_alikePairs_57_4 {L : Nat} {xs : Nat → Int32} {d : Nat} {Q : xO → Prop} (x2 : Int32) (x3 : Int32) (x4 : Int32) (x5 : Int32) (I : xI) (J : xJ) {t : (Int32 × Int32 × Int32 × Int32 × xI × xJ) ⊕ ((Int32 × Int32 × Int32 × (Option Value) × xI × xJ) ⊕ (Int32 × xI × xJ))} (h : f_X3_alikePairs_57_4 x2 x3 x4 x5 I J = some t) (hC : (c_X3_alikePairs_57_3 L xs d Q) t) : Rn L xs (d + 2) 35 35 [some (.ref 48), some (.ref 57), some (.int x2), some (.int x3), some (.int x4), some (.int x5)] [] 94 (I, J, xrf) Q := by
  unfold f_X3_alikePairs_57_4 at h
  obtain ⟨hc, h⟩ := xif h
  refine Rn.ok 3 (c := x4 < 0 ∨ 6 ≤ x4.toNatClampNeg) (p1 := 39) (l1 := [some (.ref 48), some (.ref 57), some (.int x2), some (.int x3), some (.int x4), some (.int x5)]) (s1 := [.int ((I 57 x4.toNatClampNeg))]) (n1 := 94) (M1 := (I, J, xrf)) (fun f => rfl) hc ?_
  obtain ⟨hc, h⟩ := xif h
  refine Rn.ok 3 (c := x5 < 0 ∨ 6 ≤ x5.toNatClampNeg) (p1 := 43) (l1 := [some (.ref 48), some (.ref 57), some (.int x2), some (.int x3), some (.int x4), some (.int x5)]) (s1 := [.int ((I 57 x5.toNatClampNeg)), .int ((I 57 x4.toNatClampNeg))]) (n1 := 94) (M1 := (I, J, xrf)) (fun f => rfl) hc ?_
  refine Rn.fi 4 (c := (((I 57 x4.toNatClampNeg) ^^^ (I 57 x5.toNatClampNeg)) &&& x2) = 0) (p1 := 49) (l1 := [some (.ref 48), some (.ref 57), some (.int x2), some (.int x3), some (.int x4), some (.int x5)]) (s1 := []) (n1 := 94) (M1 := (I, J, xrf)) (p2 := 59) (l2 := [some (.ref 48), some (.ref 57), some (.int x2), some (.int x3), some (.int x4), some (.int x5)]) (s2 := []) (n2 := 94) (M2 := (I, J, xrf)) (fun f => rfl) (fun hc => ?_) (fun hc => ?_)
  · rw [if_pos hc] at h
    exact p_X3_alikePairs_57_5 x2 x3 x4 x5 I J h hC
  · rw [if_neg hc] at h
    exact p_X3_alikePairs_57_7 x2 x3 x4 x5 I J h hC
theorem q_X3_alikePairs_57_3 {L : Nat} {xs : Nat → Int32} {d : Nat} {Q : xO → Prop} (x2 : Int32) (x3 : Int32) (x4 : Int32) (x5 : Int32) (I : xI) (J : xJ) {t : (Int32 × Int32 × Int32 × Int32 × xI × xJ) ⊕ ((Int32 × Int32 × Int32 × (Option Value) × xI × xJ) ⊕ (Int32 × xI × xJ))} (h : b_X3_alikePairs_57_3 x2 x3 x4 x5 I J = some t) (hC : (c_X3_alikePairs_57_3 L xs d Q) t) : Rn L xs (d + 2) 35 23 [some (.ref 48), some (.ref 57), some (.int x2), some (.int x3), some (.int x4), some (.int x5)] [] 94 (I, J, xrf) Q := by
  unfold b_X3_alikePairs_57_3 at h
  refine Rn.fi 5 (c := (I 1 0) ≤ x5) (p1 := 65) (l1 := [some (.ref 48), some (.ref 57), some (.int x2), some (.int x3), some (.int x4), some (.int x5)]) (s1 := []) (n1 := 94) (M1 := (I, J, xrf)) (p2 := 35) (l2 := [some (.ref 48), some (.ref 57), some (.int x2), some (.int x3), some (.int x4), some (.int x5)]) (s2 := []) (n2 := 94) (M2 := (I, J, xrf)) (fun f => rfl) (fun hc => ?_) (fun hc => ?_)
  · rw [if_pos hc] at h
    obtain ⟨t0, h0, rfl⟩ := Option.map_eq_some_iff.mp h
    exact p_X3_alikePairs_57_8 x2 x3 x4 x5 I J h0 hC
  · rw [if_neg hc] at h
    exact p_X3_alikePairs_57_4 x2 x3 x4 x5 I J h hC
theorem p_X3_alikePairs_57_3 {L : Nat} {xs : Nat → Int32} {d : Nat} {Q : xO → Prop} (x2 : Int32) (x3 : Int32) (x4 : Int32) (x5 : Int32) (I : xI) (J : xJ) {t : (Int32 × Int32 × Int32 × (Option Value) × xI × xJ) ⊕ (Int32 × xI × xJ)} (h : f_X3_alikePairs_57_3 x2 x3 x4 x5 I J = some t) (hC : (c_X3_alikePairs_57_1 L xs d Q) t) : Rn L xs (d + 2) 35 23 [some (.ref 48), some (.ref 57), some (.int x2), some (.int x3), some (.int x4), some (.int x5)] [] 94 (I, J, xrf) Q := by
  unfold f_X3_alikePairs_57_3 at h
  exact xloop_some (P := fun s : Int32 × Int32 × Int32 × Int32 × xI × xJ => Rn L xs (d + 2) 35 23 [some (.ref 48), some (.ref 57), some (.int s.1), some (.int s.2.1), some (.int s.2.2.1), some (.int s.2.2.2.1)] [] 94 (s.2.2.2.2.1, s.2.2.2.2.2, xrf) Q) t (fun s ⟨s', hb, hp⟩ => q_X3_alikePairs_57_3 s.1 s.2.1 s.2.2.1 s.2.2.2.1 s.2.2.2.2.1 s.2.2.2.2.2 hb hp) (fun s hb => q_X3_alikePairs_57_3 s.1 s.2.1 s.2.2.1 s.2.2.2.1 s.2.2.2.2.1 s.2.2.2.2.2 hb hC) _ _ h
theorem p_X3_alikePairs_57_2 {L : Nat} {xs : Nat → Int32} {d : Nat} {Q : xO → Prop} (x2 : Int32) (x3 : Int32) (x4 : Int32) (z5 : Option Value) (I : xI) (J : xJ) {t : (Int32 × Int32 × Int32 × (Option Value) × xI × xJ) ⊕ (Int32 × xI × xJ)} (h : f_X3_alikePairs_57_2 x2 x3 x4 z5 I J = some t) (hC : (c_X3_alikePairs_57_1 L xs d Q) t) : Rn L xs (d + 2) 35 17 [some (.ref 48), some (.ref 57), some (.int x2), some (.int x3), some (.int x4), z5] [] 94 (I, J, xrf) Q := by
  unfold f_X3_alikePairs_57_2 at h
  refine Rn.go 4 (j' := 35) (pc' := 23) (ls' := [some (.ref 48), some (.ref 57), some (.int x2), some (.int x3), some (.int x4), some (.int ((x4 + 1)))]) (st' := []) (n' := 94) (M' := (I, J, xrf)) (fun f => rfl) ?_
  exact p_X3_alikePairs_57_3 x2 x3 x4 ((x4 + 1)) I J h hC
theorem q_X3_alikePairs_57_1 {L : Nat} {xs : Nat → Int32} {d : Nat} {Q : xO → Prop} (x2 : Int32) (x3 : Int32) (x4 : Int32) (z5 : Option Value) (I : xI) (J : xJ) {t : (Int32 × Int32 × Int32 × (Option Value) × xI × xJ) ⊕ (Int32 × xI × xJ)} (h : b_X3_alikePairs_57_1 x2 x3 x4 z5 I J = some t) (hC : (c_X3_alikePairs_57_1 L xs d Q) t) : Rn L xs (d + 2) 35 5 [some (.ref 48), some (.ref 57), some (.int x2), some (.int x3), some (.int x4), z5] [] 94 (I, J, xrf) Q := by
  unfold b_X3_alikePairs_57_1 at h
  refine Rn.fi 5 (c := (I 1 0) ≤ x4) (p1 := 71) (l1 := [some (.ref 48), some (.ref 57), some (.int x2), some (.int x3), some (.int x4), z5]) (s1 := []) (n1 := 94) (M1 := (I, J, xrf)) (p2 := 17) (l2 := [some (.ref 48), some (.ref 57), some (.int x2), some (.int x3), some (.int x4), z5]) (s2 := []) (n2 := 94) (M2 := (I, J, xrf)) (fun f => rfl) (fun hc => ?_) (fun hc => ?_)
  · rw [if_pos hc] at h
    obtain ⟨t0, h0, rfl⟩ := Option.map_eq_some_iff.mp h
    exact p_X3_alikePairs_57_9 x2 x3 x4 z5 I J h0 hC
  · rw [if_neg hc] at h
    exact p_X3_alikePairs_57_2 x2 x3 x4 z5 I J h hC
theorem p_X3_alikePairs_57_1 {L : Nat} {xs : Nat → Int32} {d : Nat} {Q : xO → Prop} (x2 : Int32) (x3 : Int32) (x4 : Int32) (z5 : Option Value) (I : xI) (J : xJ) {t : Int32 × xI × xJ} (h : f_X3_alikePairs_57_1 x2 x3 x4 z5 I J = some t) (hC : (c_X3_alikePairs_57 Q) t) : Rn L xs (d + 2) 35 5 [some (.ref 48), some (.ref 57), some (.int x2), some (.int x3), some (.int x4), z5] [] 94 (I, J, xrf) Q := by
  unfold f_X3_alikePairs_57_1 at h
  exact xloop_some (P := fun s : Int32 × Int32 × Int32 × (Option Value) × xI × xJ => Rn L xs (d + 2) 35 5 [some (.ref 48), some (.ref 57), some (.int s.1), some (.int s.2.1), some (.int s.2.2.1), s.2.2.2.1] [] 94 (s.2.2.2.2.1, s.2.2.2.2.2, xrf) Q) t (fun s ⟨s', hb, hp⟩ => q_X3_alikePairs_57_1 s.1 s.2.1 s.2.2.1 s.2.2.2.1 s.2.2.2.2.1 s.2.2.2.2.2 hb hp) (fun s hb => q_X3_alikePairs_57_1 s.1 s.2.1 s.2.2.1 s.2.2.2.1 s.2.2.2.2.1 s.2.2.2.2.2 hb hC) _ _ h
theorem p_X3_alikePairs_57_0 {L : Nat} {xs : Nat → Int32} {d : Nat} {Q : xO → Prop} (x2 : Int32) (I : xI) (J : xJ) {t : Int32 × xI × xJ} (h : f_X3_alikePairs_57_0 x2 I J = some t) (hC : (c_X3_alikePairs_57 Q) t) : Rn L xs (d + 2) 35 0 [some (.ref 48), some (.ref 57), some (.int x2), none, none, none] [] 94 (I, J, xrf) Q := by
  unfold f_X3_alikePairs_57_0 at h
  refine Rn.go 4 (j' := 35) (pc' := 5) (ls' := [some (.ref 48), some (.ref 57), some (.int x2), some (.int 0), some (.int 0), none]) (st' := []) (n' := 94) (M' := (I, J, xrf)) (fun f => rfl) ?_
  exact p_X3_alikePairs_57_1 x2 0 0 none I J h hC
theorem p_X3_alikePairs_57 {L : Nat} {xs : Nat → Int32} {d : Nat} {Q : xO → Prop} (x2 : Int32) (I : xI) (J : xJ) {t : Int32 × xI × xJ} (h : f_X3_alikePairs_57 x2 I J = some t) (hC : Q ((some (.int t.1)), 94, (t.2.1, t.2.2, xrf))) : Rn L xs (d + 2) 35 0 [some (.ref 48), some (.ref 57), some (.int x2), none, none, none] [] 94 (I, J, xrf) Q := p_X3_alikePairs_57_0 x2 I J h hC
/-! X3_load_57 -/
def c_X3_load_57 (Q : xO → Prop) (t : Unit × xI × xJ) : Prop := Q (none, 94, (t.2.1, t.2.2, xrf))
def c_X3_load_57_7 (L : Nat) (xs : Nat → Int32) (d : Nat) (Q : xO → Prop) (t : (Int32 × Int32 × (Option Value) × (Option Value) × xI × xJ) ⊕ (Unit × xI × xJ)) : Prop := match t with
  | .inl s => Rn L xs (d + 3) 34 42 [some (.ref 48), some (.ref 57), some (.int s.1), some (.int s.2.1), s.2.2.1, s.2.2.2.1] [] 94 (s.2.2.2.2.1, s.2.2.2.2.2, xrf) Q
  | .inr t => (c_X3_load_57 Q) t
def c_X3_load_57_10 (L : Nat) (xs : Nat → Int32) (d : Nat) (Q : xO → Prop) (t : (Int32 × Int32 × Int32 × Int32 × xI × xJ) ⊕ ((Int32 × Int32 × (Option Value) × (Option Value) × xI × xJ) ⊕ (Unit × xI × xJ))) : Prop := match t with
  | .inl s => Rn L xs (d + 3) 34 61 [some (.ref 48), some (.ref 57), some (.int s.1), some (.int s.2.1), some (.int s.2.2.1), some (.int s.2.2.2.1)] [] 94 (s.2.2.2.2.1, s.2.2.2.2.2, xrf) Q
  | .inr t => (c_X3_load_57_7 L xs d Q) t
def c_X3_load_57_2 (L : Nat) (xs : Nat → Int32) (d : Nat) (Q : xO → Prop) (t : (Int32 × Int32 × xI × xJ) ⊕ (Unit × xI × xJ)) : Prop := match t with
  | .inl s => Rn L xs (d + 3) 34 9 [some (.ref 48), some (.ref 57), some (.int s.1), some (.int s.2.1), none, none] [] 94 (s.2.2.1, s.2.2.2, xrf) Q
  | .inr t => (c_X3_load_57 Q) t
def f_X3_load_57_18 (x2 : Int32) (x3 : Int32) (z4 : Option Value) (z5 : Option Value) (I : xI) (J : xJ) : Option (Unit × xI × xJ) := some ((), I, J)
def f_X3_load_57_17 (x2 : Int32) (x3 : Int32) (x4 : Int32) (x5 : Int32) (s1 : Int32) (s2 : Int32) (I : xI) (J : xJ) : Option ((Int32 × Int32 × (Option Value) × (Option Value) × xI × xJ) ⊕ (Unit × xI × xJ)) := if s1 < 0 ∨ 8 ≤ s1.toNatClampNeg then none else some (.inl (x2, ((x3 + 1)), (some (.int x4)), (some (.int x5)), ((xup I 50 s1.toNatClampNeg s2)), J))
def f_X3_load_57_16 (x2 : Int32) (x3 : Int32) (x4 : Int32) (x5 : Int32) (I : xI) (J : xJ) : Option ((Int32 × Int32 × (Option Value) × (Option Value) × xI × xJ) ⊕ (Unit × xI × xJ)) := (f_X6_followed x4 I J).bind fun o => f_X3_load_57_17 x2 x3 x4 x5 x3 o.1 o.2.1 o.2.2
def f_X3_load_57_15 (x2 : Int32) (x3 : Int32) (x4 : Int32) (x5 : Int32) (s0 : Int32) (s1 : Int32) (I : xI) (J : xJ) : Option ((Int32 × Int32 × Int32 × Int32 × xI × xJ) ⊕ ((Int32 × Int32 × (Option Value) × (Option Value) × xI × xJ) ⊕ (Unit × xI × xJ))) := some (.inl (x2, x3, ((s0 &&& s1)), ((x5 + 1)), I, J))
def f_X3_load_57_14 (x2 : Int32) (x3 : Int32) (x4 : Int32) (x5 : Int32) (s0 : Int32) (I : xI) (J : xJ) : Option ((Int32 × Int32 × Int32 × Int32 × xI × xJ) ⊕ ((Int32 × Int32 × (Option Value) × (Option Value) × xI × xJ) ⊕ (Unit × xI × xJ))) := f_X3_load_57_15 x2 x3 x4 x5 s0 x2 I J
def f_X3_load_57_13 (x2 : Int32) (x3 : Int32) (x4 : Int32) (x5 : Int32) (s0 : Int32) (I : xI) (J : xJ) : Option ((Int32 × Int32 × Int32 × Int32 × xI × xJ) ⊕ ((Int32 × Int32 × (Option Value) × (Option Value) × xI × xJ) ⊕ (Unit × xI × xJ))) := if x5 < 0 ∨ 3 ≤ x5.toNatClampNeg then none else f_X3_load_57_15 x2 x3 x4 x5 s0 ((I 49 x5.toNatClampNeg)) I J
def f_X3_load_57_12 (x2 : Int32) (x3 : Int32) (x4 : Int32) (x5 : Int32) (I : xI) (J : xJ) : Option ((Int32 × Int32 × Int32 × Int32 × xI × xJ) ⊕ ((Int32 × Int32 × (Option Value) × (Option Value) × xI × xJ) ⊕ (Unit × xI × xJ))) := if ((x3 >>> (x5 &&& 31)) &&& 1) = 1 then f_X3_load_57_13 x2 x3 x4 x5 x4 I J else f_X3_load_57_14 x2 x3 x4 x5 x4 I J
def f_X3_load_57_11 (x2 : Int32) (x3 : Int32) (x4 : Int32) (x5 : Int32) (s0 : Int32) (s1 : Int32) (I : xI) (J : xJ) : Option ((Int32 × Int32 × Int32 × Int32 × xI × xJ) ⊕ ((Int32 × Int32 × (Option Value) × (Option Value) × xI × xJ) ⊕ (Unit × xI × xJ))) := if s1 ≤ s0 then ((f_X3_load_57_16 x2 x3 x4 x5 I J)).map .inr else f_X3_load_57_12 x2 x3 x4 x5 I J
def b_X3_load_57_10 (x2 : Int32) (x3 : Int32) (x4 : Int32) (x5 : Int32) (I : xI) (J : xJ) : Option ((Int32 × Int32 × Int32 × Int32 × xI × xJ) ⊕ ((Int32 × Int32 × (Option Value) × (Option Value) × xI × xJ) ⊕ (Unit × xI × xJ))) := (f_X5_bits I J).bind fun o => f_X3_load_57_11 x2 x3 x4 x5 x5 o.1 o.2.1 o.2.2
def f_X3_load_57_10 (x2 : Int32) (x3 : Int32) (x4 : Int32) (x5 : Int32) (I : xI) (J : xJ) : Option ((Int32 × Int32 × (Option Value) × (Option Value) × xI × xJ) ⊕ (Unit × xI × xJ)) := xloop (fun s : Int32 × Int32 × Int32 × Int32 × xI × xJ => b_X3_load_57_10 s.1 s.2.1 s.2.2.1 s.2.2.2.1 s.2.2.2.2.1 s.2.2.2.2.2) 5000 (x2, x3, x4, x5, I, J)
def f_X3_load_57_9 (x2 : Int32) (x3 : Int32) (z4 : Option Value) (z5 : Option Value) (I : xI) (J : xJ) : Option ((Int32 × Int32 × (Option Value) × (Option Value) × xI × xJ) ⊕ (Unit × xI × xJ)) := f_X3_load_57_10 x2 x3 x2 0 I J
def f_X3_load_57_8 (x2 : Int32) (x3 : Int32) (z4 : Option Value) (z5 : Option Value) (s0 : Int32) (s1 : Int32) (s2 : Int32) (I : xI) (J : xJ) : Option ((Int32 × Int32 × (Option Value) × (Option Value) × xI × xJ) ⊕ (Unit × xI × xJ)) := if (s1 <<< (s2 &&& 31)) ≤ s0 then ((f_X3_load_57_18 x2 x3 z4 z5 I J)).map .inr else f_X3_load_57_9 x2 x3 z4 z5 I J
def b_X3_load_57_7 (x2 : Int32) (x3 : Int32) (z4 : Option Value) (z5 : Option Value) (I : xI) (J : xJ) : Option ((Int32 × Int32 × (Option Value) × (Option Value) × xI × xJ) ⊕ (Unit × xI × xJ)) := (f_X5_bits I J).bind fun o => f_X3_load_57_8 x2 x3 z4 z5 x3 1 o.1 o.2.1 o.2.2
def f_X3_load_57_7 (x2 : Int32) (x3 : Int32) (z4 : Option Value) (z5 : Option Value) (I : xI) (J : xJ) : Option (Unit × xI × xJ) := xloop (fun s : Int32 × Int32 × (Option Value) × (Option Value) × xI × xJ => b_X3_load_57_7 s.1 s.2.1 s.2.2.1 s.2.2.2.1 s.2.2.2.2.1 s.2.2.2.2.2) 5000 (x2, x3, z4, z5, I, J)
def f_X3_load_57_6 (x2 : Int32) (x3 : Int32) (I : xI) (J : xJ) : Option (Unit × xI × xJ) := f_X3_load_57_7 x2 0 none none I J
def f_X3_load_57_5 (x2 : Int32) (x3 : Int32) (s1 : Int32) (s2 : Int32) (I : xI) (J : xJ) : Option ((Int32 × Int32 × xI × xJ) ⊕ (Unit × xI × xJ)) := if s1 < 0 ∨ 3 ≤ s1.toNatClampNeg then none else some (.inl (x2, ((x3 + 1)), ((xup I 49 s1.toNatClampNeg s2)), J))
def f_X3_load_57_4 (x2 : Int32) (x3 : Int32) (I : xI) (J : xJ) : Option ((Int32 × Int32 × xI × xJ) ⊕ (Unit × xI × xJ)) := (f_X3_alikePairs_57 ((1 <<< (x3 &&& 31))) I J).bind fun o => f_X3_load_57_5 x2 x3 x3 o.1 o.2.1 o.2.2
def f_X3_load_57_3 (x2 : Int32) (x3 : Int32) (s0 : Int32) (s1 : Int32) (I : xI) (J : xJ) : Option ((Int32 × Int32 × xI × xJ) ⊕ (Unit × xI × xJ)) := if s1 ≤ s0 then ((f_X3_load_57_6 x2 x3 I J)).map .inr else f_X3_load_57_4 x2 x3 I J
def b_X3_load_57_2 (x2 : Int32) (x3 : Int32) (I : xI) (J : xJ) : Option ((Int32 × Int32 × xI × xJ) ⊕ (Unit × xI × xJ)) := (f_X5_bits I J).bind fun o => f_X3_load_57_3 x2 x3 x3 o.1 o.2.1 o.2.2
def f_X3_load_57_2 (x2 : Int32) (x3 : Int32) (I : xI) (J : xJ) : Option (Unit × xI × xJ) := xloop (fun s : Int32 × Int32 × xI × xJ => b_X3_load_57_2 s.1 s.2.1 s.2.2.1 s.2.2.2) 5000 (x2, x3, I, J)
def f_X3_load_57_1 (s0 : Int32) (I : xI) (J : xJ) : Option (Unit × xI × xJ) := f_X3_load_57_2 s0 0 I J
def f_X3_load_57_0 (I : xI) (J : xJ) : Option (Unit × xI × xJ) := (f_X3_alikePairs_57 0 I J).bind fun o => f_X3_load_57_1 o.1 o.2.1 o.2.2
def f_X3_load_57 (I : xI) (J : xJ) : Option (Unit × xI × xJ) := f_X3_load_57_0 I J
theorem p_X3_load_57_18 {L : Nat} {xs : Nat → Int32} {d : Nat} {Q : xO → Prop} (x2 : Int32) (x3 : Int32) (z4 : Option Value) (z5 : Option Value) (I : xI) (J : xJ) {t : Unit × xI × xJ} (h : f_X3_load_57_18 x2 x3 z4 z5 I J = some t) (hC : (c_X3_load_57 Q) t) : Rn L xs (d + 3) 34 126 [some (.ref 48), some (.ref 57), some (.int x2), some (.int x3), z4, z5] [] 94 (I, J, xrf) Q := by
  unfold f_X3_load_57_18 at h
  cases h
  exact Rn.ret 1 (o := (none, 94, (I, J, xrf))) (fun f => rfl) hC
theorem p_X3_load_57_17 {L : Nat} {xs : Nat → Int32} {d : Nat} {Q : xO → Prop} (x2 : Int32) (x3 : Int32) (x4 : Int32) (x5 : Int32) (s1 : Int32) (s2 : Int32) (I : xI) (J : xJ) {t : (Int32 × Int32 × (Option Value) × (Option Value) × xI × xJ) ⊕ (Unit × xI × xJ)} (h : f_X3_load_57_17 x2 x3 x4 x5 s1 s2 I J = some t) (hC : (c_X3_load_57_7 L xs d Q) t) : Rn L xs (d + 3) 34 119 [some (.ref 48), some (.ref 57), some (.int x2), some (.int x3), some (.int x4), some (.int x5)] [.int s2, .int s1, .ref 50] 94 (I, J, xrf) Q := by
  unfold f_X3_load_57_17 at h
  obtain ⟨hc, h⟩ := xif h
  refine Rn.ok 1 (c := s1 < 0 ∨ 8 ≤ s1.toNatClampNeg) (p1 := 120) (l1 := [some (.ref 48), some (.ref 57), some (.int x2), some (.int x3), some (.int x4), some (.int x5)]) (s1 := []) (n1 := 94) (M1 := ((xup I 50 s1.toNatClampNeg s2), J, xrf)) (fun f => rfl) hc ?_
  refine Rn.go 2 (j' := 34) (pc' := 42) (ls' := [some (.ref 48), some (.ref 57), some (.int x2), some (.int ((x3 + 1))), some (.int x4), some (.int x5)]) (st' := []) (n' := 94) (M' := ((xup I 50 s1.toNatClampNeg s2), J, xrf)) (fun f => rfl) ?_
  cases h; exact hC
theorem p_X3_load_57_16 {L : Nat} {xs : Nat → Int32} {d : Nat} {Q : xO → Prop} (x2 : Int32) (x3 : Int32) (x4 : Int32) (x5 : Int32) (I : xI) (J : xJ) {t : (Int32 × Int32 × (Option Value) × (Option Value) × xI × xJ) ⊕ (Unit × xI × xJ)} (h : f_X3_load_57_16 x2 x3 x4 x5 I J = some t) (hC : (c_X3_load_57_7 L xs d Q) t) : Rn L xs (d + 3) 34 105 [some (.ref 48), some (.ref 57), some (.int x2), some (.int x3), some (.int x4), some (.int x5)] [] 94 (I, J, xrf) Q := by
  unfold f_X3_load_57_16 at h
  refine Rn.go 6 (j' := 34) (pc' := 116) (ls' := [some (.ref 48), some (.ref 57), some (.int x2), some (.int x3), some (.int x4), some (.int x5)]) (st' := [.int x4, .ref 32, .int x3, .ref 50]) (n' := 94) (M' := (I, J, xrf)) (fun f => rfl) ?_
  obtain ⟨o, ho, h⟩ := Option.bind_eq_some_iff.mp h
  refine Rn.call (d1 := d + 2) (j1 := 78) (ls1 := [some (.ref 32), some (.int x4), none, none]) (rest := [.int x3, .ref 50]) (fun f => rfl) ?_
  refine p_X6_followed (d := d + 1) x4 I J (t := o) ho ?_
  exact p_X3_load_57_17 x2 x3 x4 x5 x3 o.1 o.2.1 o.2.2 h hC
theorem p_X3_load_57_15 {L : Nat} {xs : Nat → Int32} {d : Nat} {Q : xO → Prop} (x2 : Int32) (x3 : Int32) (x4 : Int32) (x5 : Int32) (s0 : Int32) (s1 : Int32) (I : xI) (J : xJ) {t : (Int32 × Int32 × Int32 × Int32 × xI × xJ) ⊕ ((Int32 × Int32 × (Option Value) × (Option Value) × xI × xJ) ⊕ (Unit × xI × xJ))} (h : f_X3_load_57_15 x2 x3 x4 x5 s0 s1 I J = some t) (hC : (c_X3_load_57_10 L xs d Q) t) : Rn L xs (d + 3) 34 96 [some (.ref 48), some (.ref 57), some (.int x2), some (.int x3), some (.int x4), some (.int x5)] [.int s1, .int s0] 94 (I, J, xrf) Q := by
  unfold f_X3_load_57_15 at h
  refine Rn.go 4 (j' := 34) (pc' := 61) (ls' := [some (.ref 48), some (.ref 57), some (.int x2), some (.int x3), some (.int ((s0 &&& s1))), some (.int ((x5 + 1)))]) (st' := []) (n' := 94) (M' := (I, J, xrf)) (fun f => rfl) ?_
  cases h; exact hC
theorem p_X3_load_57_14 {L : Nat} {xs : Nat → Int32} {d : Nat} {Q : xO → Prop} (x2 : Int32) (x3 : Int32) (x4 : Int32) (x5 : Int32) (s0 : Int32) (I : xI) (J : xJ) {t : (Int32 × Int32 × Int32 × Int32 × xI × xJ) ⊕ ((Int32 × Int32 × (Option Value) × (Option Value) × xI × xJ) ⊕ (Unit × xI × xJ))} (h : f_X3_load_57_14 x2 x3 x4 x5 s0 I J = some t) (hC : (c_X3_load_57_10 L xs d Q) t) : Rn L xs (d + 3) 34 95 [some (.ref 48), some (.ref 57), some (.int x2), some (.int x3), some (.int x4), some (.int x5)] [.int s0] 94 (I, J, xrf) Q := by
  unfold f_X3_load_57_14 at h
  refine Rn.go 1 (j' := 34) (pc' := 96) (ls' := [some (.ref 48), some (.ref 57), some (.int x2), some (.int x3), some (.int x4), some (.int x5)]) (st' := [.int x2, .int s0]) (n' := 94) (M' := (I, J, xrf)) (fun f => rfl) ?_
  exact p_X3_load_57_15 x2 x3 x4 x5 s0 x2 I J h hC
theorem p_X3_load_57_13 {L : Nat} {xs : Nat → Int32} {d : Nat} {Q : xO → Prop} (x2 : Int32) (x3 : Int32) (x4 : Int32) (x5 : Int32) (s0 : Int32) (I : xI) (J : xJ) {t : (Int32 × Int32 × Int32 × Int32 × xI × xJ) ⊕ ((Int32 × Int32 × (Option Value) × (Option Value) × xI × xJ) ⊕ (Unit × xI × xJ))} (h : f_X3_load_57_13 x2 x3 x4 x5 s0 I J = some t) (hC : (c_X3_load_57_10 L xs d Q) t) : Rn L xs (d + 3) 34 85 [some (.ref 48), some (.ref 57), some (.int x2), some (.int x3), some (.int x4), some (.int x5)] [.int s0] 94 (I, J, xrf) Q := by
  unfold f_X3_load_57_13 at h
  obtain ⟨hc, h⟩ := xif h
  refine Rn.ok 4 (c := x5 < 0 ∨ 3 ≤ x5.toNatClampNeg) (p1 := 92) (l1 := [some (.ref 48), some (.ref 57), some (.int x2), some (.int x3), some (.int x4), some (.int x5)]) (s1 := [.int ((I 49 x5.toNatClampNeg)), .int s0]) (n1 := 94) (M1 := (I, J, xrf)) (fun f => rfl) hc ?_
  refine Rn.go 1 (j' := 34) (pc' := 96) (ls' := [some (.ref 48), some (.ref 57), some (.int x2), some (.int x3), some (.int x4), some (.int x5)]) (st' := [.int ((I 49 x5.toNatClampNeg)), .int s0]) (n' := 94) (M' := (I, J, xrf)) (fun f => rfl) ?_
  exact p_X3_load_57_15 x2 x3 x4 x5 s0 ((I 49 x5.toNatClampNeg)) I J h hC
theorem p_X3_load_57_12 {L : Nat} {xs : Nat → Int32} {d : Nat} {Q : xO → Prop} (x2 : Int32) (x3 : Int32) (x4 : Int32) (x5 : Int32) (I : xI) (J : xJ) {t : (Int32 × Int32 × Int32 × Int32 × xI × xJ) ⊕ ((Int32 × Int32 × (Option Value) × (Option Value) × xI × xJ) ⊕ (Unit × xI × xJ))} (h : f_X3_load_57_12 x2 x3 x4 x5 I J = some t) (hC : (c_X3_load_57_10 L xs d Q) t) : Rn L xs (d + 3) 34 73 [some (.ref 48), some (.ref 57), some (.int x2), some (.int x3), some (.int x4), some (.int x5)] [] 94 (I, J, xrf) Q := by
  unfold f_X3_load_57_12 at h
  refine Rn.fi 8 (c := ((x3 >>> (x5 &&& 31)) &&& 1) = 1) (p1 := 85) (l1 := [some (.ref 48), some (.ref 57), some (.int x2), some (.int x3), some (.int x4), some (.int x5)]) (s1 := [.int x4]) (n1 := 94) (M1 := (I, J, xrf)) (p2 := 95) (l2 := [some (.ref 48), some (.ref 57), some (.int x2), some (.int x3), some (.int x4), some (.int x5)]) (s2 := [.int x4]) (n2 := 94) (M2 := (I, J, xrf)) (fun f => rfl) (fun hc => ?_) (fun hc => ?_)
  · rw [if_pos hc] at h
    exact p_X3_load_57_13 x2 x3 x4 x5 x4 I J h hC
  · rw [if_neg hc] at h
    exact p_X3_load_57_14 x2 x3 x4 x5 x4 I J h hC
theorem p_X3_load_57_11 {L : Nat} {xs : Nat → Int32} {d : Nat} {Q : xO → Prop} (x2 : Int32) (x3 : Int32) (x4 : Int32) (x5 : Int32) (s0 : Int32) (s1 : Int32) (I : xI) (J : xJ) {t : (Int32 × Int32 × Int32 × Int32 × xI × xJ) ⊕ ((Int32 × Int32 × (Option Value) × (Option Value) × xI × xJ) ⊕ (Unit × xI × xJ))} (h : f_X3_load_57_11 x2 x3 x4 x5 s0 s1 I J = some t) (hC : (c_X3_load_57_10 L xs d Q) t) : Rn L xs (d + 3) 34 70 [some (.ref 48), some (.ref 57), some (.int x2), some (.int x3), some (.int x4), some (.int x5)] [.int s1, .int s0] 94 (I, J, xrf) Q := by
  unfold f_X3_load_57_11 at h
  refine Rn.fi 1 (c := s1 ≤ s0) (p1 := 105) (l1 := [some (.ref 48), some (.ref 57), some (.int x2), some (.int x3), some (.int x4), some (.int x5)]) (s1 := []) (n1 := 94) (M1 := (I, J, xrf)) (p2 := 73) (l2 := [some (.ref 48), some (.ref 57), some (.int x2), some (.int x3), some (.int x4), some (.int x5)]) (s2 := []) (n2 := 94) (M2 := (I, J, xrf)) (fun f => rfl) (fun hc => ?_) (fun hc => ?_)
  · rw [if_pos hc] at h
    obtain ⟨t0, h0, rfl⟩ := Option.map_eq_some_iff.mp h
    exact p_X3_load_57_16 x2 x3 x4 x5 I J h0 hC
  · rw [if_neg hc] at h
    exact p_X3_load_57_12 x2 x3 x4 x5 I J h hC
theorem q_X3_load_57_10 {L : Nat} {xs : Nat → Int32} {d : Nat} {Q : xO → Prop} (x2 : Int32) (x3 : Int32) (x4 : Int32) (x5 : Int32) (I : xI) (J : xJ) {t : (Int32 × Int32 × Int32 × Int32 × xI × xJ) ⊕ ((Int32 × Int32 × (Option Value) × (Option Value) × xI × xJ) ⊕ (Unit × xI × xJ))} (h : b_X3_load_57_10 x2 x3 x4 x5 I J = some t) (hC : (c_X3_load_57_10 L xs d Q) t) : Rn L xs (d + 3) 34 61 [some (.ref 48), some (.ref 57), some (.int x2), some (.int x3), some (.int x4), some (.int x5)] [] 94 (I, J, xrf) Q := by
  unfold b_X3_load_57_10 at h
  refine Rn.go 3 (j' := 34) (pc' := 67) (ls' := [some (.ref 48), some (.ref 57), some (.int x2), some (.int x3), some (.int x4), some (.int x5)]) (st' := [.ref 1, .int x5]) (n' := 94) (M' := (I, J, xrf)) (fun f => rfl) ?_
  obtain ⟨o, ho, h⟩ := Option.bind_eq_some_iff.mp h
  refine Rn.call (d1 := d + 2) (j1 := 62) (ls1 := [some (.ref 1)]) (rest := [.int x5]) (fun f => rfl) ?_
  refine p_X5_bits (d := d + 1) I J (t := o) ho ?_
  exact p_X3_load_57_11 x2 x3 x4 x5 x5 o.1 o.2.1 o.2.2 h hC
theorem p_X3_load_57_10 {L : Nat} {xs : Nat → Int32} {d : Nat} {Q : xO → Prop} (x2 : Int32) (x3 : Int32) (x4 : Int32) (x5 : Int32) (I : xI) (J : xJ) {t : (Int32 × Int32 × (Option Value) × (Option Value) × xI × xJ) ⊕ (Unit × xI × xJ)} (h : f_X3_load_57_10 x2 x3 x4 x5 I J = some t) (hC : (c_X3_load_57_7 L xs d Q) t) : Rn L xs (d + 3) 34 61 [some (.ref 48), some (.ref 57), some (.int x2), some (.int x3), some (.int x4), some (.int x5)] [] 94 (I, J, xrf) Q := by
  unfold f_X3_load_57_10 at h
  exact xloop_some (P := fun s : Int32 × Int32 × Int32 × Int32 × xI × xJ => Rn L xs (d + 3) 34 61 [some (.ref 48), some (.ref 57), some (.int s.1), some (.int s.2.1), some (.int s.2.2.1), some (.int s.2.2.2.1)] [] 94 (s.2.2.2.2.1, s.2.2.2.2.2, xrf) Q) t (fun s ⟨s', hb, hp⟩ => q_X3_load_57_10 s.1 s.2.1 s.2.2.1 s.2.2.2.1 s.2.2.2.2.1 s.2.2.2.2.2 hb hp) (fun s hb => q_X3_load_57_10 s.1 s.2.1 s.2.2.1 s.2.2.2.1 s.2.2.2.2.1 s.2.2.2.2.2 hb hC) _ _ h
theorem p_X3_load_57_9 {L : Nat} {xs : Nat → Int32} {d : Nat} {Q : xO → Prop} (x2 : Int32) (x3 : Int32) (z4 : Option Value) (z5 : Option Value) (I : xI) (J : xJ) {t : (Int32 × Int32 × (Option Value) × (Option Value) × xI × xJ) ⊕ (Unit × xI × xJ)} (h : f_X3_load_57_9 x2 x3 z4 z5 I J = some t) (hC : (c_X3_load_57_7 L xs d Q) t) : Rn L xs (d + 3) 34 55 [some (.ref 48), some (.ref 57), some (.int x2), some (.int x3), z4, z5] [] 94 (I, J, xrf) Q := by
  unfold f_X3_load_57_9 at h
  refine Rn.go 4 (j' := 34) (pc' := 61) (ls' := [some (.ref 48), some (.ref 57), some (.int x2), some (.int x3), some (.int x2), some (.int 0)]) (st' := []) (n' := 94) (M' := (I, J, xrf)) (fun f => rfl) ?_
  exact p_X3_load_57_10 x2 x3 x2 0 I J h hC
theorem p_X3_load_57_8 {L : Nat} {xs : Nat → Int32} {d : Nat} {Q : xO → Prop} (x2 : Int32) (x3 : Int32) (z4 : Option Value) (z5 : Option Value) (s0 : Int32) (s1 : Int32) (s2 : Int32) (I : xI) (J : xJ) {t : (Int32 × Int32 × (Option Value) × (Option Value) × xI × xJ) ⊕ (Unit × xI × xJ)} (h : f_X3_load_57_8 x2 x3 z4 z5 s0 s1 s2 I J = some t) (hC : (c_X3_load_57_7 L xs d Q) t) : Rn L xs (d + 3) 34 51 [some (.ref 48), some (.ref 57), some (.int x2), some (.int x3), z4, z5] [.int s2, .int s1, .int s0] 94 (I, J, xrf) Q := by
  unfold f_X3_load_57_8 at h
  refine Rn.fi 2 (c := (s1 <<< (s2 &&& 31)) ≤ s0) (p1 := 126) (l1 := [some (.ref 48), some (.ref 57), some (.int x2), some (.int x3), z4, z5]) (s1 := []) (n1 := 94) (M1 := (I, J, xrf)) (p2 := 55) (l2 := [some (.ref 48), some (.ref 57), some (.int x2), some (.int x3), z4, z5]) (s2 := []) (n2 := 94) (M2 := (I, J, xrf)) (fun f => rfl) (fun hc => ?_) (fun hc => ?_)
  · rw [if_pos hc] at h
    obtain ⟨t0, h0, rfl⟩ := Option.map_eq_some_iff.mp h
    exact p_X3_load_57_18 x2 x3 z4 z5 I J h0 hC
  · rw [if_neg hc] at h
    exact p_X3_load_57_9 x2 x3 z4 z5 I J h hC
theorem q_X3_load_57_7 {L : Nat} {xs : Nat → Int32} {d : Nat} {Q : xO → Prop} (x2 : Int32) (x3 : Int32) (z4 : Option Value) (z5 : Option Value) (I : xI) (J : xJ) {t : (Int32 × Int32 × (Option Value) × (Option Value) × xI × xJ) ⊕ (Unit × xI × xJ)} (h : b_X3_load_57_7 x2 x3 z4 z5 I J = some t) (hC : (c_X3_load_57_7 L xs d Q) t) : Rn L xs (d + 3) 34 42 [some (.ref 48), some (.ref 57), some (.int x2), some (.int x3), z4, z5] [] 94 (I, J, xrf) Q := by
  unfold b_X3_load_57_7 at h
  refine Rn.go 4 (j' := 34) (pc' := 48) (ls' := [some (.ref 48), some (.ref 57), some (.int x2), some (.int x3), z4, z5]) (st' := [.ref 1, .int 1, .int x3]) (n' := 94) (M' := (I, J, xrf)) (fun f => rfl) ?_
  obtain ⟨o, ho, h⟩ := Option.bind_eq_some_iff.mp h
  refine Rn.call (d1 := d + 2) (j1 := 62) (ls1 := [some (.ref 1)]) (rest := [.int 1, .int x3]) (fun f => rfl) ?_
  refine p_X5_bits (d := d + 1) I J (t := o) ho ?_
  exact p_X3_load_57_8 x2 x3 z4 z5 x3 1 o.1 o.2.1 o.2.2 h hC
theorem p_X3_load_57_7 {L : Nat} {xs : Nat → Int32} {d : Nat} {Q : xO → Prop} (x2 : Int32) (x3 : Int32) (z4 : Option Value) (z5 : Option Value) (I : xI) (J : xJ) {t : Unit × xI × xJ} (h : f_X3_load_57_7 x2 x3 z4 z5 I J = some t) (hC : (c_X3_load_57 Q) t) : Rn L xs (d + 3) 34 42 [some (.ref 48), some (.ref 57), some (.int x2), some (.int x3), z4, z5] [] 94 (I, J, xrf) Q := by
  unfold f_X3_load_57_7 at h
  exact xloop_some (P := fun s : Int32 × Int32 × (Option Value) × (Option Value) × xI × xJ => Rn L xs (d + 3) 34 42 [some (.ref 48), some (.ref 57), some (.int s.1), some (.int s.2.1), s.2.2.1, s.2.2.2.1] [] 94 (s.2.2.2.2.1, s.2.2.2.2.2, xrf) Q) t (fun s ⟨s', hb, hp⟩ => q_X3_load_57_7 s.1 s.2.1 s.2.2.1 s.2.2.2.1 s.2.2.2.2.1 s.2.2.2.2.2 hb hp) (fun s hb => q_X3_load_57_7 s.1 s.2.1 s.2.2.1 s.2.2.2.1 s.2.2.2.2.1 s.2.2.2.2.2 hb hC) _ _ h
theorem p_X3_load_57_6 {L : Nat} {xs : Nat → Int32} {d : Nat} {Q : xO → Prop} (x2 : Int32) (x3 : Int32) (I : xI) (J : xJ) {t : Unit × xI × xJ} (h : f_X3_load_57_6 x2 x3 I J = some t) (hC : (c_X3_load_57 Q) t) : Rn L xs (d + 3) 34 40 [some (.ref 48), some (.ref 57), some (.int x2), some (.int x3), none, none] [] 94 (I, J, xrf) Q := by
  unfold f_X3_load_57_6 at h
  refine Rn.go 2 (j' := 34) (pc' := 42) (ls' := [some (.ref 48), some (.ref 57), some (.int x2), some (.int 0), none, none]) (st' := []) (n' := 94) (M' := (I, J, xrf)) (fun f => rfl) ?_
  exact p_X3_load_57_7 x2 0 none none I J h hC
theorem p_X3_load_57_5 {L : Nat} {xs : Nat → Int32} {d : Nat} {Q : xO → Prop} (x2 : Int32) (x3 : Int32) (s1 : Int32) (s2 : Int32) (I : xI) (J : xJ) {t : (Int32 × Int32 × xI × xJ) ⊕ (Unit × xI × xJ)} (h : f_X3_load_57_5 x2 x3 s1 s2 I J = some t) (hC : (c_X3_load_57_2 L xs d Q) t) : Rn L xs (d + 3) 34 33 [some (.ref 48), some (.ref 57), some (.int x2), some (.int x3), none, none] [.int s2, .int s1, .ref 49] 94 (I, J, xrf) Q := by
  unfold f_X3_load_57_5 at h
  obtain ⟨hc, h⟩ := xif h
  refine Rn.ok 1 (c := s1 < 0 ∨ 3 ≤ s1.toNatClampNeg) (p1 := 34) (l1 := [some (.ref 48), some (.ref 57), some (.int x2), some (.int x3), none, none]) (s1 := []) (n1 := 94) (M1 := ((xup I 49 s1.toNatClampNeg s2), J, xrf)) (fun f => rfl) hc ?_
  refine Rn.go 2 (j' := 34) (pc' := 9) (ls' := [some (.ref 48), some (.ref 57), some (.int x2), some (.int ((x3 + 1))), none, none]) (st' := []) (n' := 94) (M' := ((xup I 49 s1.toNatClampNeg s2), J, xrf)) (fun f => rfl) ?_
  cases h; exact hC
theorem p_X3_load_57_4 {L : Nat} {xs : Nat → Int32} {d : Nat} {Q : xO → Prop} (x2 : Int32) (x3 : Int32) (I : xI) (J : xJ) {t : (Int32 × Int32 × xI × xJ) ⊕ (Unit × xI × xJ)} (h : f_X3_load_57_4 x2 x3 I J = some t) (hC : (c_X3_load_57_2 L xs d Q) t) : Rn L xs (d + 3) 34 20 [some (.ref 48), some (.ref 57), some (.int x2), some (.int x3), none, none] [] 94 (I, J, xrf) Q := by
  unfold f_X3_load_57_4 at h
  refine Rn.go 8 (j' := 34) (pc' := 30) (ls' := [some (.ref 48), some (.ref 57), some (.int x2), some (.int x3), none, none]) (st' := [.int ((1 <<< (x3 &&& 31))), .ref 57, .ref 48, .int x3, .ref 49]) (n' := 94) (M' := (I, J, xrf)) (fun f => rfl) ?_
  obtain ⟨o, ho, h⟩ := Option.bind_eq_some_iff.mp h
  refine Rn.call (d1 := d + 2) (j1 := 35) (ls1 := [some (.ref 48), some (.ref 57), some (.int ((1 <<< (x3 &&& 31)))), none, none, none]) (rest := [.int x3, .ref 49]) (fun f => rfl) ?_
  refine p_X3_alikePairs_57 (d := d + 0) ((1 <<< (x3 &&& 31))) I J (t := o) ho ?_
  exact p_X3_load_57_5 x2 x3 x3 o.1 o.2.1 o.2.2 h hC
theorem p_X3_load_57_3 {L : Nat} {xs : Nat → Int32} {d : Nat} {Q : xO → Prop} (x2 : Int32) (x3 : Int32) (s0 : Int32) (s1 : Int32) (I : xI) (J : xJ) {t : (Int32 × Int32 × xI × xJ) ⊕ (Unit × xI × xJ)} (h : f_X3_load_57_3 x2 x3 s0 s1 I J = some t) (hC : (c_X3_load_57_2 L xs d Q) t) : Rn L xs (d + 3) 34 17 [some (.ref 48), some (.ref 57), some (.int x2), some (.int x3), none, none] [.int s1, .int s0] 94 (I, J, xrf) Q := by
  unfold f_X3_load_57_3 at h
  refine Rn.fi 1 (c := s1 ≤ s0) (p1 := 40) (l1 := [some (.ref 48), some (.ref 57), some (.int x2), some (.int x3), none, none]) (s1 := []) (n1 := 94) (M1 := (I, J, xrf)) (p2 := 20) (l2 := [some (.ref 48), some (.ref 57), some (.int x2), some (.int x3), none, none]) (s2 := []) (n2 := 94) (M2 := (I, J, xrf)) (fun f => rfl) (fun hc => ?_) (fun hc => ?_)
  · rw [if_pos hc] at h
    obtain ⟨t0, h0, rfl⟩ := Option.map_eq_some_iff.mp h
    exact p_X3_load_57_6 x2 x3 I J h0 hC
  · rw [if_neg hc] at h
    exact p_X3_load_57_4 x2 x3 I J h hC
theorem q_X3_load_57_2 {L : Nat} {xs : Nat → Int32} {d : Nat} {Q : xO → Prop} (x2 : Int32) (x3 : Int32) (I : xI) (J : xJ) {t : (Int32 × Int32 × xI × xJ) ⊕ (Unit × xI × xJ)} (h : b_X3_load_57_2 x2 x3 I J = some t) (hC : (c_X3_load_57_2 L xs d Q) t) : Rn L xs (d + 3) 34 9 [some (.ref 48), some (.ref 57), some (.int x2), some (.int x3), none, none] [] 94 (I, J, xrf) Q := by
  unfold b_X3_load_57_2 at h
  refine Rn.go 3 (j' := 34) (pc' := 14) (ls' := [some (.ref 48), some (.ref 57), some (.int x2), some (.int x3), none, none]) (st' := [.ref 1, .int x3]) (n' := 94) (M' := (I, J, xrf)) (fun f => rfl) ?_
  obtain ⟨o, ho, h⟩ := Option.bind_eq_some_iff.mp h
  refine Rn.call (d1 := d + 2) (j1 := 62) (ls1 := [some (.ref 1)]) (rest := [.int x3]) (fun f => rfl) ?_
  refine p_X5_bits (d := d + 1) I J (t := o) ho ?_
  exact p_X3_load_57_3 x2 x3 x3 o.1 o.2.1 o.2.2 h hC
theorem p_X3_load_57_2 {L : Nat} {xs : Nat → Int32} {d : Nat} {Q : xO → Prop} (x2 : Int32) (x3 : Int32) (I : xI) (J : xJ) {t : Unit × xI × xJ} (h : f_X3_load_57_2 x2 x3 I J = some t) (hC : (c_X3_load_57 Q) t) : Rn L xs (d + 3) 34 9 [some (.ref 48), some (.ref 57), some (.int x2), some (.int x3), none, none] [] 94 (I, J, xrf) Q := by
  unfold f_X3_load_57_2 at h
  exact xloop_some (P := fun s : Int32 × Int32 × xI × xJ => Rn L xs (d + 3) 34 9 [some (.ref 48), some (.ref 57), some (.int s.1), some (.int s.2.1), none, none] [] 94 (s.2.2.1, s.2.2.2, xrf) Q) t (fun s ⟨s', hb, hp⟩ => q_X3_load_57_2 s.1 s.2.1 s.2.2.1 s.2.2.2 hb hp) (fun s hb => q_X3_load_57_2 s.1 s.2.1 s.2.2.1 s.2.2.2 hb hC) _ _ h
theorem p_X3_load_57_1 {L : Nat} {xs : Nat → Int32} {d : Nat} {Q : xO → Prop} (s0 : Int32) (I : xI) (J : xJ) {t : Unit × xI × xJ} (h : f_X3_load_57_1 s0 I J = some t) (hC : (c_X3_load_57 Q) t) : Rn L xs (d + 3) 34 6 [some (.ref 48), some (.ref 57), none, none, none, none] [.int s0] 94 (I, J, xrf) Q := by
  unfold f_X3_load_57_1 at h
  refine Rn.go 3 (j' := 34) (pc' := 9) (ls' := [some (.ref 48), some (.ref 57), some (.int s0), some (.int 0), none, none]) (st' := []) (n' := 94) (M' := (I, J, xrf)) (fun f => rfl) ?_
  exact p_X3_load_57_2 s0 0 I J h hC
theorem p_X3_load_57_0 {L : Nat} {xs : Nat → Int32} {d : Nat} {Q : xO → Prop} (I : xI) (J : xJ) {t : Unit × xI × xJ} (h : f_X3_load_57_0 I J = some t) (hC : (c_X3_load_57 Q) t) : Rn L xs (d + 3) 34 0 [some (.ref 48), some (.ref 57), none, none, none, none] [] 94 (I, J, xrf) Q := by
  unfold f_X3_load_57_0 at h
  refine Rn.go 3 (j' := 34) (pc' := 3) (ls' := [some (.ref 48), some (.ref 57), none, none, none, none]) (st' := [.int 0, .ref 57, .ref 48]) (n' := 94) (M' := (I, J, xrf)) (fun f => rfl) ?_
  obtain ⟨o, ho, h⟩ := Option.bind_eq_some_iff.mp h
  refine Rn.call (d1 := d + 2) (j1 := 35) (ls1 := [some (.ref 48), some (.ref 57), some (.int 0), none, none, none]) (rest := []) (fun f => rfl) ?_
  refine p_X3_alikePairs_57 (d := d + 0) 0 I J (t := o) ho ?_
  exact p_X3_load_57_1 o.1 o.2.1 o.2.2 h hC
theorem p_X3_load_57 {L : Nat} {xs : Nat → Int32} {d : Nat} {Q : xO → Prop} (I : xI) (J : xJ) {t : Unit × xI × xJ} (h : f_X3_load_57 I J = some t) (hC : Q (none, 94, (t.2.1, t.2.2, xrf))) : Rn L xs (d + 3) 34 0 [some (.ref 48), some (.ref 57), none, none, none, none] [] 94 (I, J, xrf) Q := p_X3_load_57_0 I J h hC
/-! X2_look_57 -/
def c_X2_look_57 (Q : xO → Prop) (t : Unit × xI × xJ) : Prop := Q (none, 94, (t.2.1, t.2.2, xrf))
def c_X2_look_57_1 (L : Nat) (xs : Nat → Int32) (d : Nat) (Q : xO → Prop) (t : (Int32 × Int32 × Int32 × (Option Value) × xI × xJ) ⊕ (Unit × xI × xJ)) : Prop := match t with
  | .inl s => Rn L xs (d + 2) 26 13 [some (.ref 51), some (.ref 57), some (.int s.1), some (.int s.2.1), some (.int s.2.2.1), s.2.2.2.1] [] 94 (s.2.2.2.2.1, s.2.2.2.2.2, xrf) Q
  | .inr t => (c_X2_look_57 Q) t
def f_X2_look_57_7 (x2 : Int32) (x3 : Int32) (x4 : Int32) (z5 : Option Value) (I : xI) (J : xJ) : Option (Unit × xI × xJ) := some ((), I, J)
def f_X2_look_57_6 (x2 : Int32) (x3 : Int32) (x4 : Int32) (x5 : Int32) (I : xI) (J : xJ) : Option ((Int32 × Int32 × Int32 × (Option Value) × xI × xJ) ⊕ (Unit × xI × xJ)) := some (.inl (x2, x3, ((x4 + 1)), (some (.int x5)), I, J))
def f_X2_look_57_5 (x2 : Int32) (x3 : Int32) (x4 : Int32) (x5 : Int32) (I : xI) (J : xJ) : Option ((Int32 × Int32 × Int32 × (Option Value) × xI × xJ) ⊕ (Unit × xI × xJ)) := if x4 < 0 ∨ 6 ≤ x4.toNatClampNeg then none else if x5 < 0 ∨ 6 ≤ x5.toNatClampNeg then none else if ((((xup I 51 5 (((I 51 5) ||| (1 <<< ((I 57 x4.toNatClampNeg) &&& 31)))))) 57 x5.toNatClampNeg) &&& 7) < 0 ∨ 8 ≤ (((((xup I 51 5 (((I 51 5) ||| (1 <<< ((I 57 x4.toNatClampNeg) &&& 31)))))) 57 x5.toNatClampNeg) &&& 7)).toNatClampNeg then none else if x4 < 0 ∨ 6 ≤ x4.toNatClampNeg then none else f_X2_look_57_6 x2 x3 x4 x5 ((xup ((xup I 51 5 (((I 51 5) ||| (1 <<< ((I 57 x4.toNatClampNeg) &&& 31)))))) 51 6 (((((xup I 51 5 (((I 51 5) ||| (1 <<< ((I 57 x4.toNatClampNeg) &&& 31)))))) 51 6) ||| ((zst1004 (((((xup I 51 5 (((I 51 5) ||| (1 <<< ((I 57 x4.toNatClampNeg) &&& 31)))))) 57 x5.toNatClampNeg) &&& 7)).toNatClampNeg) <<< ((((xup I 51 5 (((I 51 5) ||| (1 <<< ((I 57 x4.toNatClampNeg) &&& 31)))))) 57 x4.toNatClampNeg) &&& 31)))))) J
def f_X2_look_57_4 (x2 : Int32) (x3 : Int32) (x4 : Int32) (x5 : Int32) (I : xI) (J : xJ) : Option ((Int32 × Int32 × Int32 × (Option Value) × xI × xJ) ⊕ (Unit × xI × xJ)) := if x2 ≤ x5 then f_X2_look_57_6 x2 x3 x4 x5 I J else f_X2_look_57_5 x2 x3 x4 x5 I J
def f_X2_look_57_3 (x2 : Int32) (x3 : Int32) (x4 : Int32) (z5 : Option Value) (s0 : Int32) (I : xI) (J : xJ) : Option ((Int32 × Int32 × Int32 × (Option Value) × xI × xJ) ⊕ (Unit × xI × xJ)) := if s0 < 0 then f_X2_look_57_6 x2 x3 x4 s0 I J else f_X2_look_57_4 x2 x3 x4 s0 I J
def f_X2_look_57_2 (x2 : Int32) (x3 : Int32) (x4 : Int32) (z5 : Option Value) (I : xI) (J : xJ) : Option ((Int32 × Int32 × Int32 × (Option Value) × xI × xJ) ⊕ (Unit × xI × xJ)) := (f_X5_targetOf x4 x3 I J).bind fun o => f_X2_look_57_3 x2 x3 x4 z5 o.1 o.2.1 o.2.2
def b_X2_look_57_1 (x2 : Int32) (x3 : Int32) (x4 : Int32) (z5 : Option Value) (I : xI) (J : xJ) : Option ((Int32 × Int32 × Int32 × (Option Value) × xI × xJ) ⊕ (Unit × xI × xJ)) := if x2 ≤ x4 then ((f_X2_look_57_7 x2 x3 x4 z5 I J)).map .inr else f_X2_look_57_2 x2 x3 x4 z5 I J
def f_X2_look_57_1 (x2 : Int32) (x3 : Int32) (x4 : Int32) (z5 : Option Value) (I : xI) (J : xJ) : Option (Unit × xI × xJ) := xloop (fun s : Int32 × Int32 × Int32 × (Option Value) × xI × xJ => b_X2_look_57_1 s.1 s.2.1 s.2.2.1 s.2.2.2.1 s.2.2.2.2.1 s.2.2.2.2.2) 5000 (x2, x3, x4, z5, I, J)
def f_X2_look_57_0 (x2 : Int32) (x3 : Int32) (I : xI) (J : xJ) : Option (Unit × xI × xJ) := f_X2_look_57_1 x2 x3 0 none ((xup ((xup I 51 5 0)) 51 6 0)) J
def f_X2_look_57 (x2 : Int32) (x3 : Int32) (I : xI) (J : xJ) : Option (Unit × xI × xJ) := f_X2_look_57_0 x2 x3 I J
theorem p_X2_look_57_7 {L : Nat} {xs : Nat → Int32} {d : Nat} {Q : xO → Prop} (x2 : Int32) (x3 : Int32) (x4 : Int32) (z5 : Option Value) (I : xI) (J : xJ) {t : Unit × xI × xJ} (h : f_X2_look_57_7 x2 x3 x4 z5 I J = some t) (hC : (c_X2_look_57 Q) t) : Rn L xs (d + 2) 26 88 [some (.ref 51), some (.ref 57), some (.int x2), some (.int x3), some (.int x4), z5] [] 94 (I, J, xrf) Q := by
  unfold f_X2_look_57_7 at h
  cases h
  exact Rn.ret 1 (o := (none, 94, (I, J, xrf))) (fun f => rfl) hC
theorem p_X2_look_57_6 {L : Nat} {xs : Nat → Int32} {d : Nat} {Q : xO → Prop} (x2 : Int32) (x3 : Int32) (x4 : Int32) (x5 : Int32) (I : xI) (J : xJ) {t : (Int32 × Int32 × Int32 × (Option Value) × xI × xJ) ⊕ (Unit × xI × xJ)} (h : f_X2_look_57_6 x2 x3 x4 x5 I J = some t) (hC : (c_X2_look_57_1 L xs d Q) t) : Rn L xs (d + 2) 26 82 [some (.ref 51), some (.ref 57), some (.int x2), some (.int x3), some (.int x4), some (.int x5)] [] 94 (I, J, xrf) Q := by
  unfold f_X2_look_57_6 at h
  refine Rn.go 2 (j' := 26) (pc' := 13) (ls' := [some (.ref 51), some (.ref 57), some (.int x2), some (.int x3), some (.int ((x4 + 1))), some (.int x5)]) (st' := []) (n' := 94) (M' := (I, J, xrf)) (fun f => rfl) ?_
  cases h; exact hC
theorem p_X2_look_57_5 {L : Nat} {xs : Nat → Int32} {d : Nat} {Q : xO → Prop} (x2 : Int32) (x3 : Int32) (x4 : Int32) (x5 : Int32) (I : xI) (J : xJ) {t : (Int32 × Int32 × Int32 × (Option Value) × xI × xJ) ⊕ (Unit × xI × xJ)} (h : f_X2_look_57_5 x2 x3 x4 x5 I J = some t) (hC : (c_X2_look_57_1 L xs d Q) t) : Rn L xs (d + 2) 26 42 [some (.ref 51), some (.ref 57), some (.int x2), some (.int x3), some (.int x4), some (.int x5)] [] 94 (I, J, xrf) Q := by
  unfold f_X2_look_57_5 at h
  obtain ⟨hc, h⟩ := xif h
  refine Rn.ok 7 (c := x4 < 0 ∨ 6 ≤ x4.toNatClampNeg) (p1 := 52) (l1 := [some (.ref 51), some (.ref 57), some (.int x2), some (.int x3), some (.int x4), some (.int x5)]) (s1 := [.int ((I 57 x4.toNatClampNeg)), .int 1, .int ((I 51 5)), .ref 51]) (n1 := 94) (M1 := (I, J, xrf)) (fun f => rfl) hc ?_
  obtain ⟨hc, h⟩ := xif h
  refine Rn.ok 10 (c := x5 < 0 ∨ 6 ≤ x5.toNatClampNeg) (p1 := 69) (l1 := [some (.ref 51), some (.ref 57), some (.int x2), some (.int x3), some (.int x4), some (.int x5)]) (s1 := [.int ((((xup I 51 5 (((I 51 5) ||| (1 <<< ((I 57 x4.toNatClampNeg) &&& 31)))))) 57 x5.toNatClampNeg)), .ref 1004, .int ((((xup I 51 5 (((I 51 5) ||| (1 <<< ((I 57 x4.toNatClampNeg) &&& 31)))))) 51 6)), .ref 51]) (n1 := 94) (M1 := ((xup I 51 5 (((I 51 5) ||| (1 <<< ((I 57 x4.toNatClampNeg) &&& 31))))), J, xrf)) (fun f => rfl) hc ?_
  obtain ⟨hc, h⟩ := xif h
  refine Rn.ok 3 (c := ((((xup I 51 5 (((I 51 5) ||| (1 <<< ((I 57 x4.toNatClampNeg) &&& 31)))))) 57 x5.toNatClampNeg) &&& 7) < 0 ∨ 8 ≤ (((((xup I 51 5 (((I 51 5) ||| (1 <<< ((I 57 x4.toNatClampNeg) &&& 31)))))) 57 x5.toNatClampNeg) &&& 7)).toNatClampNeg) (p1 := 73) (l1 := [some (.ref 51), some (.ref 57), some (.int x2), some (.int x3), some (.int x4), some (.int x5)]) (s1 := [.int ((zst1004 (((((xup I 51 5 (((I 51 5) ||| (1 <<< ((I 57 x4.toNatClampNeg) &&& 31)))))) 57 x5.toNatClampNeg) &&& 7)).toNatClampNeg)), .int ((((xup I 51 5 (((I 51 5) ||| (1 <<< ((I 57 x4.toNatClampNeg) &&& 31)))))) 51 6)), .ref 51]) (n1 := 94) (M1 := ((xup I 51 5 (((I 51 5) ||| (1 <<< ((I 57 x4.toNatClampNeg) &&& 31))))), J, xrf)) (fun f => rfl) hc ?_
  obtain ⟨hc, h⟩ := xif h
  refine Rn.ok 3 (c := x4 < 0 ∨ 6 ≤ x4.toNatClampNeg) (p1 := 77) (l1 := [some (.ref 51), some (.ref 57), some (.int x2), some (.int x3), some (.int x4), some (.int x5)]) (s1 := [.int ((((xup I 51 5 (((I 51 5) ||| (1 <<< ((I 57 x4.toNatClampNeg) &&& 31)))))) 57 x4.toNatClampNeg)), .int ((zst1004 (((((xup I 51 5 (((I 51 5) ||| (1 <<< ((I 57 x4.toNatClampNeg) &&& 31)))))) 57 x5.toNatClampNeg) &&& 7)).toNatClampNeg)), .int ((((xup I 51 5 (((I 51 5) ||| (1 <<< ((I 57 x4.toNatClampNeg) &&& 31)))))) 51 6)), .ref 51]) (n1 := 94) (M1 := ((xup I 51 5 (((I 51 5) ||| (1 <<< ((I 57 x4.toNatClampNeg) &&& 31))))), J, xrf)) (fun f => rfl) hc ?_
  refine Rn.go 3 (j' := 26) (pc' := 82) (ls' := [some (.ref 51), some (.ref 57), some (.int x2), some (.int x3), some (.int x4), some (.int x5)]) (st' := []) (n' := 94) (M' := ((xup ((xup I 51 5 (((I 51 5) ||| (1 <<< ((I 57 x4.toNatClampNeg) &&& 31)))))) 51 6 (((((xup I 51 5 (((I 51 5) ||| (1 <<< ((I 57 x4.toNatClampNeg) &&& 31)))))) 51 6) ||| ((zst1004 (((((xup I 51 5 (((I 51 5) ||| (1 <<< ((I 57 x4.toNatClampNeg) &&& 31)))))) 57 x5.toNatClampNeg) &&& 7)).toNatClampNeg) <<< ((((xup I 51 5 (((I 51 5) ||| (1 <<< ((I 57 x4.toNatClampNeg) &&& 31)))))) 57 x4.toNatClampNeg) &&& 31))))), J, xrf)) (fun f => rfl) ?_
  exact p_X2_look_57_6 x2 x3 x4 x5 ((xup ((xup I 51 5 (((I 51 5) ||| (1 <<< ((I 57 x4.toNatClampNeg) &&& 31)))))) 51 6 (((((xup I 51 5 (((I 51 5) ||| (1 <<< ((I 57 x4.toNatClampNeg) &&& 31)))))) 51 6) ||| ((zst1004 (((((xup I 51 5 (((I 51 5) ||| (1 <<< ((I 57 x4.toNatClampNeg) &&& 31)))))) 57 x5.toNatClampNeg) &&& 7)).toNatClampNeg) <<< ((((xup I 51 5 (((I 51 5) ||| (1 <<< ((I 57 x4.toNatClampNeg) &&& 31)))))) 57 x4.toNatClampNeg) &&& 31)))))) J h hC
theorem p_X2_look_57_4 {L : Nat} {xs : Nat → Int32} {d : Nat} {Q : xO → Prop} (x2 : Int32) (x3 : Int32) (x4 : Int32) (x5 : Int32) (I : xI) (J : xJ) {t : (Int32 × Int32 × Int32 × (Option Value) × xI × xJ) ⊕ (Unit × xI × xJ)} (h : f_X2_look_57_4 x2 x3 x4 x5 I J = some t) (hC : (c_X2_look_57_1 L xs d Q) t) : Rn L xs (d + 2) 26 36 [some (.ref 51), some (.ref 57), some (.int x2), some (.int x3), some (.int x4), some (.int x5)] [] 94 (I, J, xrf) Q := by
  unfold f_X2_look_57_4 at h
  refine Rn.fi 3 (c := x2 ≤ x5) (p1 := 82) (l1 := [some (.ref 51), some (.ref 57), some (.int x2), some (.int x3), some (.int x4), some (.int x5)]) (s1 := []) (n1 := 94) (M1 := (I, J, xrf)) (p2 := 42) (l2 := [some (.ref 51), some (.ref 57), some (.int x2), some (.int x3), some (.int x4), some (.int x5)]) (s2 := []) (n2 := 94) (M2 := (I, J, xrf)) (fun f => rfl) (fun hc => ?_) (fun hc => ?_)
  · rw [if_pos hc] at h
    exact p_X2_look_57_6 x2 x3 x4 x5 I J h hC
  · rw [if_neg hc] at h
    exact p_X2_look_57_5 x2 x3 x4 x5 I J h hC
theorem p_X2_look_57_3 {L : Nat} {xs : Nat → Int32} {d : Nat} {Q : xO → Prop} (x2 : Int32) (x3 : Int32) (x4 : Int32) (z5 : Option Value) (s0 : Int32) (I : xI) (J : xJ) {t : (Int32 × Int32 × Int32 × (Option Value) × xI × xJ) ⊕ (Unit × xI × xJ)} (h : f_X2_look_57_3 x2 x3 x4 z5 s0 I J = some t) (hC : (c_X2_look_57_1 L xs d Q) t) : Rn L xs (d + 2) 26 29 [some (.ref 51), some (.ref 57), some (.int x2), some (.int x3), some (.int x4), z5] [.int s0] 94 (I, J, xrf) Q := by
  unfold f_X2_look_57_3 at h
  refine Rn.fi 3 (c := s0 < 0) (p1 := 82) (l1 := [some (.ref 51), some (.ref 57), some (.int x2), some (.int x3), some (.int x4), some (.int s0)]) (s1 := []) (n1 := 94) (M1 := (I, J, xrf)) (p2 := 36) (l2 := [some (.ref 51), some (.ref 57), some (.int x2), some (.int x3), some (.int x4), some (.int s0)]) (s2 := []) (n2 := 94) (M2 := (I, J, xrf)) (fun f => rfl) (fun hc => ?_) (fun hc => ?_)
  · rw [if_pos hc] at h
    exact p_X2_look_57_6 x2 x3 x4 s0 I J h hC
  · rw [if_neg hc] at h
    exact p_X2_look_57_4 x2 x3 x4 s0 I J h hC
theorem p_X2_look_57_2 {L : Nat} {xs : Nat → Int32} {d : Nat} {Q : xO → Prop} (x2 : Int32) (x3 : Int32) (x4 : Int32) (z5 : Option Value) (I : xI) (J : xJ) {t : (Int32 × Int32 × Int32 × (Option Value) × xI × xJ) ⊕ (Unit × xI × xJ)} (h : f_X2_look_57_2 x2 x3 x4 z5 I J = some t) (hC : (c_X2_look_57_1 L xs d Q) t) : Rn L xs (d + 2) 26 19 [some (.ref 51), some (.ref 57), some (.int x2), some (.int x3), some (.int x4), z5] [] 94 (I, J, xrf) Q := by
  unfold f_X2_look_57_2 at h
  refine Rn.go 4 (j' := 26) (pc' := 26) (ls' := [some (.ref 51), some (.ref 57), some (.int x2), some (.int x3), some (.int x4), z5]) (st' := [.int x3, .int x4, .ref 1]) (n' := 94) (M' := (I, J, xrf)) (fun f => rfl) ?_
  obtain ⟨o, ho, h⟩ := Option.bind_eq_some_iff.mp h
  refine Rn.call (d1 := d + 1) (j1 := 57) (ls1 := [some (.ref 1), some (.int x4), some (.int x3)]) (rest := []) (fun f => rfl) ?_
  refine p_X5_targetOf (d := d + 0) x4 x3 I J (t := o) ho ?_
  exact p_X2_look_57_3 x2 x3 x4 z5 o.1 o.2.1 o.2.2 h hC
theorem q_X2_look_57_1 {L : Nat} {xs : Nat → Int32} {d : Nat} {Q : xO → Prop} (x2 : Int32) (x3 : Int32) (x4 : Int32) (z5 : Option Value) (I : xI) (J : xJ) {t : (Int32 × Int32 × Int32 × (Option Value) × xI × xJ) ⊕ (Unit × xI × xJ)} (h : b_X2_look_57_1 x2 x3 x4 z5 I J = some t) (hC : (c_X2_look_57_1 L xs d Q) t) : Rn L xs (d + 2) 26 13 [some (.ref 51), some (.ref 57), some (.int x2), some (.int x3), some (.int x4), z5] [] 94 (I, J, xrf) Q := by
  unfold b_X2_look_57_1 at h
  refine Rn.fi 3 (c := x2 ≤ x4) (p1 := 88) (l1 := [some (.ref 51), some (.ref 57), some (.int x2), some (.int x3), some (.int x4), z5]) (s1 := []) (n1 := 94) (M1 := (I, J, xrf)) (p2 := 19) (l2 := [some (.ref 51), some (.ref 57), some (.int x2), some (.int x3), some (.int x4), z5]) (s2 := []) (n2 := 94) (M2 := (I, J, xrf)) (fun f => rfl) (fun hc => ?_) (fun hc => ?_)
  · rw [if_pos hc] at h
    obtain ⟨t0, h0, rfl⟩ := Option.map_eq_some_iff.mp h
    exact p_X2_look_57_7 x2 x3 x4 z5 I J h0 hC
  · rw [if_neg hc] at h
    exact p_X2_look_57_2 x2 x3 x4 z5 I J h hC
theorem p_X2_look_57_1 {L : Nat} {xs : Nat → Int32} {d : Nat} {Q : xO → Prop} (x2 : Int32) (x3 : Int32) (x4 : Int32) (z5 : Option Value) (I : xI) (J : xJ) {t : Unit × xI × xJ} (h : f_X2_look_57_1 x2 x3 x4 z5 I J = some t) (hC : (c_X2_look_57 Q) t) : Rn L xs (d + 2) 26 13 [some (.ref 51), some (.ref 57), some (.int x2), some (.int x3), some (.int x4), z5] [] 94 (I, J, xrf) Q := by
  unfold f_X2_look_57_1 at h
  exact xloop_some (P := fun s : Int32 × Int32 × Int32 × (Option Value) × xI × xJ => Rn L xs (d + 2) 26 13 [some (.ref 51), some (.ref 57), some (.int s.1), some (.int s.2.1), some (.int s.2.2.1), s.2.2.2.1] [] 94 (s.2.2.2.2.1, s.2.2.2.2.2, xrf) Q) t (fun s ⟨s', hb, hp⟩ => q_X2_look_57_1 s.1 s.2.1 s.2.2.1 s.2.2.2.1 s.2.2.2.2.1 s.2.2.2.2.2 hb hp) (fun s hb => q_X2_look_57_1 s.1 s.2.1 s.2.2.1 s.2.2.2.1 s.2.2.2.2.1 s.2.2.2.2.2 hb hC) _ _ h
theorem p_X2_look_57_0 {L : Nat} {xs : Nat → Int32} {d : Nat} {Q : xO → Prop} (x2 : Int32) (x3 : Int32) (I : xI) (J : xJ) {t : Unit × xI × xJ} (h : f_X2_look_57_0 x2 x3 I J = some t) (hC : (c_X2_look_57 Q) t) : Rn L xs (d + 2) 26 0 [some (.ref 51), some (.ref 57), some (.int x2), some (.int x3), none, none] [] 94 (I, J, xrf) Q := by
  unfold f_X2_look_57_0 at h
  refine Rn.go 8 (j' := 26) (pc' := 13) (ls' := [some (.ref 51), some (.ref 57), some (.int x2), some (.int x3), some (.int 0), none]) (st' := []) (n' := 94) (M' := ((xup ((xup I 51 5 0)) 51 6 0), J, xrf)) (fun f => rfl) ?_
  exact p_X2_look_57_1 x2 x3 0 none ((xup ((xup I 51 5 0)) 51 6 0)) J h hC
theorem p_X2_look_57 {L : Nat} {xs : Nat → Int32} {d : Nat} {Q : xO → Prop} (x2 : Int32) (x3 : Int32) (I : xI) (J : xJ) {t : Unit × xI × xJ} (h : f_X2_look_57 x2 x3 I J = some t) (hC : Q (none, 94, (t.2.1, t.2.2, xrf))) : Rn L xs (d + 2) 26 0 [some (.ref 51), some (.ref 57), some (.int x2), some (.int x3), none, none] [] 94 (I, J, xrf) Q := p_X2_look_57_0 x2 x3 I J h hC
/-! X2_total_57 -/
def c_X2_total_57 (Q : xO → Prop) (t : Int32 × xI × xJ) : Prop := Q ((some (.int t.1)), 94, (t.2.1, t.2.2, xrf))
def c_X2_total_57_1 (L : Nat) (xs : Nat → Int32) (d : Nat) (Q : xO → Prop) (t : (Int32 × Int32 × Int32 × Int32 × (Option Value) × xI × xJ) ⊕ (Int32 × xI × xJ)) : Prop := match t with
  | .inl s => Rn L xs (d + 15) 31 6 [some (.ref 51), some (.ref 57), some (.int s.1), some (.int s.2.1), some (.int s.2.2.1), some (.int s.2.2.2.1), s.2.2.2.2.1] [] 94 (s.2.2.2.2.2.1, s.2.2.2.2.2.2, xrf) Q
  | .inr t => (c_X2_total_57 Q) t
def c_X2_total_57_5 (L : Nat) (xs : Nat → Int32) (d : Nat) (Q : xO → Prop) (t : (Int32 × Int32 × Int32 × Int32 × Int32 × xI × xJ) ⊕ ((Int32 × Int32 × Int32 × Int32 × (Option Value) × xI × xJ) ⊕ (Int32 × xI × xJ))) : Prop := match t with
  | .inl s => Rn L xs (d + 15) 31 35 [some (.ref 51), some (.ref 57), some (.int s.1), some (.int s.2.1), some (.int s.2.2.1), some (.int s.2.2.2.1), some (.int s.2.2.2.2.1)] [] 94 (s.2.2.2.2.2.1, s.2.2.2.2.2.2, xrf) Q
  | .inr t => (c_X2_total_57_1 L xs d Q) t
def f_X2_total_57_12 (x2 : Int32) (x3 : Int32) (x4 : Int32) (x5 : Int32) (z6 : Option Value) (I : xI) (J : xJ) : Option (Int32 × xI × xJ) := some (x4, I, J)
def f_X2_total_57_11 (x2 : Int32) (x3 : Int32) (x4 : Int32) (x5 : Int32) (x6 : Int32) (I : xI) (J : xJ) : Option ((Int32 × Int32 × Int32 × Int32 × (Option Value) × xI × xJ) ⊕ (Int32 × xI × xJ)) := some (.inl (x2, x3, x4, ((x5 + 1)), (some (.int x6)), I, J))
def f_X2_total_57_10 (x2 : Int32) (x3 : Int32) (x4 : Int32) (x5 : Int32) (x6 : Int32) (s0 : Int32) (s1 : Int32) (I : xI) (J : xJ) : Option ((Int32 × Int32 × Int32 × Int32 × Int32 × xI × xJ) ⊕ ((Int32 × Int32 × Int32 × Int32 × (Option Value) × xI × xJ) ⊕ (Int32 × xI × xJ))) := some (.inl (x2, x3, ((s0 + s1)), x5, ((x6 + 1)), I, J))
def f_X2_total_57_9 (x2 : Int32) (x3 : Int32) (x4 : Int32) (x5 : Int32) (x6 : Int32) (I : xI) (J : xJ) : Option ((Int32 × Int32 × Int32 × Int32 × Int32 × xI × xJ) ⊕ ((Int32 × Int32 × Int32 × Int32 × (Option Value) × xI × xJ) ⊕ (Int32 × xI × xJ))) := (f_X2_least 12 ((I 51 7)) 0 I J).bind fun o => f_X2_total_57_10 x2 x3 x4 x5 x6 x4 o.1 o.2.1 o.2.2
def f_X2_total_57_8 (x2 : Int32) (x3 : Int32) (x4 : Int32) (x5 : Int32) (x6 : Int32) (I : xI) (J : xJ) : Option ((Int32 × Int32 × Int32 × Int32 × Int32 × xI × xJ) ⊕ ((Int32 × Int32 × Int32 × Int32 × (Option Value) × xI × xJ) ⊕ (Int32 × xI × xJ))) := (f_X2_aim x6 I J).bind fun o => f_X2_total_57_9 x2 x3 x4 x5 x6 o.2.1 o.2.2
def f_X2_total_57_7 (x2 : Int32) (x3 : Int32) (x4 : Int32) (x5 : Int32) (x6 : Int32) (I : xI) (J : xJ) : Option ((Int32 × Int32 × Int32 × Int32 × Int32 × xI × xJ) ⊕ ((Int32 × Int32 × Int32 × Int32 × (Option Value) × xI × xJ) ⊕ (Int32 × xI × xJ))) := if x3 ≤ x4 then ((f_X2_total_57_11 x2 x3 x4 x5 x6 I J)).map .inr else f_X2_total_57_8 x2 x3 x4 x5 x6 I J
def f_X2_total_57_6 (x2 : Int32) (x3 : Int32) (x4 : Int32) (x5 : Int32) (x6 : Int32) (s0 : Int32) (s1 : Int32) (I : xI) (J : xJ) : Option ((Int32 × Int32 × Int32 × Int32 × Int32 × xI × xJ) ⊕ ((Int32 × Int32 × Int32 × Int32 × (Option Value) × xI × xJ) ⊕ (Int32 × xI × xJ))) := if s1 ≤ s0 then ((f_X2_total_57_11 x2 x3 x4 x5 x6 I J)).map .inr else f_X2_total_57_7 x2 x3 x4 x5 x6 I J
def b_X2_total_57_5 (x2 : Int32) (x3 : Int32) (x4 : Int32) (x5 : Int32) (x6 : Int32) (I : xI) (J : xJ) : Option ((Int32 × Int32 × Int32 × Int32 × Int32 × xI × xJ) ⊕ ((Int32 × Int32 × Int32 × Int32 × (Option Value) × xI × xJ) ⊕ (Int32 × xI × xJ))) := (f_X5_bits I J).bind fun o => f_X2_total_57_6 x2 x3 x4 x5 x6 x6 o.1 o.2.1 o.2.2
def f_X2_total_57_5 (x2 : Int32) (x3 : Int32) (x4 : Int32) (x5 : Int32) (x6 : Int32) (I : xI) (J : xJ) : Option ((Int32 × Int32 × Int32 × Int32 × (Option Value) × xI × xJ) ⊕ (Int32 × xI × xJ)) := xloop (fun s : Int32 × Int32 × Int32 × Int32 × Int32 × xI × xJ => b_X2_total_57_5 s.1 s.2.1 s.2.2.1 s.2.2.2.1 s.2.2.2.2.1 s.2.2.2.2.2.1 s.2.2.2.2.2.2) 5000 (x2, x3, x4, x5, x6, I, J)
def f_X2_total_57_4 (x2 : Int32) (x3 : Int32) (x4 : Int32) (x5 : Int32) (z6 : Option Value) (I : xI) (J : xJ) : Option ((Int32 × Int32 × Int32 × Int32 × (Option Value) × xI × xJ) ⊕ (Int32 × xI × xJ)) := f_X2_total_57_5 x2 x3 x4 x5 0 I J
def f_X2_total_57_3 (x2 : Int32) (x3 : Int32) (x4 : Int32) (x5 : Int32) (z6 : Option Value) (I : xI) (J : xJ) : Option ((Int32 × Int32 × Int32 × Int32 × (Option Value) × xI × xJ) ⊕ (Int32 × xI × xJ)) := (f_X2_look_57 x2 x5 I J).bind fun o => f_X2_total_57_4 x2 x3 x4 x5 z6 o.2.1 o.2.2
def f_X2_total_57_2 (x2 : Int32) (x3 : Int32) (x4 : Int32) (x5 : Int32) (z6 : Option Value) (I : xI) (J : xJ) : Option ((Int32 × Int32 × Int32 × Int32 × (Option Value) × xI × xJ) ⊕ (Int32 × xI × xJ)) := if x3 ≤ x4 then ((f_X2_total_57_12 x2 x3 x4 x5 z6 I J)).map .inr else f_X2_total_57_3 x2 x3 x4 x5 z6 I J
def b_X2_total_57_1 (x2 : Int32) (x3 : Int32) (x4 : Int32) (x5 : Int32) (z6 : Option Value) (I : xI) (J : xJ) : Option ((Int32 × Int32 × Int32 × Int32 × (Option Value) × xI × xJ) ⊕ (Int32 × xI × xJ)) := if (I 1 1) ≤ x5 then ((f_X2_total_57_12 x2 x3 x4 x5 z6 I J)).map .inr else f_X2_total_57_2 x2 x3 x4 x5 z6 I J
def f_X2_total_57_1 (x2 : Int32) (x3 : Int32) (x4 : Int32) (x5 : Int32) (z6 : Option Value) (I : xI) (J : xJ) : Option (Int32 × xI × xJ) := xloop (fun s : Int32 × Int32 × Int32 × Int32 × (Option Value) × xI × xJ => b_X2_total_57_1 s.1 s.2.1 s.2.2.1 s.2.2.2.1 s.2.2.2.2.1 s.2.2.2.2.2.1 s.2.2.2.2.2.2) 5000 (x2, x3, x4, x5, z6, I, J)
def f_X2_total_57_0 (x2 : Int32) (x3 : Int32) (I : xI) (J : xJ) : Option (Int32 × xI × xJ) := f_X2_total_57_1 x2 x3 0 0 none I J
def f_X2_total_57 (x2 : Int32) (x3 : Int32) (I : xI) (J : xJ) : Option (Int32 × xI × xJ) := f_X2_total_57_0 x2 x3 I J
theorem p_X2_total_57_12 {L : Nat} {xs : Nat → Int32} {d : Nat} {Q : xO → Prop} (x2 : Int32) (x3 : Int32) (x4 : Int32) (x5 : Int32) (z6 : Option Value) (I : xI) (J : xJ) {t : Int32 × xI × xJ} (h : f_X2_total_57_12 x2 x3 x4 x5 z6 I J = some t) (hC : (c_X2_total_57 Q) t) : Rn L xs (d + 15) 31 85 [some (.ref 51), some (.ref 57), some (.int x2), some (.int x3), some (.int x4), some (.int x5), z6] [] 94 (I, J, xrf) Q := by
  unfold f_X2_total_57_12 at h
  cases h
  exact Rn.ret 2 (o := ((some (.int x4)), 94, (I, J, xrf))) (fun f => rfl) hC
theorem p_X2_total_57_11 {L : Nat} {xs : Nat → Int32} {d : Nat} {Q : xO → Prop} (x2 : Int32) (x3 : Int32) (x4 : Int32) (x5 : Int32) (x6 : Int32) (I : xI) (J : xJ) {t : (Int32 × Int32 × Int32 × Int32 × (Option Value) × xI × xJ) ⊕ (Int32 × xI × xJ)} (h : f_X2_total_57_11 x2 x3 x4 x5 x6 I J = some t) (hC : (c_X2_total_57_1 L xs d Q) t) : Rn L xs (d + 15) 31 79 [some (.ref 51), some (.ref 57), some (.int x2), some (.int x3), some (.int x4), some (.int x5), some (.int x6)] [] 94 (I, J, xrf) Q := by
  unfold f_X2_total_57_11 at h
  refine Rn.go 2 (j' := 31) (pc' := 6) (ls' := [some (.ref 51), some (.ref 57), some (.int x2), some (.int x3), some (.int x4), some (.int ((x5 + 1))), some (.int x6)]) (st' := []) (n' := 94) (M' := (I, J, xrf)) (fun f => rfl) ?_
  cases h; exact hC
theorem p_X2_total_57_10 {L : Nat} {xs : Nat → Int32} {d : Nat} {Q : xO → Prop} (x2 : Int32) (x3 : Int32) (x4 : Int32) (x5 : Int32) (x6 : Int32) (s0 : Int32) (s1 : Int32) (I : xI) (J : xJ) {t : (Int32 × Int32 × Int32 × Int32 × Int32 × xI × xJ) ⊕ ((Int32 × Int32 × Int32 × Int32 × (Option Value) × xI × xJ) ⊕ (Int32 × xI × xJ))} (h : f_X2_total_57_10 x2 x3 x4 x5 x6 s0 s1 I J = some t) (hC : (c_X2_total_57_5 L xs d Q) t) : Rn L xs (d + 15) 31 70 [some (.ref 51), some (.ref 57), some (.int x2), some (.int x3), some (.int x4), some (.int x5), some (.int x6)] [.int s1, .int s0] 94 (I, J, xrf) Q := by
  unfold f_X2_total_57_10 at h
  refine Rn.go 4 (j' := 31) (pc' := 35) (ls' := [some (.ref 51), some (.ref 57), some (.int x2), some (.int x3), some (.int ((s0 + s1))), some (.int x5), some (.int ((x6 + 1)))]) (st' := []) (n' := 94) (M' := (I, J, xrf)) (fun f => rfl) ?_
  cases h; exact hC
theorem p_X2_total_57_9 {L : Nat} {xs : Nat → Int32} {d : Nat} {Q : xO → Prop} (x2 : Int32) (x3 : Int32) (x4 : Int32) (x5 : Int32) (x6 : Int32) (I : xI) (J : xJ) {t : (Int32 × Int32 × Int32 × Int32 × Int32 × xI × xJ) ⊕ ((Int32 × Int32 × Int32 × Int32 × (Option Value) × xI × xJ) ⊕ (Int32 × xI × xJ))} (h : f_X2_total_57_9 x2 x3 x4 x5 x6 I J = some t) (hC : (c_X2_total_57_5 L xs d Q) t) : Rn L xs (d + 15) 31 59 [some (.ref 51), some (.ref 57), some (.int x2), some (.int x3), some (.int x4), some (.int x5), some (.int x6)] [] 94 (I, J, xrf) Q := by
  unfold f_X2_total_57_9 at h
  refine Rn.go 5 (j' := 31) (pc' := 67) (ls' := [some (.ref 51), some (.ref 57), some (.int x2), some (.int x3), some (.int x4), some (.int x5), some (.int x6)]) (st' := [.int 0, .int ((I 51 7)), .ref 51, .int x4]) (n' := 94) (M' := (I, J, xrf)) (fun f => rfl) ?_
  obtain ⟨o, ho, h⟩ := Option.bind_eq_some_iff.mp h
  refine Rn.call (d1 := d + 14) (j1 := 28) (ls1 := [some (.ref 51), some (.int ((I 51 7))), some (.int 0), none, none, none, none, none]) (rest := [.int x4]) (fun f => rfl) ?_
  refine p_X2_least (d := d + 0) 12 ((I 51 7)) 0 I J (t := o) ho ?_
  exact p_X2_total_57_10 x2 x3 x4 x5 x6 x4 o.1 o.2.1 o.2.2 h hC
theorem p_X2_total_57_8 {L : Nat} {xs : Nat → Int32} {d : Nat} {Q : xO → Prop} (x2 : Int32) (x3 : Int32) (x4 : Int32) (x5 : Int32) (x6 : Int32) (I : xI) (J : xJ) {t : (Int32 × Int32 × Int32 × Int32 × Int32 × xI × xJ) ⊕ ((Int32 × Int32 × Int32 × Int32 × (Option Value) × xI × xJ) ⊕ (Int32 × xI × xJ))} (h : f_X2_total_57_8 x2 x3 x4 x5 x6 I J = some t) (hC : (c_X2_total_57_5 L xs d Q) t) : Rn L xs (d + 15) 31 53 [some (.ref 51), some (.ref 57), some (.int x2), some (.int x3), some (.int x4), some (.int x5), some (.int x6)] [] 94 (I, J, xrf) Q := by
  unfold f_X2_total_57_8 at h
  refine Rn.go 2 (j' := 31) (pc' := 56) (ls' := [some (.ref 51), some (.ref 57), some (.int x2), some (.int x3), some (.int x4), some (.int x5), some (.int x6)]) (st' := [.int x6, .ref 51]) (n' := 94) (M' := (I, J, xrf)) (fun f => rfl) ?_
  obtain ⟨o, ho, h⟩ := Option.bind_eq_some_iff.mp h
  refine Rn.call (d1 := d + 14) (j1 := 27) (ls1 := [some (.ref 51), some (.int x6)]) (rest := []) (fun f => rfl) ?_
  refine p_X2_aim (d := d + 13) x6 I J (t := o) ho ?_
  exact p_X2_total_57_9 x2 x3 x4 x5 x6 o.2.1 o.2.2 h hC
theorem p_X2_total_57_7 {L : Nat} {xs : Nat → Int32} {d : Nat} {Q : xO → Prop} (x2 : Int32) (x3 : Int32) (x4 : Int32) (x5 : Int32) (x6 : Int32) (I : xI) (J : xJ) {t : (Int32 × Int32 × Int32 × Int32 × Int32 × xI × xJ) ⊕ ((Int32 × Int32 × Int32 × Int32 × (Option Value) × xI × xJ) ⊕ (Int32 × xI × xJ))} (h : f_X2_total_57_7 x2 x3 x4 x5 x6 I J = some t) (hC : (c_X2_total_57_5 L xs d Q) t) : Rn L xs (d + 15) 31 47 [some (.ref 51), some (.ref 57), some (.int x2), some (.int x3), some (.int x4), some (.int x5), some (.int x6)] [] 94 (I, J, xrf) Q := by
  unfold f_X2_total_57_7 at h
  refine Rn.fi 3 (c := x3 ≤ x4) (p1 := 79) (l1 := [some (.ref 51), some (.ref 57), some (.int x2), some (.int x3), some (.int x4), some (.int x5), some (.int x6)]) (s1 := []) (n1 := 94) (M1 := (I, J, xrf)) (p2 := 53) (l2 := [some (.ref 51), some (.ref 57), some (.int x2), some (.int x3), some (.int x4), some (.int x5), some (.int x6)]) (s2 := []) (n2 := 94) (M2 := (I, J, xrf)) (fun f => rfl) (fun hc => ?_) (fun hc => ?_)
  · rw [if_pos hc] at h
    obtain ⟨t0, h0, rfl⟩ := Option.map_eq_some_iff.mp h
    exact p_X2_total_57_11 x2 x3 x4 x5 x6 I J h0 hC
  · rw [if_neg hc] at h
    exact p_X2_total_57_8 x2 x3 x4 x5 x6 I J h hC
theorem p_X2_total_57_6 {L : Nat} {xs : Nat → Int32} {d : Nat} {Q : xO → Prop} (x2 : Int32) (x3 : Int32) (x4 : Int32) (x5 : Int32) (x6 : Int32) (s0 : Int32) (s1 : Int32) (I : xI) (J : xJ) {t : (Int32 × Int32 × Int32 × Int32 × Int32 × xI × xJ) ⊕ ((Int32 × Int32 × Int32 × Int32 × (Option Value) × xI × xJ) ⊕ (Int32 × xI × xJ))} (h : f_X2_total_57_6 x2 x3 x4 x5 x6 s0 s1 I J = some t) (hC : (c_X2_total_57_5 L xs d Q) t) : Rn L xs (d + 15) 31 44 [some (.ref 51), some (.ref 57), some (.int x2), some (.int x3), some (.int x4), some (.int x5), some (.int x6)] [.int s1, .int s0] 94 (I, J, xrf) Q := by
  unfold f_X2_total_57_6 at h
  refine Rn.fi 1 (c := s1 ≤ s0) (p1 := 79) (l1 := [some (.ref 51), some (.ref 57), some (.int x2), some (.int x3), some (.int x4), some (.int x5), some (.int x6)]) (s1 := []) (n1 := 94) (M1 := (I, J, xrf)) (p2 := 47) (l2 := [some (.ref 51), some (.ref 57), some (.int x2), some (.int x3), some (.int x4), some (.int x5), some (.int x6)]) (s2 := []) (n2 := 94) (M2 := (I, J, xrf)) (fun f => rfl) (fun hc => ?_) (fun hc => ?_)
  · rw [if_pos hc] at h
    obtain ⟨t0, h0, rfl⟩ := Option.map_eq_some_iff.mp h
    exact p_X2_total_57_11 x2 x3 x4 x5 x6 I J h0 hC
  · rw [if_neg hc] at h
    exact p_X2_total_57_7 x2 x3 x4 x5 x6 I J h hC
theorem q_X2_total_57_5 {L : Nat} {xs : Nat → Int32} {d : Nat} {Q : xO → Prop} (x2 : Int32) (x3 : Int32) (x4 : Int32) (x5 : Int32) (x6 : Int32) (I : xI) (J : xJ) {t : (Int32 × Int32 × Int32 × Int32 × Int32 × xI × xJ) ⊕ ((Int32 × Int32 × Int32 × Int32 × (Option Value) × xI × xJ) ⊕ (Int32 × xI × xJ))} (h : b_X2_total_57_5 x2 x3 x4 x5 x6 I J = some t) (hC : (c_X2_total_57_5 L xs d Q) t) : Rn L xs (d + 15) 31 35 [some (.ref 51), some (.ref 57), some (.int x2), some (.int x3), some (.int x4), some (.int x5), some (.int x6)] [] 94 (I, J, xrf) Q := by
  unfold b_X2_total_57_5 at h
  refine Rn.go 3 (j' := 31) (pc' := 41) (ls' := [some (.ref 51), some (.ref 57), some (.int x2), some (.int x3), some (.int x4), some (.int x5), some (.int x6)]) (st' := [.ref 1, .int x6]) (n' := 94) (M' := (I, J, xrf)) (fun f => rfl) ?_
  obtain ⟨o, ho, h⟩ := Option.bind_eq_some_iff.mp h
  refine Rn.call (d1 := d + 14) (j1 := 62) (ls1 := [some (.ref 1)]) (rest := [.int x6]) (fun f => rfl) ?_
  refine p_X5_bits (d := d + 13) I J (t := o) ho ?_
  exact p_X2_total_57_6 x2 x3 x4 x5 x6 x6 o.1 o.2.1 o.2.2 h hC
theorem p_X2_total_57_5 {L : Nat} {xs : Nat → Int32} {d : Nat} {Q : xO → Prop} (x2 : Int32) (x3 : Int32) (x4 : Int32) (x5 : Int32) (x6 : Int32) (I : xI) (J : xJ) {t : (Int32 × Int32 × Int32 × Int32 × (Option Value) × xI × xJ) ⊕ (Int32 × xI × xJ)} (h : f_X2_total_57_5 x2 x3 x4 x5 x6 I J = some t) (hC : (c_X2_total_57_1 L xs d Q) t) : Rn L xs (d + 15) 31 35 [some (.ref 51), some (.ref 57), some (.int x2), some (.int x3), some (.int x4), some (.int x5), some (.int x6)] [] 94 (I, J, xrf) Q := by
  unfold f_X2_total_57_5 at h
  exact xloop_some (P := fun s : Int32 × Int32 × Int32 × Int32 × Int32 × xI × xJ => Rn L xs (d + 15) 31 35 [some (.ref 51), some (.ref 57), some (.int s.1), some (.int s.2.1), some (.int s.2.2.1), some (.int s.2.2.2.1), some (.int s.2.2.2.2.1)] [] 94 (s.2.2.2.2.2.1, s.2.2.2.2.2.2, xrf) Q) t (fun s ⟨s', hb, hp⟩ => q_X2_total_57_5 s.1 s.2.1 s.2.2.1 s.2.2.2.1 s.2.2.2.2.1 s.2.2.2.2.2.1 s.2.2.2.2.2.2 hb hp) (fun s hb => q_X2_total_57_5 s.1 s.2.1 s.2.2.1 s.2.2.2.1 s.2.2.2.2.1 s.2.2.2.2.2.1 s.2.2.2.2.2.2 hb hC) _ _ h
theorem p_X2_total_57_4 {L : Nat} {xs : Nat → Int32} {d : Nat} {Q : xO → Prop} (x2 : Int32) (x3 : Int32) (x4 : Int32) (x5 : Int32) (z6 : Option Value) (I : xI) (J : xJ) {t : (Int32 × Int32 × Int32 × Int32 × (Option Value) × xI × xJ) ⊕ (Int32 × xI × xJ)} (h : f_X2_total_57_4 x2 x3 x4 x5 z6 I J = some t) (hC : (c_X2_total_57_1 L xs d Q) t) : Rn L xs (d + 15) 31 32 [some (.ref 51), some (.ref 57), some (.int x2), some (.int x3), some (.int x4), some (.int x5), z6] [] 94 (I, J, xrf) Q := by
  unfold f_X2_total_57_4 at h
  refine Rn.go 2 (j' := 31) (pc' := 35) (ls' := [some (.ref 51), some (.ref 57), some (.int x2), some (.int x3), some (.int x4), some (.int x5), some (.int 0)]) (st' := []) (n' := 94) (M' := (I, J, xrf)) (fun f => rfl) ?_
  exact p_X2_total_57_5 x2 x3 x4 x5 0 I J h hC
theorem p_X2_total_57_3 {L : Nat} {xs : Nat → Int32} {d : Nat} {Q : xO → Prop} (x2 : Int32) (x3 : Int32) (x4 : Int32) (x5 : Int32) (z6 : Option Value) (I : xI) (J : xJ) {t : (Int32 × Int32 × Int32 × Int32 × (Option Value) × xI × xJ) ⊕ (Int32 × xI × xJ)} (h : f_X2_total_57_3 x2 x3 x4 x5 z6 I J = some t) (hC : (c_X2_total_57_1 L xs d Q) t) : Rn L xs (d + 15) 31 24 [some (.ref 51), some (.ref 57), some (.int x2), some (.int x3), some (.int x4), some (.int x5), z6] [] 94 (I, J, xrf) Q := by
  unfold f_X2_total_57_3 at h
  refine Rn.go 4 (j' := 31) (pc' := 29) (ls' := [some (.ref 51), some (.ref 57), some (.int x2), some (.int x3), some (.int x4), some (.int x5), z6]) (st' := [.int x5, .int x2, .ref 57, .ref 51]) (n' := 94) (M' := (I, J, xrf)) (fun f => rfl) ?_
  obtain ⟨o, ho, h⟩ := Option.bind_eq_some_iff.mp h
  refine Rn.call (d1 := d + 14) (j1 := 26) (ls1 := [some (.ref 51), some (.ref 57), some (.int x2), some (.int x5), none, none]) (rest := []) (fun f => rfl) ?_
  refine p_X2_look_57 (d := d + 12) x2 x5 I J (t := o) ho ?_
  exact p_X2_total_57_4 x2 x3 x4 x5 z6 o.2.1 o.2.2 h hC
theorem p_X2_total_57_2 {L : Nat} {xs : Nat → Int32} {d : Nat} {Q : xO → Prop} (x2 : Int32) (x3 : Int32) (x4 : Int32) (x5 : Int32) (z6 : Option Value) (I : xI) (J : xJ) {t : (Int32 × Int32 × Int32 × Int32 × (Option Value) × xI × xJ) ⊕ (Int32 × xI × xJ)} (h : f_X2_total_57_2 x2 x3 x4 x5 z6 I J = some t) (hC : (c_X2_total_57_1 L xs d Q) t) : Rn L xs (d + 15) 31 18 [some (.ref 51), some (.ref 57), some (.int x2), some (.int x3), some (.int x4), some (.int x5), z6] [] 94 (I, J, xrf) Q := by
  unfold f_X2_total_57_2 at h
  refine Rn.fi 3 (c := x3 ≤ x4) (p1 := 85) (l1 := [some (.ref 51), some (.ref 57), some (.int x2), some (.int x3), some (.int x4), some (.int x5), z6]) (s1 := []) (n1 := 94) (M1 := (I, J, xrf)) (p2 := 24) (l2 := [some (.ref 51), some (.ref 57), some (.int x2), some (.int x3), some (.int x4), some (.int x5), z6]) (s2 := []) (n2 := 94) (M2 := (I, J, xrf)) (fun f => rfl) (fun hc => ?_) (fun hc => ?_)
  · rw [if_pos hc] at h
    obtain ⟨t0, h0, rfl⟩ := Option.map_eq_some_iff.mp h
    exact p_X2_total_57_12 x2 x3 x4 x5 z6 I J h0 hC
  · rw [if_neg hc] at h
    exact p_X2_total_57_3 x2 x3 x4 x5 z6 I J h hC
theorem q_X2_total_57_1 {L : Nat} {xs : Nat → Int32} {d : Nat} {Q : xO → Prop} (x2 : Int32) (x3 : Int32) (x4 : Int32) (x5 : Int32) (z6 : Option Value) (I : xI) (J : xJ) {t : (Int32 × Int32 × Int32 × Int32 × (Option Value) × xI × xJ) ⊕ (Int32 × xI × xJ)} (h : b_X2_total_57_1 x2 x3 x4 x5 z6 I J = some t) (hC : (c_X2_total_57_1 L xs d Q) t) : Rn L xs (d + 15) 31 6 [some (.ref 51), some (.ref 57), some (.int x2), some (.int x3), some (.int x4), some (.int x5), z6] [] 94 (I, J, xrf) Q := by
  unfold b_X2_total_57_1 at h
  refine Rn.fi 5 (c := (I 1 1) ≤ x5) (p1 := 85) (l1 := [some (.ref 51), some (.ref 57), some (.int x2), some (.int x3), some (.int x4), some (.int x5), z6]) (s1 := []) (n1 := 94) (M1 := (I, J, xrf)) (p2 := 18) (l2 := [some (.ref 51), some (.ref 57), some (.int x2), some (.int x3), some (.int x4), some (.int x5), z6]) (s2 := []) (n2 := 94) (M2 := (I, J, xrf)) (fun f => rfl) (fun hc => ?_) (fun hc => ?_)
  · rw [if_pos hc] at h
    obtain ⟨t0, h0, rfl⟩ := Option.map_eq_some_iff.mp h
    exact p_X2_total_57_12 x2 x3 x4 x5 z6 I J h0 hC
  · rw [if_neg hc] at h
    exact p_X2_total_57_2 x2 x3 x4 x5 z6 I J h hC
theorem p_X2_total_57_1 {L : Nat} {xs : Nat → Int32} {d : Nat} {Q : xO → Prop} (x2 : Int32) (x3 : Int32) (x4 : Int32) (x5 : Int32) (z6 : Option Value) (I : xI) (J : xJ) {t : Int32 × xI × xJ} (h : f_X2_total_57_1 x2 x3 x4 x5 z6 I J = some t) (hC : (c_X2_total_57 Q) t) : Rn L xs (d + 15) 31 6 [some (.ref 51), some (.ref 57), some (.int x2), some (.int x3), some (.int x4), some (.int x5), z6] [] 94 (I, J, xrf) Q := by
  unfold f_X2_total_57_1 at h
  exact xloop_some (P := fun s : Int32 × Int32 × Int32 × Int32 × (Option Value) × xI × xJ => Rn L xs (d + 15) 31 6 [some (.ref 51), some (.ref 57), some (.int s.1), some (.int s.2.1), some (.int s.2.2.1), some (.int s.2.2.2.1), s.2.2.2.2.1] [] 94 (s.2.2.2.2.2.1, s.2.2.2.2.2.2, xrf) Q) t (fun s ⟨s', hb, hp⟩ => q_X2_total_57_1 s.1 s.2.1 s.2.2.1 s.2.2.2.1 s.2.2.2.2.1 s.2.2.2.2.2.1 s.2.2.2.2.2.2 hb hp) (fun s hb => q_X2_total_57_1 s.1 s.2.1 s.2.2.1 s.2.2.2.1 s.2.2.2.2.1 s.2.2.2.2.2.1 s.2.2.2.2.2.2 hb hC) _ _ h
theorem p_X2_total_57_0 {L : Nat} {xs : Nat → Int32} {d : Nat} {Q : xO → Prop} (x2 : Int32) (x3 : Int32) (I : xI) (J : xJ) {t : Int32 × xI × xJ} (h : f_X2_total_57_0 x2 x3 I J = some t) (hC : (c_X2_total_57 Q) t) : Rn L xs (d + 15) 31 0 [some (.ref 51), some (.ref 57), some (.int x2), some (.int x3), none, none, none] [] 94 (I, J, xrf) Q := by
  unfold f_X2_total_57_0 at h
  refine Rn.go 4 (j' := 31) (pc' := 6) (ls' := [some (.ref 51), some (.ref 57), some (.int x2), some (.int x3), some (.int 0), some (.int 0), none]) (st' := []) (n' := 94) (M' := (I, J, xrf)) (fun f => rfl) ?_
  exact p_X2_total_57_1 x2 x3 0 0 none I J h hC
theorem p_X2_total_57 {L : Nat} {xs : Nat → Int32} {d : Nat} {Q : xO → Prop} (x2 : Int32) (x3 : Int32) (I : xI) (J : xJ) {t : Int32 × xI × xJ} (h : f_X2_total_57 x2 x3 I J = some t) (hC : Q ((some (.int t.1)), 94, (t.2.1, t.2.2, xrf))) : Rn L xs (d + 15) 31 0 [some (.ref 51), some (.ref 57), some (.int x2), some (.int x3), none, none, none] [] 94 (I, J, xrf) Q := p_X2_total_57_0 x2 x3 I J h hC
/-! X0_weigh -/
def c_X0_weigh (Q : xO → Prop) (t : Unit × xI × xJ) : Prop := Q (none, 94, (t.2.1, t.2.2, xrf))
def f_X0_weigh_8 (x1 : Int32) (x2 : Int32) (I : xI) (J : xJ) : Option (Unit × xI × xJ) := some ((), I, J)
def f_X0_weigh_7 (x1 : Int32) (x2 : Int32) (I : xI) (J : xJ) : Option (Unit × xI × xJ) := if x1 < 0 ∨ 2 ≤ x1.toNatClampNeg then none else if ((0 : Int32) < 0 ∨ (x1 * 6) < 0 ∨ (6 : Int32) < 0) ∨ 6 < (0 : Int32).toNatClampNeg + (6 : Int32).toNatClampNeg ∨ 12 < ((x1 * 6)).toNatClampNeg + (6 : Int32).toNatClampNeg then none else f_X0_weigh_8 x1 x2 ((xcp ((xup I 59 x1.toNatClampNeg x2)) 57 58 0 ((x1 * 6)).toNatClampNeg 6)) J
def f_X0_weigh_6 (x1 : Int32) (x2 : Int32) (I : xI) (J : xJ) : Option (Unit × xI × xJ) := if x1 < 0 ∨ 2 ≤ x1.toNatClampNeg then none else if (I 59 x1.toNatClampNeg) ≤ x2 then f_X0_weigh_8 x1 x2 I J else f_X0_weigh_7 x1 x2 I J
def f_X0_weigh_5 (x1 : Int32) (s0 : Int32) (I : xI) (J : xJ) : Option (Unit × xI × xJ) := f_X0_weigh_6 x1 s0 I J
def f_X0_weigh_4 (x1 : Int32) (I : xI) (J : xJ) : Option (Unit × xI × xJ) := if x1 < 0 ∨ 2 ≤ x1.toNatClampNeg then none else (f_X2_total_57 ((I 1 0)) ((I 59 x1.toNatClampNeg)) I J).bind fun o => f_X0_weigh_5 x1 o.1 o.2.1 o.2.2
def f_X0_weigh_3 (x1 : Int32) (s0 : Int32) (I : xI) (J : xJ) : Option (Unit × xI × xJ) := f_X0_weigh_6 x1 s0 I J
def f_X0_weigh_2 (x1 : Int32) (I : xI) (J : xJ) : Option (Unit × xI × xJ) := (f_X3_total I J).bind fun o => f_X0_weigh_3 x1 o.1 o.2.1 o.2.2
def f_X0_weigh_1 (x1 : Int32) (I : xI) (J : xJ) : Option (Unit × xI × xJ) := (f_X3_load_57 I J).bind fun o => f_X0_weigh_2 x1 o.2.1 o.2.2
def f_X0_weigh_0 (x1 : Int32) (I : xI) (J : xJ) : Option (Unit × xI × xJ) := if x1 = 0 then f_X0_weigh_1 x1 I J else f_X0_weigh_4 x1 I J
def f_X0_weigh (x1 : Int32) (I : xI) (J : xJ) : Option (Unit × xI × xJ) := f_X0_weigh_0 x1 I J
theorem p_X0_weigh_8 {L : Nat} {xs : Nat → Int32} {d : Nat} {Q : xO → Prop} (x1 : Int32) (x2 : Int32) (I : xI) (J : xJ) {t : Unit × xI × xJ} (h : f_X0_weigh_8 x1 x2 I J = some t) (hC : (c_X0_weigh Q) t) : Rn L xs (d + 16) 6 86 [some (.ref 56), some (.int x1), some (.int x2)] [] 94 (I, J, xrf) Q := by
  unfold f_X0_weigh_8 at h
  cases h
  exact Rn.ret 1 (o := (none, 94, (I, J, xrf))) (fun f => rfl) hC
theorem p_X0_weigh_7 {L : Nat} {xs : Nat → Int32} {d : Nat} {Q : xO → Prop} (x1 : Int32) (x2 : Int32) (I : xI) (J : xJ) {t : Unit × xI × xJ} (h : f_X0_weigh_7 x1 x2 I J = some t) (hC : (c_X0_weigh Q) t) : Rn L xs (d + 16) 6 61 [some (.ref 56), some (.int x1), some (.int x2)] [] 94 (I, J, xrf) Q := by
  unfold f_X0_weigh_7 at h
  obtain ⟨hc, h⟩ := xif h
  refine Rn.ok 5 (c := x1 < 0 ∨ 2 ≤ x1.toNatClampNeg) (p1 := 68) (l1 := [some (.ref 56), some (.int x1), some (.int x2)]) (s1 := []) (n1 := 94) (M1 := ((xup I 59 x1.toNatClampNeg x2), J, xrf)) (fun f => rfl) hc ?_
  obtain ⟨hc, h⟩ := xif h
  refine Rn.ok 10 (c := ((0 : Int32) < 0 ∨ (x1 * 6) < 0 ∨ (6 : Int32) < 0) ∨ 6 < (0 : Int32).toNatClampNeg + (6 : Int32).toNatClampNeg ∨ 12 < ((x1 * 6)).toNatClampNeg + (6 : Int32).toNatClampNeg) (p1 := 86) (l1 := [some (.ref 56), some (.int x1), some (.int x2)]) (s1 := []) (n1 := 94) (M1 := ((xcp ((xup I 59 x1.toNatClampNeg x2)) 57 58 0 ((x1 * 6)).toNatClampNeg 6), J, xrf)) (fun f => rfl) hc ?_
  exact p_X0_weigh_8 x1 x2 ((xcp ((xup I 59 x1.toNatClampNeg x2)) 57 58 0 ((x1 * 6)).toNatClampNeg 6)) J h hC
theorem p_X0_weigh_6 {L : Nat} {xs : Nat → Int32} {d : Nat} {Q : xO → Prop} (x1 : Int32) (x2 : Int32) (I : xI) (J : xJ) {t : Unit × xI × xJ} (h : f_X0_weigh_6 x1 x2 I J = some t) (hC : (c_X0_weigh Q) t) : Rn L xs (d + 16) 6 51 [some (.ref 56), some (.int x1), some (.int x2)] [] 94 (I, J, xrf) Q := by
  unfold f_X0_weigh_6 at h
  obtain ⟨hc, h⟩ := xif h
  refine Rn.ok 5 (c := x1 < 0 ∨ 2 ≤ x1.toNatClampNeg) (p1 := 58) (l1 := [some (.ref 56), some (.int x1), some (.int x2)]) (s1 := [.int ((I 59 x1.toNatClampNeg)), .int x2]) (n1 := 94) (M1 := (I, J, xrf)) (fun f => rfl) hc ?_
  refine Rn.fi 1 (c := (I 59 x1.toNatClampNeg) ≤ x2) (p1 := 86) (l1 := [some (.ref 56), some (.int x1), some (.int x2)]) (s1 := []) (n1 := 94) (M1 := (I, J, xrf)) (p2 := 61) (l2 := [some (.ref 56), some (.int x1), some (.int x2)]) (s2 := []) (n2 := 94) (M2 := (I, J, xrf)) (fun f => rfl) (fun hc => ?_) (fun hc => ?_)
  · rw [if_pos hc] at h
    exact p_X0_weigh_8 x1 x2 I J h hC
  · rw [if_neg hc] at h
    exact p_X0_weigh_7 x1 x2 I J h hC
theorem p_X0_weigh_5 {L : Nat} {xs : Nat → Int32} {d : Nat} {Q : xO → Prop} (x1 : Int32) (s0 : Int32) (I : xI) (J : xJ) {t : Unit × xI × xJ} (h : f_X0_weigh_5 x1 s0 I J = some t) (hC : (c_X0_weigh Q) t) : Rn L xs (d + 16) 6 50 [some (.ref 56), some (.int x1), none] [.int s0] 94 (I, J, xrf) Q := by
  unfold f_X0_weigh_5 at h
  refine Rn.go 1 (j' := 6) (pc' := 51) (ls' := [some (.ref 56), some (.int x1), some (.int s0)]) (st' := []) (n' := 94) (M' := (I, J, xrf)) (fun f => rfl) ?_
  exact p_X0_weigh_6 x1 s0 I J h hC
theorem p_X0_weigh_4 {L : Nat} {xs : Nat → Int32} {d : Nat} {Q : xO → Prop} (x1 : Int32) (I : xI) (J : xJ) {t : Unit × xI × xJ} (h : f_X0_weigh_4 x1 I J = some t) (hC : (c_X0_weigh Q) t) : Rn L xs (d + 16) 6 26 [some (.ref 56), some (.int x1), none] [] 94 (I, J, xrf) Q := by
  unfold f_X0_weigh_4 at h
  obtain ⟨hc, h⟩ := xif h
  refine Rn.ok 11 (c := x1 < 0 ∨ 2 ≤ x1.toNatClampNeg) (p1 := 47) (l1 := [some (.ref 56), some (.int x1), none]) (s1 := [.int ((I 59 x1.toNatClampNeg)), .int ((I 1 0)), .ref 57, .ref 51]) (n1 := 94) (M1 := (I, J, xrf)) (fun f => rfl) hc ?_
  obtain ⟨o, ho, h⟩ := Option.bind_eq_some_iff.mp h
  refine Rn.call (d1 := d + 15) (j1 := 31) (ls1 := [some (.ref 51), some (.ref 57), some (.int ((I 1 0))), some (.int ((I 59 x1.toNatClampNeg))), none, none, none]) (rest := []) (fun f => rfl) ?_
  refine p_X2_total_57 (d := d + 0) ((I 1 0)) ((I 59 x1.toNatClampNeg)) I J (t := o) ho ?_
  exact p_X0_weigh_5 x1 o.1 o.2.1 o.2.2 h hC
theorem p_X0_weigh_3 {L : Nat} {xs : Nat → Int32} {d : Nat} {Q : xO → Prop} (x1 : Int32) (s0 : Int32) (I : xI) (J : xJ) {t : Unit × xI × xJ} (h : f_X0_weigh_3 x1 s0 I J = some t) (hC : (c_X0_weigh Q) t) : Rn L xs (d + 16) 6 22 [some (.ref 56), some (.int x1), none] [.int s0] 94 (I, J, xrf) Q := by
  unfold f_X0_weigh_3 at h
  refine Rn.go 2 (j' := 6) (pc' := 51) (ls' := [some (.ref 56), some (.int x1), some (.int s0)]) (st' := []) (n' := 94) (M' := (I, J, xrf)) (fun f => rfl) ?_
  exact p_X0_weigh_6 x1 s0 I J h hC
theorem p_X0_weigh_2 {L : Nat} {xs : Nat → Int32} {d : Nat} {Q : xO → Prop} (x1 : Int32) (I : xI) (J : xJ) {t : Unit × xI × xJ} (h : f_X0_weigh_2 x1 I J = some t) (hC : (c_X0_weigh Q) t) : Rn L xs (d + 16) 6 15 [some (.ref 56), some (.int x1), none] [] 94 (I, J, xrf) Q := by
  unfold f_X0_weigh_2 at h
  refine Rn.go 2 (j' := 6) (pc' := 19) (ls' := [some (.ref 56), some (.int x1), none]) (st' := [.ref 48]) (n' := 94) (M' := (I, J, xrf)) (fun f => rfl) ?_
  obtain ⟨o, ho, h⟩ := Option.bind_eq_some_iff.mp h
  refine Rn.call (d1 := d + 15) (j1 := 37) (ls1 := [some (.ref 48), none, none, none]) (rest := []) (fun f => rfl) ?_
  refine p_X3_total (d := d + 12) I J (t := o) ho ?_
  exact p_X0_weigh_3 x1 o.1 o.2.1 o.2.2 h hC
theorem p_X0_weigh_1 {L : Nat} {xs : Nat → Int32} {d : Nat} {Q : xO → Prop} (x1 : Int32) (I : xI) (J : xJ) {t : Unit × xI × xJ} (h : f_X0_weigh_1 x1 I J = some t) (hC : (c_X0_weigh Q) t) : Rn L xs (d + 16) 6 4 [some (.ref 56), some (.int x1), none] [] 94 (I, J, xrf) Q := by
  unfold f_X0_weigh_1 at h
  refine Rn.go 4 (j' := 6) (pc' := 12) (ls' := [some (.ref 56), some (.int x1), none]) (st' := [.ref 57, .ref 48]) (n' := 94) (M' := (I, J, xrf)) (fun f => rfl) ?_
  obtain ⟨o, ho, h⟩ := Option.bind_eq_some_iff.mp h
  refine Rn.call (d1 := d + 15) (j1 := 34) (ls1 := [some (.ref 48), some (.ref 57), none, none, none, none]) (rest := []) (fun f => rfl) ?_
  refine p_X3_load_57 (d := d + 12) I J (t := o) ho ?_
  exact p_X0_weigh_2 x1 o.2.1 o.2.2 h hC
theorem p_X0_weigh_0 {L : Nat} {xs : Nat → Int32} {d : Nat} {Q : xO → Prop} (x1 : Int32) (I : xI) (J : xJ) {t : Unit × xI × xJ} (h : f_X0_weigh_0 x1 I J = some t) (hC : (c_X0_weigh Q) t) : Rn L xs (d + 16) 6 0 [some (.ref 56), some (.int x1), none] [] 94 (I, J, xrf) Q := by
  unfold f_X0_weigh_0 at h
  refine Rn.fi 2 (c := x1 = 0) (p1 := 4) (l1 := [some (.ref 56), some (.int x1), none]) (s1 := []) (n1 := 94) (M1 := (I, J, xrf)) (p2 := 26) (l2 := [some (.ref 56), some (.int x1), none]) (s2 := []) (n2 := 94) (M2 := (I, J, xrf)) (fun f => rfl) (fun hc => ?_) (fun hc => ?_)
  · rw [if_pos hc] at h
    exact p_X0_weigh_1 x1 I J h hC
  · rw [if_neg hc] at h
    exact p_X0_weigh_4 x1 I J h hC
theorem p_X0_weigh {L : Nat} {xs : Nat → Int32} {d : Nat} {Q : xO → Prop} (x1 : Int32) (I : xI) (J : xJ) {t : Unit × xI × xJ} (h : f_X0_weigh x1 I J = some t) (hC : Q (none, 94, (t.2.1, t.2.2, xrf))) : Rn L xs (d + 16) 6 0 [some (.ref 56), some (.int x1), none] [] 94 (I, J, xrf) Q := p_X0_weigh_0 x1 I J h hC
/-! X0_isFirstIn -/
def c_X0_isFirstIn (Q : xO → Prop) (t : Int32 × xI × xJ) : Prop := Q ((some (.int t.1)), 94, (t.2.1, t.2.2, xrf))
def c_X0_isFirstIn_1 (L : Nat) (xs : Nat → Int32) (d : Nat) (Q : xO → Prop) (t : (Int32 × Int32 × Int32 × Int32 × (Option Value) × (Option Value) × xI × xJ) ⊕ (Int32 × xI × xJ)) : Prop := match t with
  | .inl s => Rn L xs (d + 1) 4 3 [some (.ref 56), some (.int s.1), some (.int s.2.1), some (.int s.2.2.1), some (.int s.2.2.2.1), s.2.2.2.2.1, s.2.2.2.2.2.1] [] 94 (s.2.2.2.2.2.2.1, s.2.2.2.2.2.2.2, xrf) Q
  | .inr t => (c_X0_isFirstIn Q) t
def f_X0_isFirstIn_8 (x1 : Int32) (x2 : Int32) (x3 : Int32) (x4 : Int32) (z5 : Option Value) (z6 : Option Value) (I : xI) (J : xJ) : Option (Int32 × xI × xJ) := some (0, I, J)
def f_X0_isFirstIn_7 (x1 : Int32) (x2 : Int32) (x3 : Int32) (x4 : Int32) (x5 : Int32) (x6 : Int32) (I : xI) (J : xJ) : Option ((Int32 × Int32 × Int32 × Int32 × (Option Value) × (Option Value) × xI × xJ) ⊕ (Int32 × xI × xJ)) := some (.inl (x1, x2, x3, ((x4 + 1)), (some (.int x5)), (some (.int x6)), I, J))
def f_X0_isFirstIn_6 (x1 : Int32) (x2 : Int32) (x3 : Int32) (x4 : Int32) (x5 : Int32) (x6 : Int32) (s0 : Int32) (I : xI) (J : xJ) : Option (Int32 × xI × xJ) := if s0 = 0 ∨ s0 = 1 then some (s0, I, J) else none
def f_X0_isFirstIn_5 (x1 : Int32) (x2 : Int32) (x3 : Int32) (x4 : Int32) (x5 : Int32) (x6 : Int32) (I : xI) (J : xJ) : Option (Int32 × xI × xJ) := f_X0_isFirstIn_6 x1 x2 x3 x4 x5 x6 0 I J
def f_X0_isFirstIn_4 (x1 : Int32) (x2 : Int32) (x3 : Int32) (x4 : Int32) (x5 : Int32) (x6 : Int32) (I : xI) (J : xJ) : Option (Int32 × xI × xJ) := f_X0_isFirstIn_6 x1 x2 x3 x4 x5 x6 1 I J
def f_X0_isFirstIn_3 (x1 : Int32) (x2 : Int32) (x3 : Int32) (x4 : Int32) (x5 : Int32) (x6 : Int32) (I : xI) (J : xJ) : Option (Int32 × xI × xJ) := if x5 = 1 then f_X0_isFirstIn_4 x1 x2 x3 x4 x5 x6 I J else f_X0_isFirstIn_5 x1 x2 x3 x4 x5 x6 I J
def f_X0_isFirstIn_2 (x1 : Int32) (x2 : Int32) (x3 : Int32) (x4 : Int32) (z5 : Option Value) (z6 : Option Value) (I : xI) (J : xJ) : Option ((Int32 × Int32 × Int32 × Int32 × (Option Value) × (Option Value) × xI × xJ) ⊕ (Int32 × xI × xJ)) := if x4 < 0 ∨ 6 ≤ x4.toNatClampNeg then none else if x4 < 0 ∨ 6 ≤ x4.toNatClampNeg then none else if (((I 57 x4.toNatClampNeg) >>> (x1 &&& 31)) &&& 1) = (((I 57 x4.toNatClampNeg) >>> (x2 &&& 31)) &&& 1) then f_X0_isFirstIn_7 x1 x2 x3 x4 ((((I 57 x4.toNatClampNeg) >>> (x1 &&& 31)) &&& 1)) ((((I 57 x4.toNatClampNeg) >>> (x2 &&& 31)) &&& 1)) I J else ((f_X0_isFirstIn_3 x1 x2 x3 x4 ((((I 57 x4.toNatClampNeg) >>> (x1 &&& 31)) &&& 1)) ((((I 57 x4.toNatClampNeg) >>> (x2 &&& 31)) &&& 1)) I J)).map .inr
def b_X0_isFirstIn_1 (x1 : Int32) (x2 : Int32) (x3 : Int32) (x4 : Int32) (z5 : Option Value) (z6 : Option Value) (I : xI) (J : xJ) : Option ((Int32 × Int32 × Int32 × Int32 × (Option Value) × (Option Value) × xI × xJ) ⊕ (Int32 × xI × xJ)) := if x3 ≤ x4 then ((f_X0_isFirstIn_8 x1 x2 x3 x4 z5 z6 I J)).map .inr else f_X0_isFirstIn_2 x1 x2 x3 x4 z5 z6 I J
def f_X0_isFirstIn_1 (x1 : Int32) (x2 : Int32) (x3 : Int32) (x4 : Int32) (z5 : Option Value) (z6 : Option Value) (I : xI) (J : xJ) : Option (Int32 × xI × xJ) := xloop (fun s : Int32 × Int32 × Int32 × Int32 × (Option Value) × (Option Value) × xI × xJ => b_X0_isFirstIn_1 s.1 s.2.1 s.2.2.1 s.2.2.2.1 s.2.2.2.2.1 s.2.2.2.2.2.1 s.2.2.2.2.2.2.1 s.2.2.2.2.2.2.2) 5000 (x1, x2, x3, x4, z5, z6, I, J)
def f_X0_isFirstIn_0 (x1 : Int32) (x2 : Int32) (x3 : Int32) (I : xI) (J : xJ) : Option (Int32 × xI × xJ) := f_X0_isFirstIn_1 x1 x2 x3 0 none none I J
def f_X0_isFirstIn (x1 : Int32) (x2 : Int32) (x3 : Int32) (I : xI) (J : xJ) : Option (Int32 × xI × xJ) := f_X0_isFirstIn_0 x1 x2 x3 I J
theorem p_X0_isFirstIn_8 {L : Nat} {xs : Nat → Int32} {d : Nat} {Q : xO → Prop} (x1 : Int32) (x2 : Int32) (x3 : Int32) (x4 : Int32) (z5 : Option Value) (z6 : Option Value) (I : xI) (J : xJ) {t : Int32 × xI × xJ} (h : f_X0_isFirstIn_8 x1 x2 x3 x4 z5 z6 I J = some t) (hC : (c_X0_isFirstIn Q) t) : Rn L xs (d + 1) 4 60 [some (.ref 56), some (.int x1), some (.int x2), some (.int x3), some (.int x4), z5, z6] [] 94 (I, J, xrf) Q := by
  unfold f_X0_isFirstIn_8 at h
  cases h
  exact Rn.ret 2 (o := ((some (.int 0)), 94, (I, J, xrf))) (fun f => rfl) hC
theorem p_X0_isFirstIn_7 {L : Nat} {xs : Nat → Int32} {d : Nat} {Q : xO → Prop} (x1 : Int32) (x2 : Int32) (x3 : Int32) (x4 : Int32) (x5 : Int32) (x6 : Int32) (I : xI) (J : xJ) {t : (Int32 × Int32 × Int32 × Int32 × (Option Value) × (Option Value) × xI × xJ) ⊕ (Int32 × xI × xJ)} (h : f_X0_isFirstIn_7 x1 x2 x3 x4 x5 x6 I J = some t) (hC : (c_X0_isFirstIn_1 L xs d Q) t) : Rn L xs (d + 1) 4 54 [some (.ref 56), some (.int x1), some (.int x2), some (.int x3), some (.int x4), some (.int x5), some (.int x6)] [] 94 (I, J, xrf) Q := by
  unfold f_X0_isFirstIn_7 at h
  refine Rn.go 2 (j' := 4) (pc' := 3) (ls' := [some (.ref 56), some (.int x1), some (.int x2), some (.int x3), some (.int ((x4 + 1))), some (.int x5), some (.int x6)]) (st' := []) (n' := 94) (M' := (I, J, xrf)) (fun f => rfl) ?_
  cases h; exact hC
theorem p_X0_isFirstIn_6 {L : Nat} {xs : Nat → Int32} {d : Nat} {Q : xO → Prop} (x1 : Int32) (x2 : Int32) (x3 : Int32) (x4 : Int32) (x5 : Int32) (x6 : Int32) (s0 : Int32) (I : xI) (J : xJ) {t : Int32 × xI × xJ} (h : f_X0_isFirstIn_6 x1 x2 x3 x4 x5 x6 s0 I J = some t) (hC : (c_X0_isFirstIn Q) t) : Rn L xs (d + 1) 4 53 [some (.ref 56), some (.int x1), some (.int x2), some (.int x3), some (.int x4), some (.int x5), some (.int x6)] [.int s0] 94 (I, J, xrf) Q := by
  unfold f_X0_isFirstIn_6 at h
  obtain ⟨hc, h⟩ := xifT h
  cases h
  exact Rn.retT 1 (c := s0 = 0 ∨ s0 = 1) (o := ((some (.int s0)), 94, (I, J, xrf))) (fun f => rfl) hc hC
theorem p_X0_isFirstIn_5 {L : Nat} {xs : Nat → Int32} {d : Nat} {Q : xO → Prop} (x1 : Int32) (x2 : Int32) (x3 : Int32) (x4 : Int32) (x5 : Int32) (x6 : Int32) (I : xI) (J : xJ) {t : Int32 × xI × xJ} (h : f_X0_isFirstIn_5 x1 x2 x3 x4 x5 x6 I J = some t) (hC : (c_X0_isFirstIn Q) t) : Rn L xs (d + 1) 4 52 [some (.ref 56), some (.int x1), some (.int x2), some (.int x3), some (.int x4), some (.int x5), some (.int x6)] [] 94 (I, J, xrf) Q := by
  unfold f_X0_isFirstIn_5 at h
  refine Rn.go 1 (j' := 4) (pc' := 53) (ls' := [some (.ref 56), some (.int x1), some (.int x2), some (.int x3), some (.int x4), some (.int x5), some (.int x6)]) (st' := [.int 0]) (n' := 94) (M' := (I, J, xrf)) (fun f => rfl) ?_
  exact p_X0_isFirstIn_6 x1 x2 x3 x4 x5 x6 0 I J h hC
theorem p_X0_isFirstIn_4 {L : Nat} {xs : Nat → Int32} {d : Nat} {Q : xO → Prop} (x1 : Int32) (x2 : Int32) (x3 : Int32) (x4 : Int32) (x5 : Int32) (x6 : Int32) (I : xI) (J : xJ) {t : Int32 × xI × xJ} (h : f_X0_isFirstIn_4 x1 x2 x3 x4 x5 x6 I J = some t) (hC : (c_X0_isFirstIn Q) t) : Rn L xs (d + 1) 4 48 [some (.ref 56), some (.int x1), some (.int x2), some (.int x3), some (.int x4), some (.int x5), some (.int x6)] [] 94 (I, J, xrf) Q := by
  unfold f_X0_isFirstIn_4 at h
  refine Rn.go 2 (j' := 4) (pc' := 53) (ls' := [some (.ref 56), some (.int x1), some (.int x2), some (.int x3), some (.int x4), some (.int x5), some (.int x6)]) (st' := [.int 1]) (n' := 94) (M' := (I, J, xrf)) (fun f => rfl) ?_
  exact p_X0_isFirstIn_6 x1 x2 x3 x4 x5 x6 1 I J h hC
theorem p_X0_isFirstIn_3 {L : Nat} {xs : Nat → Int32} {d : Nat} {Q : xO → Prop} (x1 : Int32) (x2 : Int32) (x3 : Int32) (x4 : Int32) (x5 : Int32) (x6 : Int32) (I : xI) (J : xJ) {t : Int32 × xI × xJ} (h : f_X0_isFirstIn_3 x1 x2 x3 x4 x5 x6 I J = some t) (hC : (c_X0_isFirstIn Q) t) : Rn L xs (d + 1) 4 42 [some (.ref 56), some (.int x1), some (.int x2), some (.int x3), some (.int x4), some (.int x5), some (.int x6)] [] 94 (I, J, xrf) Q := by
  unfold f_X0_isFirstIn_3 at h
  refine Rn.fi 3 (c := x5 = 1) (p1 := 48) (l1 := [some (.ref 56), some (.int x1), some (.int x2), some (.int x3), some (.int x4), some (.int x5), some (.int x6)]) (s1 := []) (n1 := 94) (M1 := (I, J, xrf)) (p2 := 52) (l2 := [some (.ref 56), some (.int x1), some (.int x2), some (.int x3), some (.int x4), some (.int x5), some (.int x6)]) (s2 := []) (n2 := 94) (M2 := (I, J, xrf)) (fun f => rfl) (fun hc => ?_) (fun hc => ?_)
  · rw [if_pos hc] at h
    exact p_X0_isFirstIn_4 x1 x2 x3 x4 x5 x6 I J h hC
  · rw [if_neg hc] at h
    exact p_X0_isFirstIn_5 x1 x2 x3 x4 x5 x6 I J h hC
theorem p_X0_isFirstIn_2 {L : Nat} {xs : Nat → Int32} {d : Nat} {Q : xO → Prop} (x1 : Int32) (x2 : Int32) (x3 : Int32) (x4 : Int32) (z5 : Option Value) (z6 : Option Value) (I : xI) (J : xJ) {t : (Int32 × Int32 × Int32 × Int32 × (Option Value) × (Option Value) × xI × xJ) ⊕ (Int32 × xI × xJ)} (h : f_X0_isFirstIn_2 x1 x2 x3 x4 z5 z6 I J = some t) (hC : (c_X0_isFirstIn_1 L xs d Q) t) : Rn L xs (d + 1) 4 9 [some (.ref 56), some (.int x1), some (.int x2), some (.int x3), some (.int x4), z5, z6] [] 94 (I, J, xrf) Q := by
  unfold f_X0_isFirstIn_2 at h
  obtain ⟨hc, h⟩ := xif h
  refine Rn.ok 4 (c := x4 < 0 ∨ 6 ≤ x4.toNatClampNeg) (p1 := 16) (l1 := [some (.ref 56), some (.int x1), some (.int x2), some (.int x3), some (.int x4), z5, z6]) (s1 := [.int ((I 57 x4.toNatClampNeg))]) (n1 := 94) (M1 := (I, J, xrf)) (fun f => rfl) hc ?_
  obtain ⟨hc, h⟩ := xif h
  refine Rn.ok 9 (c := x4 < 0 ∨ 6 ≤ x4.toNatClampNeg) (p1 := 29) (l1 := [some (.ref 56), some (.int x1), some (.int x2), some (.int x3), some (.int x4), some (.int ((((I 57 x4.toNatClampNeg) >>> (x1 &&& 31)) &&& 1))), z6]) (s1 := [.int ((I 57 x4.toNatClampNeg))]) (n1 := 94) (M1 := (I, J, xrf)) (fun f => rfl) hc ?_
  refine Rn.fi 8 (c := (((I 57 x4.toNatClampNeg) >>> (x1 &&& 31)) &&& 1) = (((I 57 x4.toNatClampNeg) >>> (x2 &&& 31)) &&& 1)) (p1 := 54) (l1 := [some (.ref 56), some (.int x1), some (.int x2), some (.int x3), some (.int x4), some (.int ((((I 57 x4.toNatClampNeg) >>> (x1 &&& 31)) &&& 1))), some (.int ((((I 57 x4.toNatClampNeg) >>> (x2 &&& 31)) &&& 1)))]) (s1 := []) (n1 := 94) (M1 := (I, J, xrf)) (p2 := 42) (l2 := [some (.ref 56), some (.int x1), some (.int x2), some (.int x3), some (.int x4), some (.int ((((I 57 x4.toNatClampNeg) >>> (x1 &&& 31)) &&& 1))), some (.int ((((I 57 x4.toNatClampNeg) >>> (x2 &&& 31)) &&& 1)))]) (s2 := []) (n2 := 94) (M2 := (I, J, xrf)) (fun f => rfl) (fun hc => ?_) (fun hc => ?_)
  · rw [if_pos hc] at h
    exact p_X0_isFirstIn_7 x1 x2 x3 x4 ((((I 57 x4.toNatClampNeg) >>> (x1 &&& 31)) &&& 1)) ((((I 57 x4.toNatClampNeg) >>> (x2 &&& 31)) &&& 1)) I J h hC
  · rw [if_neg hc] at h
    obtain ⟨t0, h0, rfl⟩ := Option.map_eq_some_iff.mp h
    exact p_X0_isFirstIn_3 x1 x2 x3 x4 ((((I 57 x4.toNatClampNeg) >>> (x1 &&& 31)) &&& 1)) ((((I 57 x4.toNatClampNeg) >>> (x2 &&& 31)) &&& 1)) I J h0 hC
theorem q_X0_isFirstIn_1 {L : Nat} {xs : Nat → Int32} {d : Nat} {Q : xO → Prop} (x1 : Int32) (x2 : Int32) (x3 : Int32) (x4 : Int32) (z5 : Option Value) (z6 : Option Value) (I : xI) (J : xJ) {t : (Int32 × Int32 × Int32 × Int32 × (Option Value) × (Option Value) × xI × xJ) ⊕ (Int32 × xI × xJ)} (h : b_X0_isFirstIn_1 x1 x2 x3 x4 z5 z6 I J = some t) (hC : (c_X0_isFirstIn_1 L xs d Q) t) : Rn L xs (d + 1) 4 3 [some (.ref 56), some (.int x1), some (.int x2), some (.int x3), some (.int x4), z5, z6] [] 94 (I, J, xrf) Q := by
  unfold b_X0_isFirstIn_1 at h
  refine Rn.fi 3 (c := x3 ≤ x4) (p1 := 60) (l1 := [some (.ref 56), some (.int x1), some (.int x2), some (.int x3), some (.int x4), z5, z6]) (s1 := []) (n1 := 94) (M1 := (I, J, xrf)) (p2 := 9) (l2 := [some (.ref 56), some (.int x1), some (.int x2), some (.int x3), some (.int x4), z5, z6]) (s2 := []) (n2 := 94) (M2 := (I, J, xrf)) (fun f => rfl) (fun hc => ?_) (fun hc => ?_)
  · rw [if_pos hc] at h
    obtain ⟨t0, h0, rfl⟩ := Option.map_eq_some_iff.mp h
    exact p_X0_isFirstIn_8 x1 x2 x3 x4 z5 z6 I J h0 hC
  · rw [if_neg hc] at h
    exact p_X0_isFirstIn_2 x1 x2 x3 x4 z5 z6 I J h hC
theorem p_X0_isFirstIn_1 {L : Nat} {xs : Nat → Int32} {d : Nat} {Q : xO → Prop} (x1 : Int32) (x2 : Int32) (x3 : Int32) (x4 : Int32) (z5 : Option Value) (z6 : Option Value) (I : xI) (J : xJ) {t : Int32 × xI × xJ} (h : f_X0_isFirstIn_1 x1 x2 x3 x4 z5 z6 I J = some t) (hC : (c_X0_isFirstIn Q) t) : Rn L xs (d + 1) 4 3 [some (.ref 56), some (.int x1), some (.int x2), some (.int x3), some (.int x4), z5, z6] [] 94 (I, J, xrf) Q := by
  unfold f_X0_isFirstIn_1 at h
  exact xloop_some (P := fun s : Int32 × Int32 × Int32 × Int32 × (Option Value) × (Option Value) × xI × xJ => Rn L xs (d + 1) 4 3 [some (.ref 56), some (.int s.1), some (.int s.2.1), some (.int s.2.2.1), some (.int s.2.2.2.1), s.2.2.2.2.1, s.2.2.2.2.2.1] [] 94 (s.2.2.2.2.2.2.1, s.2.2.2.2.2.2.2, xrf) Q) t (fun s ⟨s', hb, hp⟩ => q_X0_isFirstIn_1 s.1 s.2.1 s.2.2.1 s.2.2.2.1 s.2.2.2.2.1 s.2.2.2.2.2.1 s.2.2.2.2.2.2.1 s.2.2.2.2.2.2.2 hb hp) (fun s hb => q_X0_isFirstIn_1 s.1 s.2.1 s.2.2.1 s.2.2.2.1 s.2.2.2.2.1 s.2.2.2.2.2.1 s.2.2.2.2.2.2.1 s.2.2.2.2.2.2.2 hb hC) _ _ h
theorem p_X0_isFirstIn_0 {L : Nat} {xs : Nat → Int32} {d : Nat} {Q : xO → Prop} (x1 : Int32) (x2 : Int32) (x3 : Int32) (I : xI) (J : xJ) {t : Int32 × xI × xJ} (h : f_X0_isFirstIn_0 x1 x2 x3 I J = some t) (hC : (c_X0_isFirstIn Q) t) : Rn L xs (d + 1) 4 0 [some (.ref 56), some (.int x1), some (.int x2), some (.int x3), none, none, none] [] 94 (I, J, xrf) Q := by
  unfold f_X0_isFirstIn_0 at h
  refine Rn.go 2 (j' := 4) (pc' := 3) (ls' := [some (.ref 56), some (.int x1), some (.int x2), some (.int x3), some (.int 0), none, none]) (st' := []) (n' := 94) (M' := (I, J, xrf)) (fun f => rfl) ?_
  exact p_X0_isFirstIn_1 x1 x2 x3 0 none none I J h hC
theorem p_X0_isFirstIn {L : Nat} {xs : Nat → Int32} {d : Nat} {Q : xO → Prop} (x1 : Int32) (x2 : Int32) (x3 : Int32) (I : xI) (J : xJ) {t : Int32 × xI × xJ} (h : f_X0_isFirstIn x1 x2 x3 I J = some t) (hC : Q ((some (.int t.1)), 94, (t.2.1, t.2.2, xrf))) : Rn L xs (d + 1) 4 0 [some (.ref 56), some (.int x1), some (.int x2), some (.int x3), none, none, none] [] 94 (I, J, xrf) Q := p_X0_isFirstIn_0 x1 x2 x3 I J h hC
/-! X0_areBitsInOrder -/
def c_X0_areBitsInOrder (Q : xO → Prop) (t : Int32 × xI × xJ) : Prop := Q ((some (.int t.1)), 94, (t.2.1, t.2.2, xrf))
def c_X0_areBitsInOrder_1 (L : Nat) (xs : Nat → Int32) (d : Nat) (Q : xO → Prop) (t : (Int32 × Int32 × xI × xJ) ⊕ (Int32 × xI × xJ)) : Prop := match t with
  | .inl s => Rn L xs (d + 2) 3 2 [some (.ref 56), some (.int s.1), some (.int s.2.1)] [] 94 (s.2.2.1, s.2.2.2, xrf) Q
  | .inr t => (c_X0_areBitsInOrder Q) t
def f_X0_areBitsInOrder_7 (x1 : Int32) (x2 : Int32) (I : xI) (J : xJ) : Option (Int32 × xI × xJ) := some (1, I, J)
def f_X0_areBitsInOrder_6 (x1 : Int32) (x2 : Int32) (I : xI) (J : xJ) : Option ((Int32 × Int32 × xI × xJ) ⊕ (Int32 × xI × xJ)) := some (.inl (x1, ((x2 + 1)), I, J))
def f_X0_areBitsInOrder_5 (x1 : Int32) (x2 : Int32) (I : xI) (J : xJ) : Option (Int32 × xI × xJ) := some (0, I, J)
def f_X0_areBitsInOrder_4 (x1 : Int32) (x2 : Int32) (s0 : Int32) (I : xI) (J : xJ) : Option ((Int32 × Int32 × xI × xJ) ⊕ (Int32 × xI × xJ)) := if s0 = 0 then f_X0_areBitsInOrder_6 x1 x2 I J else ((f_X0_areBitsInOrder_5 x1 x2 I J)).map .inr
def f_X0_areBitsInOrder_3 (x1 : Int32) (x2 : Int32) (I : xI) (J : xJ) : Option ((Int32 × Int32 × xI × xJ) ⊕ (Int32 × xI × xJ)) := (f_X0_isFirstIn x2 ((x2 - 1)) x1 I J).bind fun o => f_X0_areBitsInOrder_4 x1 x2 o.1 o.2.1 o.2.2
def f_X0_areBitsInOrder_2 (x1 : Int32) (x2 : Int32) (s0 : Int32) (s1 : Int32) (I : xI) (J : xJ) : Option ((Int32 × Int32 × xI × xJ) ⊕ (Int32 × xI × xJ)) := if s1 ≤ s0 then ((f_X0_areBitsInOrder_7 x1 x2 I J)).map .inr else f_X0_areBitsInOrder_3 x1 x2 I J
def b_X0_areBitsInOrder_1 (x1 : Int32) (x2 : Int32) (I : xI) (J : xJ) : Option ((Int32 × Int32 × xI × xJ) ⊕ (Int32 × xI × xJ)) := (f_X5_bits I J).bind fun o => f_X0_areBitsInOrder_2 x1 x2 x2 o.1 o.2.1 o.2.2
def f_X0_areBitsInOrder_1 (x1 : Int32) (x2 : Int32) (I : xI) (J : xJ) : Option (Int32 × xI × xJ) := xloop (fun s : Int32 × Int32 × xI × xJ => b_X0_areBitsInOrder_1 s.1 s.2.1 s.2.2.1 s.2.2.2) 5000 (x1, x2, I, J)
def f_X0_areBitsInOrder_0 (x1 : Int32) (I : xI) (J : xJ) : Option (Int32 × xI × xJ) := f_X0_areBitsInOrder_1 x1 1 I J
def f_X0_areBitsInOrder (x1 : Int32) (I : xI) (J : xJ) : Option (Int32 × xI × xJ) := f_X0_areBitsInOrder_0 x1 I J
theorem p_X0_areBitsInOrder_7 {L : Nat} {xs : Nat → Int32} {d : Nat} {Q : xO → Prop} (x1 : Int32) (x2 : Int32) (I : xI) (J : xJ) {t : Int32 × xI × xJ} (h : f_X0_areBitsInOrder_7 x1 x2 I J = some t) (hC : (c_X0_areBitsInOrder Q) t) : Rn L xs (d + 2) 3 33 [some (.ref 56), some (.int x1), some (.int x2)] [] 94 (I, J, xrf) Q := by
  unfold f_X0_areBitsInOrder_7 at h
  cases h
  exact Rn.ret 2 (o := ((some (.int 1)), 94, (I, J, xrf))) (fun f => rfl) hC
theorem p_X0_areBitsInOrder_6 {L : Nat} {xs : Nat → Int32} {d : Nat} {Q : xO → Prop} (x1 : Int32) (x2 : Int32) (I : xI) (J : xJ) {t : (Int32 × Int32 × xI × xJ) ⊕ (Int32 × xI × xJ)} (h : f_X0_areBitsInOrder_6 x1 x2 I J = some t) (hC : (c_X0_areBitsInOrder_1 L xs d Q) t) : Rn L xs (d + 2) 3 27 [some (.ref 56), some (.int x1), some (.int x2)] [] 94 (I, J, xrf) Q := by
  unfold f_X0_areBitsInOrder_6 at h
  refine Rn.go 2 (j' := 3) (pc' := 2) (ls' := [some (.ref 56), some (.int x1), some (.int ((x2 + 1)))]) (st' := []) (n' := 94) (M' := (I, J, xrf)) (fun f => rfl) ?_
  cases h; exact hC
theorem p_X0_areBitsInOrder_5 {L : Nat} {xs : Nat → Int32} {d : Nat} {Q : xO → Prop} (x1 : Int32) (x2 : Int32) (I : xI) (J : xJ) {t : Int32 × xI × xJ} (h : f_X0_areBitsInOrder_5 x1 x2 I J = some t) (hC : (c_X0_areBitsInOrder Q) t) : Rn L xs (d + 2) 3 25 [some (.ref 56), some (.int x1), some (.int x2)] [] 94 (I, J, xrf) Q := by
  unfold f_X0_areBitsInOrder_5 at h
  cases h
  exact Rn.ret 2 (o := ((some (.int 0)), 94, (I, J, xrf))) (fun f => rfl) hC
theorem p_X0_areBitsInOrder_4 {L : Nat} {xs : Nat → Int32} {d : Nat} {Q : xO → Prop} (x1 : Int32) (x2 : Int32) (s0 : Int32) (I : xI) (J : xJ) {t : (Int32 × Int32 × xI × xJ) ⊕ (Int32 × xI × xJ)} (h : f_X0_areBitsInOrder_4 x1 x2 s0 I J = some t) (hC : (c_X0_areBitsInOrder_1 L xs d Q) t) : Rn L xs (d + 2) 3 22 [some (.ref 56), some (.int x1), some (.int x2)] [.int s0] 94 (I, J, xrf) Q := by
  unfold f_X0_areBitsInOrder_4 at h
  refine Rn.fi 1 (c := s0 = 0) (p1 := 27) (l1 := [some (.ref 56), some (.int x1), some (.int x2)]) (s1 := []) (n1 := 94) (M1 := (I, J, xrf)) (p2 := 25) (l2 := [some (.ref 56), some (.int x1), some (.int x2)]) (s2 := []) (n2 := 94) (M2 := (I, J, xrf)) (fun f => rfl) (fun hc => ?_) (fun hc => ?_)
  · rw [if_pos hc] at h
    exact p_X0_areBitsInOrder_6 x1 x2 I J h hC
  · rw [if_neg hc] at h
    obtain ⟨t0, h0, rfl⟩ := Option.map_eq_some_iff.mp h
    exact p_X0_areBitsInOrder_5 x1 x2 I J h0 hC
theorem p_X0_areBitsInOrder_3 {L : Nat} {xs : Nat → Int32} {d : Nat} {Q : xO → Prop} (x1 : Int32) (x2 : Int32) (I : xI) (J : xJ) {t : (Int32 × Int32 × xI × xJ) ⊕ (Int32 × xI × xJ)} (h : f_X0_areBitsInOrder_3 x1 x2 I J = some t) (hC : (c_X0_areBitsInOrder_1 L xs d Q) t) : Rn L xs (d + 2) 3 13 [some (.ref 56), some (.int x1), some (.int x2)] [] 94 (I, J, xrf) Q := by
  unfold f_X0_areBitsInOrder_3 at h
  refine Rn.go 6 (j' := 3) (pc' := 19) (ls' := [some (.ref 56), some (.int x1), some (.int x2)]) (st' := [.int x1, .int ((x2 - 1)), .int x2, .ref 56]) (n' := 94) (M' := (I, J, xrf)) (fun f => rfl) ?_
  obtain ⟨o, ho, h⟩ := Option.bind_eq_some_iff.mp h
  refine Rn.call (d1 := d + 1) (j1 := 4) (ls1 := [some (.ref 56), some (.int x2), some (.int ((x2 - 1))), some (.int x1), none, none, none]) (rest := []) (fun f => rfl) ?_
  refine p_X0_isFirstIn (d := d + 0) x2 ((x2 - 1)) x1 I J (t := o) ho ?_
  exact p_X0_areBitsInOrder_4 x1 x2 o.1 o.2.1 o.2.2 h hC
theorem p_X0_areBitsInOrder_2 {L : Nat} {xs : Nat → Int32} {d : Nat} {Q : xO → Prop} (x1 : Int32) (x2 : Int32) (s0 : Int32) (s1 : Int32) (I : xI) (J : xJ) {t : (Int32 × Int32 × xI × xJ) ⊕ (Int32 × xI × xJ)} (h : f_X0_areBitsInOrder_2 x1 x2 s0 s1 I J = some t) (hC : (c_X0_areBitsInOrder_1 L xs d Q) t) : Rn L xs (d + 2) 3 10 [some (.ref 56), some (.int x1), some (.int x2)] [.int s1, .int s0] 94 (I, J, xrf) Q := by
  unfold f_X0_areBitsInOrder_2 at h
  refine Rn.fi 1 (c := s1 ≤ s0) (p1 := 33) (l1 := [some (.ref 56), some (.int x1), some (.int x2)]) (s1 := []) (n1 := 94) (M1 := (I, J, xrf)) (p2 := 13) (l2 := [some (.ref 56), some (.int x1), some (.int x2)]) (s2 := []) (n2 := 94) (M2 := (I, J, xrf)) (fun f => rfl) (fun hc => ?_) (fun hc => ?_)
  · rw [if_pos hc] at h
    obtain ⟨t0, h0, rfl⟩ := Option.map_eq_some_iff.mp h
    exact p_X0_areBitsInOrder_7 x1 x2 I J h0 hC
  · rw [if_neg hc] at h
    exact p_X0_areBitsInOrder_3 x1 x2 I J h hC
theorem q_X0_areBitsInOrder_1 {L : Nat} {xs : Nat → Int32} {d : Nat} {Q : xO → Prop} (x1 : Int32) (x2 : Int32) (I : xI) (J : xJ) {t : (Int32 × Int32 × xI × xJ) ⊕ (Int32 × xI × xJ)} (h : b_X0_areBitsInOrder_1 x1 x2 I J = some t) (hC : (c_X0_areBitsInOrder_1 L xs d Q) t) : Rn L xs (d + 2) 3 2 [some (.ref 56), some (.int x1), some (.int x2)] [] 94 (I, J, xrf) Q := by
  unfold b_X0_areBitsInOrder_1 at h
  refine Rn.go 3 (j' := 3) (pc' := 7) (ls' := [some (.ref 56), some (.int x1), some (.int x2)]) (st' := [.ref 1, .int x2]) (n' := 94) (M' := (I, J, xrf)) (fun f => rfl) ?_
  obtain ⟨o, ho, h⟩ := Option.bind_eq_some_iff.mp h
  refine Rn.call (d1 := d + 1) (j1 := 62) (ls1 := [some (.ref 1)]) (rest := [.int x2]) (fun f => rfl) ?_
  refine p_X5_bits (d := d + 0) I J (t := o) ho ?_
  exact p_X0_areBitsInOrder_2 x1 x2 x2 o.1 o.2.1 o.2.2 h hC
theorem p_X0_areBitsInOrder_1 {L : Nat} {xs : Nat → Int32} {d : Nat} {Q : xO → Prop} (x1 : Int32) (x2 : Int32) (I : xI) (J : xJ) {t : Int32 × xI × xJ} (h : f_X0_areBitsInOrder_1 x1 x2 I J = some t) (hC : (c_X0_areBitsInOrder Q) t) : Rn L xs (d + 2) 3 2 [some (.ref 56), some (.int x1), some (.int x2)] [] 94 (I, J, xrf) Q := by
  unfold f_X0_areBitsInOrder_1 at h
  exact xloop_some (P := fun s : Int32 × Int32 × xI × xJ => Rn L xs (d + 2) 3 2 [some (.ref 56), some (.int s.1), some (.int s.2.1)] [] 94 (s.2.2.1, s.2.2.2, xrf) Q) t (fun s ⟨s', hb, hp⟩ => q_X0_areBitsInOrder_1 s.1 s.2.1 s.2.2.1 s.2.2.2 hb hp) (fun s hb => q_X0_areBitsInOrder_1 s.1 s.2.1 s.2.2.1 s.2.2.2 hb hC) _ _ h
theorem p_X0_areBitsInOrder_0 {L : Nat} {xs : Nat → Int32} {d : Nat} {Q : xO → Prop} (x1 : Int32) (I : xI) (J : xJ) {t : Int32 × xI × xJ} (h : f_X0_areBitsInOrder_0 x1 I J = some t) (hC : (c_X0_areBitsInOrder Q) t) : Rn L xs (d + 2) 3 0 [some (.ref 56), some (.int x1), none] [] 94 (I, J, xrf) Q := by
  unfold f_X0_areBitsInOrder_0 at h
  refine Rn.go 2 (j' := 3) (pc' := 2) (ls' := [some (.ref 56), some (.int x1), some (.int 1)]) (st' := []) (n' := 94) (M' := (I, J, xrf)) (fun f => rfl) ?_
  exact p_X0_areBitsInOrder_1 x1 1 I J h hC
theorem p_X0_areBitsInOrder {L : Nat} {xs : Nat → Int32} {d : Nat} {Q : xO → Prop} (x1 : Int32) (I : xI) (J : xJ) {t : Int32 × xI × xJ} (h : f_X0_areBitsInOrder x1 I J = some t) (hC : Q ((some (.int t.1)), 94, (t.2.1, t.2.2, xrf))) : Rn L xs (d + 2) 3 0 [some (.ref 56), some (.int x1), none] [] 94 (I, J, xrf) Q := p_X0_areBitsInOrder_0 x1 I J h hC
/-! X0_canBeLess -/
def c_X0_canBeLess (Q : xO → Prop) (t : Int32 × xI × xJ) : Prop := Q ((some (.int t.1)), 94, (t.2.1, t.2.2, xrf))
def f_X0_canBeLess_5 (x1 : Int32) (x2 : Int32) (s0 : Int32) (I : xI) (J : xJ) : Option (Int32 × xI × xJ) := if s0 = 0 ∨ s0 = 1 then some (s0, I, J) else none
def f_X0_canBeLess_3 (x1 : Int32) (x2 : Int32) (I : xI) (J : xJ) : Option (Int32 × xI × xJ) := f_X0_canBeLess_5 x1 x2 1 I J
def f_X0_canBeLess_4 (x1 : Int32) (x2 : Int32) (I : xI) (J : xJ) : Option (Int32 × xI × xJ) := f_X0_canBeLess_5 x1 x2 0 I J
def f_X0_canBeLess_2 (x1 : Int32) (x2 : Int32) (s0 : Int32) (I : xI) (J : xJ) : Option (Int32 × xI × xJ) := if x1 < 0 ∨ 2 ≤ x1.toNatClampNeg then none else if (I 59 x1.toNatClampNeg) ≤ s0 then f_X0_canBeLess_4 x1 x2 I J else f_X0_canBeLess_3 x1 x2 I J
def f_X0_canBeLess_1 (x1 : Int32) (x2 : Int32) (I : xI) (J : xJ) : Option (Int32 × xI × xJ) := if x1 < 0 ∨ 2 ≤ x1.toNatClampNeg then none else (f_X2_total_57 x2 ((I 59 x1.toNatClampNeg)) I J).bind fun o => f_X0_canBeLess_2 x1 x2 o.1 o.2.1 o.2.2
def f_X0_canBeLess_0 (x1 : Int32) (x2 : Int32) (I : xI) (J : xJ) : Option (Int32 × xI × xJ) := if x1 = 0 then f_X0_canBeLess_3 x1 x2 I J else f_X0_canBeLess_1 x1 x2 I J
def f_X0_canBeLess (x1 : Int32) (x2 : Int32) (I : xI) (J : xJ) : Option (Int32 × xI × xJ) := f_X0_canBeLess_0 x1 x2 I J
theorem p_X0_canBeLess_5 {L : Nat} {xs : Nat → Int32} {d : Nat} {Q : xO → Prop} (x1 : Int32) (x2 : Int32) (s0 : Int32) (I : xI) (J : xJ) {t : Int32 × xI × xJ} (h : f_X0_canBeLess_5 x1 x2 s0 I J = some t) (hC : (c_X0_canBeLess Q) t) : Rn L xs (d + 16) 5 36 [some (.ref 56), some (.int x1), some (.int x2)] [.int s0] 94 (I, J, xrf) Q := by
  unfold f_X0_canBeLess_5 at h
  obtain ⟨hc, h⟩ := xifT h
  cases h
  exact Rn.retT 1 (c := s0 = 0 ∨ s0 = 1) (o := ((some (.int s0)), 94, (I, J, xrf))) (fun f => rfl) hc hC
theorem p_X0_canBeLess_3 {L : Nat} {xs : Nat → Int32} {d : Nat} {Q : xO → Prop} (x1 : Int32) (x2 : Int32) (I : xI) (J : xJ) {t : Int32 × xI × xJ} (h : f_X0_canBeLess_3 x1 x2 I J = some t) (hC : (c_X0_canBeLess Q) t) : Rn L xs (d + 16) 5 31 [some (.ref 56), some (.int x1), some (.int x2)] [] 94 (I, J, xrf) Q := by
  unfold f_X0_canBeLess_3 at h
  refine Rn.go 2 (j' := 5) (pc' := 36) (ls' := [some (.ref 56), some (.int x1), some (.int x2)]) (st' := [.int 1]) (n' := 94) (M' := (I, J, xrf)) (fun f => rfl) ?_
  exact p_X0_canBeLess_5 x1 x2 1 I J h hC
theorem p_X0_canBeLess_4 {L : Nat} {xs : Nat → Int32} {d : Nat} {Q : xO → Prop} (x1 : Int32) (x2 : Int32) (I : xI) (J : xJ) {t : Int32 × xI × xJ} (h : f_X0_canBeLess_4 x1 x2 I J = some t) (hC : (c_X0_canBeLess Q) t) : Rn L xs (d + 16) 5 35 [some (.ref 56), some (.int x1), some (.int x2)] [] 94 (I, J, xrf) Q := by
  unfold f_X0_canBeLess_4 at h
  refine Rn.go 1 (j' := 5) (pc' := 36) (ls' := [some (.ref 56), some (.int x1), some (.int x2)]) (st' := [.int 0]) (n' := 94) (M' := (I, J, xrf)) (fun f => rfl) ?_
  exact p_X0_canBeLess_5 x1 x2 0 I J h hC
theorem p_X0_canBeLess_2 {L : Nat} {xs : Nat → Int32} {d : Nat} {Q : xO → Prop} (x1 : Int32) (x2 : Int32) (s0 : Int32) (I : xI) (J : xJ) {t : Int32 × xI × xJ} (h : f_X0_canBeLess_2 x1 x2 s0 I J = some t) (hC : (c_X0_canBeLess Q) t) : Rn L xs (d + 16) 5 22 [some (.ref 56), some (.int x1), some (.int x2)] [.int s0] 94 (I, J, xrf) Q := by
  unfold f_X0_canBeLess_2 at h
  obtain ⟨hc, h⟩ := xif h
  refine Rn.ok 4 (c := x1 < 0 ∨ 2 ≤ x1.toNatClampNeg) (p1 := 28) (l1 := [some (.ref 56), some (.int x1), some (.int x2)]) (s1 := [.int ((I 59 x1.toNatClampNeg)), .int s0]) (n1 := 94) (M1 := (I, J, xrf)) (fun f => rfl) hc ?_
  refine Rn.fi 1 (c := (I 59 x1.toNatClampNeg) ≤ s0) (p1 := 35) (l1 := [some (.ref 56), some (.int x1), some (.int x2)]) (s1 := []) (n1 := 94) (M1 := (I, J, xrf)) (p2 := 31) (l2 := [some (.ref 56), some (.int x1), some (.int x2)]) (s2 := []) (n2 := 94) (M2 := (I, J, xrf)) (fun f => rfl) (fun hc => ?_) (fun hc => ?_)
  · rw [if_pos hc] at h
    exact p_X0_canBeLess_4 x1 x2 I J h hC
  · rw [if_neg hc] at h
    exact p_X0_canBeLess_3 x1 x2 I J h hC
theorem p_X0_canBeLess_1 {L : Nat} {xs : Nat → Int32} {d : Nat} {Q : xO → Prop} (x1 : Int32) (x2 : Int32) (I : xI) (J : xJ) {t : Int32 × xI × xJ} (h : f_X0_canBeLess_1 x1 x2 I J = some t) (hC : (c_X0_canBeLess Q) t) : Rn L xs (d + 16) 5 4 [some (.ref 56), some (.int x1), some (.int x2)] [] 94 (I, J, xrf) Q := by
  unfold f_X0_canBeLess_1 at h
  obtain ⟨hc, h⟩ := xif h
  refine Rn.ok 9 (c := x1 < 0 ∨ 2 ≤ x1.toNatClampNeg) (p1 := 19) (l1 := [some (.ref 56), some (.int x1), some (.int x2)]) (s1 := [.int ((I 59 x1.toNatClampNeg)), .int x2, .ref 57, .ref 51]) (n1 := 94) (M1 := (I, J, xrf)) (fun f => rfl) hc ?_
  obtain ⟨o, ho, h⟩ := Option.bind_eq_some_iff.mp h
  refine Rn.call (d1 := d + 15) (j1 := 31) (ls1 := [some (.ref 51), some (.ref 57), some (.int x2), some (.int ((I 59 x1.toNatClampNeg))), none, none, none]) (rest := []) (fun f => rfl) ?_
  refine p_X2_total_57 (d := d + 0) x2 ((I 59 x1.toNatClampNeg)) I J (t := o) ho ?_
  exact p_X0_canBeLess_2 x1 x2 o.1 o.2.1 o.2.2 h hC
theorem p_X0_canBeLess_0 {L : Nat} {xs : Nat → Int32} {d : Nat} {Q : xO → Prop} (x1 : Int32) (x2 : Int32) (I : xI) (J : xJ) {t : Int32 × xI × xJ} (h : f_X0_canBeLess_0 x1 x2 I J = some t) (hC : (c_X0_canBeLess Q) t) : Rn L xs (d + 16) 5 0 [some (.ref 56), some (.int x1), some (.int x2)] [] 94 (I, J, xrf) Q := by
  unfold f_X0_canBeLess_0 at h
  refine Rn.fi 2 (c := x1 = 0) (p1 := 31) (l1 := [some (.ref 56), some (.int x1), some (.int x2)]) (s1 := []) (n1 := 94) (M1 := (I, J, xrf)) (p2 := 4) (l2 := [some (.ref 56), some (.int x1), some (.int x2)]) (s2 := []) (n2 := 94) (M2 := (I, J, xrf)) (fun f => rfl) (fun hc => ?_) (fun hc => ?_)
  · rw [if_pos hc] at h
    exact p_X0_canBeLess_3 x1 x2 I J h hC
  · rw [if_neg hc] at h
    exact p_X0_canBeLess_1 x1 x2 I J h hC
theorem p_X0_canBeLess {L : Nat} {xs : Nat → Int32} {d : Nat} {Q : xO → Prop} (x1 : Int32) (x2 : Int32) (I : xI) (J : xJ) {t : Int32 × xI × xJ} (h : f_X0_canBeLess x1 x2 I J = some t) (hC : Q ((some (.int t.1)), 94, (t.2.1, t.2.2, xrf))) : Rn L xs (d + 16) 5 0 [some (.ref 56), some (.int x1), some (.int x2)] [] 94 (I, J, xrf) Q := p_X0_canBeLess_0 x1 x2 I J h hC
/-! X0_assign -/
def c_X0_assign (Q : xO → Prop) (t : Unit × xI × xJ) : Prop := Q (none, 94, (t.2.1, t.2.2, xrf))
def c_X0_assign_9 (L : Nat) (xs : Nat → Int32) (d r : Nat) (Q : xO → Prop) (t : (Int32 × Int32 × Int32 × Int32 × Int32 × xI × xJ) ⊕ (Unit × xI × xJ)) : Prop := match t with
  | .inl s => Rn L xs (d + r + 17) 2 43 [some (.ref 56), some (.int s.1), some (.int s.2.1), some (.int s.2.2.1), some (.int s.2.2.2.1), some (.int s.2.2.2.2.1)] [] 94 (s.2.2.2.2.2.1, s.2.2.2.2.2.2, xrf) Q
  | .inr t => (c_X0_assign Q) t
def f_X0_assign_17 (self : Int32 → Int32 → Int32 → xI → xJ → Option (Unit × xI × xJ)) (x1 : Int32) (x2 : Int32) (x3 : Int32) (x4 : Int32) (x5 : Int32) (I : xI) (J : xJ) : Option (Unit × xI × xJ) := some ((), I, J)
def f_X0_assign_16 (self : Int32 → Int32 → Int32 → xI → xJ → Option (Unit × xI × xJ)) (x1 : Int32) (x2 : Int32) (x3 : Int32) (x4 : Int32) (x5 : Int32) (I : xI) (J : xJ) : Option ((Int32 × Int32 × Int32 × Int32 × Int32 × xI × xJ) ⊕ (Unit × xI × xJ)) := some (.inl (x1, x2, x3, x4, ((x5 + 1)), I, J))
def f_X0_assign_15 (self : Int32 → Int32 → Int32 → xI → xJ → Option (Unit × xI × xJ)) (x1 : Int32) (x2 : Int32) (x3 : Int32) (x4 : Int32) (x5 : Int32) (I : xI) (J : xJ) : Option ((Int32 × Int32 × Int32 × Int32 × Int32 × xI × xJ) ⊕ (Unit × xI × xJ)) := (self x1 ((x2 + 1)) ((x3 ||| (1 <<< (x5 &&& 31)))) I J).bind fun o => f_X0_assign_16 self x1 x2 x3 x4 x5 o.2.1 o.2.2
def f_X0_assign_14 (self : Int32 → Int32 → Int32 → xI → xJ → Option (Unit × xI × xJ)) (x1 : Int32) (x2 : Int32) (x3 : Int32) (x4 : Int32) (x5 : Int32) (s0 : Int32) (I : xI) (J : xJ) : Option ((Int32 × Int32 × Int32 × Int32 × Int32 × xI × xJ) ⊕ (Unit × xI × xJ)) := if s0 = 0 then f_X0_assign_16 self x1 x2 x3 x4 x5 I J else f_X0_assign_15 self x1 x2 x3 x4 x5 I J
def f_X0_assign_13 (self : Int32 → Int32 → Int32 → xI → xJ → Option (Unit × xI × xJ)) (x1 : Int32) (x2 : Int32) (x3 : Int32) (x4 : Int32) (x5 : Int32) (I : xI) (J : xJ) : Option ((Int32 × Int32 × Int32 × Int32 × Int32 × xI × xJ) ⊕ (Unit × xI × xJ)) := (f_X0_canBeLess x1 ((x2 + 1)) I J).bind fun o => f_X0_assign_14 self x1 x2 x3 x4 x5 o.1 o.2.1 o.2.2
def f_X0_assign_12 (self : Int32 → Int32 → Int32 → xI → xJ → Option (Unit × xI × xJ)) (x1 : Int32) (x2 : Int32) (x3 : Int32) (x4 : Int32) (x5 : Int32) (s0 : Int32) (I : xI) (J : xJ) : Option ((Int32 × Int32 × Int32 × Int32 × Int32 × xI × xJ) ⊕ (Unit × xI × xJ)) := if s0 = 0 then f_X0_assign_16 self x1 x2 x3 x4 x5 I J else f_X0_assign_13 self x1 x2 x3 x4 x5 I J
def f_X0_assign_11 (self : Int32 → Int32 → Int32 → xI → xJ → Option (Unit × xI × xJ)) (x1 : Int32) (x2 : Int32) (x3 : Int32) (x4 : Int32) (x5 : Int32) (I : xI) (J : xJ) : Option ((Int32 × Int32 × Int32 × Int32 × Int32 × xI × xJ) ⊕ (Unit × xI × xJ)) := (f_X0_areBitsInOrder ((x2 + 1)) I J).bind fun o => f_X0_assign_12 self x1 x2 x3 x4 x5 o.1 o.2.1 o.2.2
def f_X0_assign_10 (self : Int32 → Int32 → Int32 → xI → xJ → Option (Unit × xI × xJ)) (x1 : Int32) (x2 : Int32) (x3 : Int32) (x4 : Int32) (x5 : Int32) (I : xI) (J : xJ) : Option ((Int32 × Int32 × Int32 × Int32 × Int32 × xI × xJ) ⊕ (Unit × xI × xJ)) := if x2 < 0 ∨ 6 ≤ x2.toNatClampNeg then none else if ((x3 >>> (x5 &&& 31)) &&& 1) = 0 then f_X0_assign_11 self x1 x2 x3 x4 x5 ((xup I 57 x2.toNatClampNeg x5)) J else f_X0_assign_16 self x1 x2 x3 x4 x5 ((xup I 57 x2.toNatClampNeg x5)) J
def b_X0_assign_9 (self : Int32 → Int32 → Int32 → xI → xJ → Option (Unit × xI × xJ)) (x1 : Int32) (x2 : Int32) (x3 : Int32) (x4 : Int32) (x5 : Int32) (I : xI) (J : xJ) : Option ((Int32 × Int32 × Int32 × Int32 × Int32 × xI × xJ) ⊕ (Unit × xI × xJ)) := if x4 ≤ x5 then ((f_X0_assign_17 self x1 x2 x3 x4 x5 I J)).map .inr else f_X0_assign_10 self x1 x2 x3 x4 x5 I J
def f_X0_assign_9 (self : Int32 → Int32 → Int32 → xI → xJ → Option (Unit × xI × xJ)) (x1 : Int32) (x2 : Int32) (x3 : Int32) (x4 : Int32) (x5 : Int32) (I : xI) (J : xJ) : Option (Unit × xI × xJ) := xloop (fun s : Int32 × Int32 × Int32 × Int32 × Int32 × xI × xJ => b_X0_assign_9 self s.1 s.2.1 s.2.2.1 s.2.2.2.1 s.2.2.2.2.1 s.2.2.2.2.2.1 s.2.2.2.2.2.2) 5000 (x1, x2, x3, x4, x5, I, J)
def f_X0_assign_8 (self : Int32 → Int32 → Int32 → xI → xJ → Option (Unit × xI × xJ)) (x1 : Int32) (x2 : Int32) (x3 : Int32) (s0 : Int32) (I : xI) (J : xJ) : Option (Unit × xI × xJ) := f_X0_assign_9 self x1 x2 x3 s0 0 I J
def f_X0_assign_7 (self : Int32 → Int32 → Int32 → xI → xJ → Option (Unit × xI × xJ)) (x1 : Int32) (x2 : Int32) (x3 : Int32) (s0 : Int32) (s1 : Int32) (I : xI) (J : xJ) : Option (Unit × xI × xJ) := f_X0_assign_8 self x1 x2 x3 ((s0 <<< (s1 &&& 31))) I J
def f_X0_assign_6 (self : Int32 → Int32 → Int32 → xI → xJ → Option (Unit × xI × xJ)) (x1 : Int32) (x2 : Int32) (x3 : Int32) (I : xI) (J : xJ) : Option (Unit × xI × xJ) := (f_X5_bits I J).bind fun o => f_X0_assign_7 self x1 x2 x3 1 o.1 o.2.1 o.2.2
def f_X0_assign_5 (self : Int32 → Int32 → Int32 → xI → xJ → Option (Unit × xI × xJ)) (x1 : Int32) (x2 : Int32) (x3 : Int32) (I : xI) (J : xJ) : Option (Unit × xI × xJ) := f_X0_assign_8 self x1 x2 x3 1 I J
def f_X0_assign_4 (self : Int32 → Int32 → Int32 → xI → xJ → Option (Unit × xI × xJ)) (x1 : Int32) (x2 : Int32) (x3 : Int32) (I : xI) (J : xJ) : Option (Unit × xI × xJ) := if x2 = 0 then f_X0_assign_5 self x1 x2 x3 I J else f_X0_assign_6 self x1 x2 x3 I J
def f_X0_assign_3 (self : Int32 → Int32 → Int32 → xI → xJ → Option (Unit × xI × xJ)) (x1 : Int32) (x2 : Int32) (x3 : Int32) (I : xI) (J : xJ) : Option (Unit × xI × xJ) := if x1 = 0 then f_X0_assign_4 self x1 x2 x3 I J else f_X0_assign_6 self x1 x2 x3 I J
def f_X0_assign_2 (self : Int32 → Int32 → Int32 → xI → xJ → Option (Unit × xI × xJ)) (x1 : Int32) (x2 : Int32) (x3 : Int32) (I : xI) (J : xJ) : Option (Unit × xI × xJ) := some ((), I, J)
def f_X0_assign_1 (self : Int32 → Int32 → Int32 → xI → xJ → Option (Unit × xI × xJ)) (x1 : Int32) (x2 : Int32) (x3 : Int32) (I : xI) (J : xJ) : Option (Unit × xI × xJ) := (f_X0_weigh x1 I J).bind fun o => f_X0_assign_2 self x1 x2 x3 o.2.1 o.2.2
def f_X0_assign_0 (self : Int32 → Int32 → Int32 → xI → xJ → Option (Unit × xI × xJ)) (x1 : Int32) (x2 : Int32) (x3 : Int32) (I : xI) (J : xJ) : Option (Unit × xI × xJ) := if x2 < (I 1 0) then f_X0_assign_3 self x1 x2 x3 I J else f_X0_assign_1 self x1 x2 x3 I J
def f_X0_assign : Nat → Int32 → Int32 → Int32 → xI → xJ → Option (Unit × xI × xJ)
  | 0, _, _, _, _, _ => none
  | r + 1, x1, x2, x3, I, J => f_X0_assign_0 (f_X0_assign r) x1 x2 x3 I J
theorem p_X0_assign_17 {L : Nat} {xs : Nat → Int32} {d r : Nat} {Q : xO → Prop} {self : Int32 → Int32 → Int32 → xI → xJ → Option (Unit × xI × xJ)} (hself : ∀ (a1 : Int32) (a2 : Int32) (a3 : Int32) (I : xI) (J : xJ) (o : Unit × xI × xJ), self a1 a2 a3 I J = some o → ∀ Q : xO → Prop, Q (none, 94, (o.2.1, o.2.2, xrf)) → Rn L xs (d + r + 16) 2 0 [some (.ref 56), some (.int a1), some (.int a2), some (.int a3), none, none] [] 94 (I, J, xrf) Q) (x1 : Int32) (x2 : Int32) (x3 : Int32) (x4 : Int32) (x5 : Int32) (I : xI) (J : xJ) {t : Unit × xI × xJ} (h : f_X0_assign_17 self x1 x2 x3 x4 x5 I J = some t) (hC : (c_X0_assign Q) t) : Rn L xs (d + r + 17) 2 108 [some (.ref 56), some (.int x1), some (.int x2), some (.int x3), some (.int x4), some (.int x5)] [] 94 (I, J, xrf) Q := by
  unfold f_X0_assign_17 at h
  cases h
  exact Rn.ret 1 (o := (none, 94, (I, J, xrf))) (fun f => rfl) hC
theorem p_X0_assign_16 {L : Nat} {xs : Nat → Int32} {d r : Nat} {Q : xO → Prop} {self : Int32 → Int32 → Int32 → xI → xJ → Option (Unit × xI × xJ)} (hself : ∀ (a1 : Int32) (a2 : Int32) (a3 : Int32) (I : xI) (J : xJ) (o : Unit × xI × xJ), self a1 a2 a3 I J = some o → ∀ Q : xO → Prop, Q (none, 94, (o.2.1, o.2.2, xrf)) → Rn L xs (d + r + 16) 2 0 [some (.ref 56), some (.int a1), some (.int a2), some (.int a3), none, none] [] 94 (I, J, xrf) Q) (x1 : Int32) (x2 : Int32) (x3 : Int32) (x4 : Int32) (x5 : Int32) (I : xI) (J : xJ) {t : (Int32 × Int32 × Int32 × Int32 × Int32 × xI × xJ) ⊕ (Unit × xI × xJ)} (h : f_X0_assign_16 self x1 x2 x3 x4 x5 I J = some t) (hC : (c_X0_assign_9 L xs d r Q) t) : Rn L xs (d + r + 17) 2 102 [some (.ref 56), some (.int x1), some (.int x2), some (.int x3), some (.int x4), some (.int x5)] [] 94 (I, J, xrf) Q := by
  unfold f_X0_assign_16 at h
  refine Rn.go 2 (j' := 2) (pc' := 43) (ls' := [some (.ref 56), some (.int x1), some (.int x2), some (.int x3), some (.int x4), some (.int ((x5 + 1)))]) (st' := []) (n' := 94) (M' := (I, J, xrf)) (fun f => rfl) ?_
  cases h; exact hC
theorem p_X0_assign_15 {L : Nat} {xs : Nat → Int32} {d r : Nat} {Q : xO → Prop} {self : Int32 → Int32 → Int32 → xI → xJ → Option (Unit × xI × xJ)} (hself : ∀ (a1 : Int32) (a2 : Int32) (a3 : Int32) (I : xI) (J : xJ) (o : Unit × xI × xJ), self a1 a2 a3 I J = some o → ∀ Q : xO → Prop, Q (none, 94, (o.2.1, o.2.2, xrf)) → Rn L xs (d + r + 16) 2 0 [some (.ref 56), some (.int a1), some (.int a2), some (.int a3), none, none] [] 94 (I, J, xrf) Q) (x1 : Int32) (x2 : Int32) (x3 : Int32) (x4 : Int32) (x5 : Int32) (I : xI) (J : xJ) {t : (Int32 × Int32 × Int32 × Int32 × Int32 × xI × xJ) ⊕ (Unit × xI × xJ)} (h : f_X0_assign_15 self x1 x2 x3 x4 x5 I J = some t) (hC : (c_X0_assign_9 L xs d r Q) t) : Rn L xs (d + r + 17) 2 88 [some (.ref 56), some (.int x1), some (.int x2), some (.int x3), some (.int x4), some (.int x5)] [] 94 (I, J, xrf) Q := by
  unfold f_X0_assign_15 at h
  refine Rn.go 10 (j' := 2) (pc' := 99) (ls' := [some (.ref 56), some (.int x1), some (.int x2), some (.int x3), some (.int x4), some (.int x5)]) (st' := [.int ((x3 ||| (1 <<< (x5 &&& 31)))), .int ((x2 + 1)), .int x1, .ref 56]) (n' := 94) (M' := (I, J, xrf)) (fun f => rfl) ?_
  obtain ⟨o, ho, h⟩ := Option.bind_eq_some_iff.mp h
  refine Rn.call (d1 := d + r + 16) (j1 := 2) (ls1 := [some (.ref 56), some (.int x1), some (.int ((x2 + 1))), some (.int ((x3 ||| (1 <<< (x5 &&& 31))))), none, none]) (rest := []) (fun f => rfl) ?_
  refine hself x1 ((x2 + 1)) ((x3 ||| (1 <<< (x5 &&& 31)))) (I) (J) o ho _ ?_
  exact p_X0_assign_16 hself x1 x2 x3 x4 x5 o.2.1 o.2.2 h hC
theorem p_X0_assign_14 {L : Nat} {xs : Nat → Int32} {d r : Nat} {Q : xO → Prop} {self : Int32 → Int32 → Int32 → xI → xJ → Option (Unit × xI × xJ)} (hself : ∀ (a1 : Int32) (a2 : Int32) (a3 : Int32) (I : xI) (J : xJ) (o : Unit × xI × xJ), self a1 a2 a3 I J = some o → ∀ Q : xO → Prop, Q (none, 94, (o.2.1, o.2.2, xrf)) → Rn L xs (d + r + 16) 2 0 [some (.ref 56), some (.int a1), some (.int a2), some (.int a3), none, none] [] 94 (I, J, xrf) Q) (x1 : Int32) (x2 : Int32) (x3 : Int32) (x4 : Int32) (x5 : Int32) (s0 : Int32) (I : xI) (J : xJ) {t : (Int32 × Int32 × Int32 × Int32 × Int32 × xI × xJ) ⊕ (Unit × xI × xJ)} (h : f_X0_assign_14 self x1 x2 x3 x4 x5 s0 I J = some t) (hC : (c_X0_assign_9 L xs d r Q) t) : Rn L xs (d + r + 17) 2 85 [some (.ref 56), some (.int x1), some (.int x2), some (.int x3), some (.int x4), some (.int x5)] [.int s0] 94 (I, J, xrf) Q := by
  unfold f_X0_assign_14 at h
  refine Rn.fi 1 (c := s0 = 0) (p1 := 102) (l1 := [some (.ref 56), some (.int x1), some (.int x2), some (.int x3), some (.int x4), some (.int x5)]) (s1 := []) (n1 := 94) (M1 := (I, J, xrf)) (p2 := 88) (l2 := [some (.ref 56), some (.int x1), some (.int x2), some (.int x3), some (.int x4), some (.int x5)]) (s2 := []) (n2 := 94) (M2 := (I, J, xrf)) (fun f => rfl) (fun hc => ?_) (fun hc => ?_)
  · rw [if_pos hc] at h
    exact p_X0_assign_16 hself x1 x2 x3 x4 x5 I J h hC
  · rw [if_neg hc] at h
    exact p_X0_assign_15 hself x1 x2 x3 x4 x5 I J h hC
theorem p_X0_assign_13 {L : Nat} {xs : Nat → Int32} {d r : Nat} {Q : xO → Prop} {self : Int32 → Int32 → Int32 → xI → xJ → Option (Unit × xI × xJ)} (hself : ∀ (a1 : Int32) (a2 : Int32) (a3 : Int32) (I : xI) (J : xJ) (o : Unit × xI × xJ), self a1 a2 a3 I J = some o → ∀ Q : xO → Prop, Q (none, 94, (o.2.1, o.2.2, xrf)) → Rn L xs (d + r + 16) 2 0 [some (.ref 56), some (.int a1), some (.int a2), some (.int a3), none, none] [] 94 (I, J, xrf) Q) (x1 : Int32) (x2 : Int32) (x3 : Int32) (x4 : Int32) (x5 : Int32) (I : xI) (J : xJ) {t : (Int32 × Int32 × Int32 × Int32 × Int32 × xI × xJ) ⊕ (Unit × xI × xJ)} (h : f_X0_assign_13 self x1 x2 x3 x4 x5 I J = some t) (hC : (c_X0_assign_9 L xs d r Q) t) : Rn L xs (d + r + 17) 2 77 [some (.ref 56), some (.int x1), some (.int x2), some (.int x3), some (.int x4), some (.int x5)] [] 94 (I, J, xrf) Q := by
  unfold f_X0_assign_13 at h
  refine Rn.go 5 (j' := 2) (pc' := 82) (ls' := [some (.ref 56), some (.int x1), some (.int x2), some (.int x3), some (.int x4), some (.int x5)]) (st' := [.int ((x2 + 1)), .int x1, .ref 56]) (n' := 94) (M' := (I, J, xrf)) (fun f => rfl) ?_
  obtain ⟨o, ho, h⟩ := Option.bind_eq_some_iff.mp h
  refine Rn.call (d1 := d + r + 16) (j1 := 5) (ls1 := [some (.ref 56), some (.int x1), some (.int ((x2 + 1)))]) (rest := []) (fun f => rfl) ?_
  refine p_X0_canBeLess (d := d + r + 0) x1 ((x2 + 1)) I J (t := o) ho ?_
  exact p_X0_assign_14 hself x1 x2 x3 x4 x5 o.1 o.2.1 o.2.2 h hC
theorem p_X0_assign_12 {L : Nat} {xs : Nat → Int32} {d r : Nat} {Q : xO → Prop} {self : Int32 → Int32 → Int32 → xI → xJ → Option (Unit × xI × xJ)} (hself : ∀ (a1 : Int32) (a2 : Int32) (a3 : Int32) (I : xI) (J : xJ) (o : Unit × xI × xJ), self a1 a2 a3 I J = some o → ∀ Q : xO → Prop, Q (none, 94, (o.2.1, o.2.2, xrf)) → Rn L xs (d + r + 16) 2 0 [some (.ref 56), some (.int a1), some (.int a2), some (.int a3), none, none] [] 94 (I, J, xrf) Q) (x1 : Int32) (x2 : Int32) (x3 : Int32) (x4 : Int32) (x5 : Int32) (s0 : Int32) (I : xI) (J : xJ) {t : (Int32 × Int32 × Int32 × Int32 × Int32 × xI × xJ) ⊕ (Unit × xI × xJ)} (h : f_X0_assign_12 self x1 x2 x3 x4 x5 s0 I J = some t) (hC : (c_X0_assign_9 L xs d r Q) t) : Rn L xs (d + r + 17) 2 74 [some (.ref 56), some (.int x1), some (.int x2), some (.int x3), some (.int x4), some (.int x5)] [.int s0] 94 (I, J, xrf) Q := by
  unfold f_X0_assign_12 at h
  refine Rn.fi 1 (c := s0 = 0) (p1 := 102) (l1 := [some (.ref 56), some (.int x1), some (.int x2), some (.int x3), some (.int x4), some (.int x5)]) (s1 := []) (n1 := 94) (M1 := (I, J, xrf)) (p2 := 77) (l2 := [some (.ref 56), some (.int x1), some (.int x2), some (.int x3), some (.int x4), some (.int x5)]) (s2 := []) (n2 := 94) (M2 := (I, J, xrf)) (fun f => rfl) (fun hc => ?_) (fun hc => ?_)
  · rw [if_pos hc] at h
    exact p_X0_assign_16 hself x1 x2 x3 x4 x5 I J h hC
  · rw [if_neg hc] at h
    exact p_X0_assign_13 hself x1 x2 x3 x4 x5 I J h hC
theorem p_X0_assign_11 {L : Nat} {xs : Nat → Int32} {d r : Nat} {Q : xO → Prop} {self : Int32 → Int32 → Int32 → xI → xJ → Option (Unit × xI × xJ)} (hself : ∀ (a1 : Int32) (a2 : Int32) (a3 : Int32) (I : xI) (J : xJ) (o : Unit × xI × xJ), self a1 a2 a3 I J = some o → ∀ Q : xO → Prop, Q (none, 94, (o.2.1, o.2.2, xrf)) → Rn L xs (d + r + 16) 2 0 [some (.ref 56), some (.int a1), some (.int a2), some (.int a3), none, none] [] 94 (I, J, xrf) Q) (x1 : Int32) (x2 : Int32) (x3 : Int32) (x4 : Int32) (x5 : Int32) (I : xI) (J : xJ) {t : (Int32 × Int32 × Int32 × Int32 × Int32 × xI × xJ) ⊕ (Unit × xI × xJ)} (h : f_X0_assign_11 self x1 x2 x3 x4 x5 I J = some t) (hC : (c_X0_assign_9 L xs d r Q) t) : Rn L xs (d + r + 17) 2 67 [some (.ref 56), some (.int x1), some (.int x2), some (.int x3), some (.int x4), some (.int x5)] [] 94 (I, J, xrf) Q := by
  unfold f_X0_assign_11 at h
  refine Rn.go 4 (j' := 2) (pc' := 71) (ls' := [some (.ref 56), some (.int x1), some (.int x2), some (.int x3), some (.int x4), some (.int x5)]) (st' := [.int ((x2 + 1)), .ref 56]) (n' := 94) (M' := (I, J, xrf)) (fun f => rfl) ?_
  obtain ⟨o, ho, h⟩ := Option.bind_eq_some_iff.mp h
  refine Rn.call (d1 := d + r + 16) (j1 := 3) (ls1 := [some (.ref 56), some (.int ((x2 + 1))), none]) (rest := []) (fun f => rfl) ?_
  refine p_X0_areBitsInOrder (d := d + r + 14) ((x2 + 1)) I J (t := o) ho ?_
  exact p_X0_assign_12 hself x1 x2 x3 x4 x5 o.1 o.2.1 o.2.2 h hC
theorem p_X0_assign_10 {L : Nat} {xs : Nat → Int32} {d r : Nat} {Q : xO → Prop} {self : Int32 → Int32 → Int32 → xI → xJ → Option (Unit × xI × xJ)} (hself : ∀ (a1 : Int32) (a2 : Int32) (a3 : Int32) (I : xI) (J : xJ) (o : Unit × xI × xJ), self a1 a2 a3 I J = some o → ∀ Q : xO → Prop, Q (none, 94, (o.2.1, o.2.2, xrf)) → Rn L xs (d + r + 16) 2 0 [some (.ref 56), some (.int a1), some (.int a2), some (.int a3), none, none] [] 94 (I, J, xrf) Q) (x1 : Int32) (x2 : Int32) (x3 : Int32) (x4 : Int32) (x5 : Int32) (I : xI) (J : xJ) {t : (Int32 × Int32 × Int32 × Int32 × Int32 × xI × xJ) ⊕ (Unit × xI × xJ)} (h : f_X0_assign_10 self x1 x2 x3 x4 x5 I J = some t) (hC : (c_X0_assign_9 L xs d r Q) t) : Rn L xs (d + r + 17) 2 50 [some (.ref 56), some (.int x1), some (.int x2), some (.int x3), some (.int x4), some (.int x5)] [] 94 (I, J, xrf) Q := by
  unfold f_X0_assign_10 at h
  obtain ⟨hc, h⟩ := xif h
  refine Rn.ok 5 (c := x2 < 0 ∨ 6 ≤ x2.toNatClampNeg) (p1 := 58) (l1 := [some (.ref 56), some (.int x1), some (.int x2), some (.int x3), some (.int x4), some (.int x5)]) (s1 := []) (n1 := 94) (M1 := ((xup I 57 x2.toNatClampNeg x5), J, xrf)) (fun f => rfl) hc ?_
  refine Rn.fi 6 (c := ((x3 >>> (x5 &&& 31)) &&& 1) = 0) (p1 := 67) (l1 := [some (.ref 56), some (.int x1), some (.int x2), some (.int x3), some (.int x4), some (.int x5)]) (s1 := []) (n1 := 94) (M1 := ((xup I 57 x2.toNatClampNeg x5), J, xrf)) (p2 := 102) (l2 := [some (.ref 56), some (.int x1), some (.int x2), some (.int x3), some (.int x4), some (.int x5)]) (s2 := []) (n2 := 94) (M2 := ((xup I 57 x2.toNatClampNeg x5), J, xrf)) (fun f => rfl) (fun hc => ?_) (fun hc => ?_)
  · rw [if_pos hc] at h
    exact p_X0_assign_11 hself x1 x2 x3 x4 x5 ((xup I 57 x2.toNatClampNeg x5)) J h hC
  · rw [if_neg hc] at h
    exact p_X0_assign_16 hself x1 x2 x3 x4 x5 ((xup I 57 x2.toNatClampNeg x5)) J h hC
theorem q_X0_assign_9 {L : Nat} {xs : Nat → Int32} {d r : Nat} {Q : xO → Prop} {self : Int32 → Int32 → Int32 → xI → xJ → Option (Unit × xI × xJ)} (hself : ∀ (a1 : Int32) (a2 : Int32) (a3 : Int32) (I : xI) (J : xJ) (o : Unit × xI × xJ), self a1 a2 a3 I J = some o → ∀ Q : xO → Prop, Q (none, 94, (o.2.1, o.2.2, xrf)) → Rn L xs (d + r + 16) 2 0 [some (.ref 56), some (.int a1), some (.int a2), some (.int a3), none, none] [] 94 (I, J, xrf) Q) (x1 : Int32) (x2 : Int32) (x3 : Int32) (x4 : Int32) (x5 : Int32) (I : xI) (J : xJ) {t : (Int32 × Int32 × Int32 × Int32 × Int32 × xI × xJ) ⊕ (Unit × xI × xJ)} (h : b_X0_assign_9 self x1 x2 x3 x4 x5 I J = some t) (hC : (c_X0_assign_9 L xs d r Q) t) : Rn L xs (d + r + 17) 2 43 [some (.ref 56), some (.int x1), some (.int x2), some (.int x3), some (.int x4), some (.int x5)] [] 94 (I, J, xrf) Q := by
  unfold b_X0_assign_9 at h
  refine Rn.fi 3 (c := x4 ≤ x5) (p1 := 108) (l1 := [some (.ref 56), some (.int x1), some (.int x2), some (.int x3), some (.int x4), some (.int x5)]) (s1 := []) (n1 := 94) (M1 := (I, J, xrf)) (p2 := 50) (l2 := [some (.ref 56), some (.int x1), some (.int x2), some (.int x3), some (.int x4), some (.int x5)]) (s2 := []) (n2 := 94) (M2 := (I, J, xrf)) (fun f => rfl) (fun hc => ?_) (fun hc => ?_)
  · rw [if_pos hc] at h
    obtain ⟨t0, h0, rfl⟩ := Option.map_eq_some_iff.mp h
    exact p_X0_assign_17 hself x1 x2 x3 x4 x5 I J h0 hC
  · rw [if_neg hc] at h
    exact p_X0_assign_10 hself x1 x2 x3 x4 x5 I J h hC
theorem p_X0_assign_9 {L : Nat} {xs : Nat → Int32} {d r : Nat} {Q : xO → Prop} {self : Int32 → Int32 → Int32 → xI → xJ → Option (Unit × xI × xJ)} (hself : ∀ (a1 : Int32) (a2 : Int32) (a3 : Int32) (I : xI) (J : xJ) (o : Unit × xI × xJ), self a1 a2 a3 I J = some o → ∀ Q : xO → Prop, Q (none, 94, (o.2.1, o.2.2, xrf)) → Rn L xs (d + r + 16) 2 0 [some (.ref 56), some (.int a1), some (.int a2), some (.int a3), none, none] [] 94 (I, J, xrf) Q) (x1 : Int32) (x2 : Int32) (x3 : Int32) (x4 : Int32) (x5 : Int32) (I : xI) (J : xJ) {t : Unit × xI × xJ} (h : f_X0_assign_9 self x1 x2 x3 x4 x5 I J = some t) (hC : (c_X0_assign Q) t) : Rn L xs (d + r + 17) 2 43 [some (.ref 56), some (.int x1), some (.int x2), some (.int x3), some (.int x4), some (.int x5)] [] 94 (I, J, xrf) Q := by
  unfold f_X0_assign_9 at h
  exact xloop_some (P := fun s : Int32 × Int32 × Int32 × Int32 × Int32 × xI × xJ => Rn L xs (d + r + 17) 2 43 [some (.ref 56), some (.int s.1), some (.int s.2.1), some (.int s.2.2.1), some (.int s.2.2.2.1), some (.int s.2.2.2.2.1)] [] 94 (s.2.2.2.2.2.1, s.2.2.2.2.2.2, xrf) Q) t (fun s ⟨s', hb, hp⟩ => q_X0_assign_9 hself s.1 s.2.1 s.2.2.1 s.2.2.2.1 s.2.2.2.2.1 s.2.2.2.2.2.1 s.2.2.2.2.2.2 hb hp) (fun s hb => q_X0_assign_9 hself s.1 s.2.1 s.2.2.1 s.2.2.2.1 s.2.2.2.2.1 s.2.2.2.2.2.1 s.2.2.2.2.2.2 hb hC) _ _ h
theorem p_X0_assign_8 {L : Nat} {xs : Nat → Int32} {d r : Nat} {Q : xO → Prop} {self : Int32 → Int32 → Int32 → xI → xJ → Option (Unit × xI × xJ)} (hself : ∀ (a1 : Int32) (a2 : Int32) (a3 : Int32) (I : xI) (J : xJ) (o : Unit × xI × xJ), self a1 a2 a3 I J = some o → ∀ Q : xO → Prop, Q (none, 94, (o.2.1, o.2.2, xrf)) → Rn L xs (d + r + 16) 2 0 [some (.ref 56), some (.int a1), some (.int a2), some (.int a3), none, none] [] 94 (I, J, xrf) Q) (x1 : Int32) (x2 : Int32) (x3 : Int32) (s0 : Int32) (I : xI) (J : xJ) {t : Unit × xI × xJ} (h : f_X0_assign_8 self x1 x2 x3 s0 I J = some t) (hC : (c_X0_assign Q) t) : Rn L xs (d + r + 17) 2 38 [some (.ref 56), some (.int x1), some (.int x2), some (.int x3), none, none] [.int s0] 94 (I, J, xrf) Q := by
  unfold f_X0_assign_8 at h
  refine Rn.go 3 (j' := 2) (pc' := 43) (ls' := [some (.ref 56), some (.int x1), some (.int x2), some (.int x3), some (.int s0), some (.int 0)]) (st' := []) (n' := 94) (M' := (I, J, xrf)) (fun f => rfl) ?_
  exact p_X0_assign_9 hself x1 x2 x3 s0 0 I J h hC
theorem p_X0_assign_7 {L : Nat} {xs : Nat → Int32} {d r : Nat} {Q : xO → Prop} {self : Int32 → Int32 → Int32 → xI → xJ → Option (Unit × xI × xJ)} (hself : ∀ (a1 : Int32) (a2 : Int32) (a3 : Int32) (I : xI) (J : xJ) (o : Unit × xI × xJ), self a1 a2 a3 I J = some o → ∀ Q : xO → Prop, Q (none, 94, (o.2.1, o.2.2, xrf)) → Rn L xs (d + r + 16) 2 0 [some (.ref 56), some (.int a1), some (.int a2), some (.int a3), none, none] [] 94 (I, J, xrf) Q) (x1 : Int32) (x2 : Int32) (x3 : Int32) (s0 : Int32) (s1 : Int32) (I : xI) (J : xJ) {t : Unit × xI × xJ} (h : f_X0_assign_7 self x1 x2 x3 s0 s1 I J = some t) (hC : (c_X0_assign Q) t) : Rn L xs (d + r + 17) 2 37 [some (.ref 56), some (.int x1), some (.int x2), some (.int x3), none, none] [.int s1, .int s0] 94 (I, J, xrf) Q := by
  unfold f_X0_assign_7 at h
  refine Rn.go 1 (j' := 2) (pc' := 38) (ls' := [some (.ref 56), some (.int x1), some (.int x2), some (.int x3), none, none]) (st' := [.int ((s0 <<< (s1 &&& 31)))]) (n' := 94) (M' := (I, J, xrf)) (fun f => rfl) ?_
  exact p_X0_assign_8 hself x1 x2 x3 ((s0 <<< (s1 &&& 31))) I J h hC
theorem p_X0_assign_6 {L : Nat} {xs : Nat → Int32} {d r : Nat} {Q : xO → Prop} {self : Int32 → Int32 → Int32 → xI → xJ → Option (Unit × xI × xJ)} (hself : ∀ (a1 : Int32) (a2 : Int32) (a3 : Int32) (I : xI) (J : xJ) (o : Unit × xI × xJ), self a1 a2 a3 I J = some o → ∀ Q : xO → Prop, Q (none, 94, (o.2.1, o.2.2, xrf)) → Rn L xs (d + r + 16) 2 0 [some (.ref 56), some (.int a1), some (.int a2), some (.int a3), none, none] [] 94 (I, J, xrf) Q) (x1 : Int32) (x2 : Int32) (x3 : Int32) (I : xI) (J : xJ) {t : Unit × xI × xJ} (h : f_X0_assign_6 self x1 x2 x3 I J = some t) (hC : (c_X0_assign Q) t) : Rn L xs (d + r + 17) 2 29 [some (.ref 56), some (.int x1), some (.int x2), some (.int x3), none, none] [] 94 (I, J, xrf) Q := by
  unfold f_X0_assign_6 at h
  refine Rn.go 3 (j' := 2) (pc' := 34) (ls' := [some (.ref 56), some (.int x1), some (.int x2), some (.int x3), none, none]) (st' := [.ref 1, .int 1]) (n' := 94) (M' := (I, J, xrf)) (fun f => rfl) ?_
  obtain ⟨o, ho, h⟩ := Option.bind_eq_some_iff.mp h
  refine Rn.call (d1 := d + r + 16) (j1 := 62) (ls1 := [some (.ref 1)]) (rest := [.int 1]) (fun f => rfl) ?_
  refine p_X5_bits (d := d + r + 15) I J (t := o) ho ?_
  exact p_X0_assign_7 hself x1 x2 x3 1 o.1 o.2.1 o.2.2 h hC
theorem p_X0_assign_5 {L : Nat} {xs : Nat → Int32} {d r : Nat} {Q : xO → Prop} {self : Int32 → Int32 → Int32 → xI → xJ → Option (Unit × xI × xJ)} (hself : ∀ (a1 : Int32) (a2 : Int32) (a3 : Int32) (I : xI) (J : xJ) (o : Unit × xI × xJ), self a1 a2 a3 I J = some o → ∀ Q : xO → Prop, Q (none, 94, (o.2.1, o.2.2, xrf)) → Rn L xs (d + r + 16) 2 0 [some (.ref 56), some (.int a1), some (.int a2), some (.int a3), none, none] [] 94 (I, J, xrf) Q) (x1 : Int32) (x2 : Int32) (x3 : Int32) (I : xI) (J : xJ) {t : Unit × xI × xJ} (h : f_X0_assign_5 self x1 x2 x3 I J = some t) (hC : (c_X0_assign Q) t) : Rn L xs (d + r + 17) 2 25 [some (.ref 56), some (.int x1), some (.int x2), some (.int x3), none, none] [] 94 (I, J, xrf) Q := by
  unfold f_X0_assign_5 at h
  refine Rn.go 2 (j' := 2) (pc' := 38) (ls' := [some (.ref 56), some (.int x1), some (.int x2), some (.int x3), none, none]) (st' := [.int 1]) (n' := 94) (M' := (I, J, xrf)) (fun f => rfl) ?_
  exact p_X0_assign_8 hself x1 x2 x3 1 I J h hC
theorem p_X0_assign_4 {L : Nat} {xs : Nat → Int32} {d r : Nat} {Q : xO → Prop} {self : Int32 → Int32 → Int32 → xI → xJ → Option (Unit × xI × xJ)} (hself : ∀ (a1 : Int32) (a2 : Int32) (a3 : Int32) (I : xI) (J : xJ) (o : Unit × xI × xJ), self a1 a2 a3 I J = some o → ∀ Q : xO → Prop, Q (none, 94, (o.2.1, o.2.2, xrf)) → Rn L xs (d + r + 16) 2 0 [some (.ref 56), some (.int a1), some (.int a2), some (.int a3), none, none] [] 94 (I, J, xrf) Q) (x1 : Int32) (x2 : Int32) (x3 : Int32) (I : xI) (J : xJ) {t : Unit × xI × xJ} (h : f_X0_assign_4 self x1 x2 x3 I J = some t) (hC : (c_X0_assign Q) t) : Rn L xs (d + r + 17) 2 21 [some (.ref 56), some (.int x1), some (.int x2), some (.int x3), none, none] [] 94 (I, J, xrf) Q := by
  unfold f_X0_assign_4 at h
  refine Rn.fi 2 (c := x2 = 0) (p1 := 25) (l1 := [some (.ref 56), some (.int x1), some (.int x2), some (.int x3), none, none]) (s1 := []) (n1 := 94) (M1 := (I, J, xrf)) (p2 := 29) (l2 := [some (.ref 56), some (.int x1), some (.int x2), some (.int x3), none, none]) (s2 := []) (n2 := 94) (M2 := (I, J, xrf)) (fun f => rfl) (fun hc => ?_) (fun hc => ?_)
  · rw [if_pos hc] at h
    exact p_X0_assign_5 hself x1 x2 x3 I J h hC
  · rw [if_neg hc] at h
    exact p_X0_assign_6 hself x1 x2 x3 I J h hC
theorem p_X0_assign_3 {L : Nat} {xs : Nat → Int32} {d r : Nat} {Q : xO → Prop} {self : Int32 → Int32 → Int32 → xI → xJ → Option (Unit × xI × xJ)} (hself : ∀ (a1 : Int32) (a2 : Int32) (a3 : Int32) (I : xI) (J : xJ) (o : Unit × xI × xJ), self a1 a2 a3 I J = some o → ∀ Q : xO → Prop, Q (none, 94, (o.2.1, o.2.2, xrf)) → Rn L xs (d + r + 16) 2 0 [some (.ref 56), some (.int a1), some (.int a2), some (.int a3), none, none] [] 94 (I, J, xrf) Q) (x1 : Int32) (x2 : Int32) (x3 : Int32) (I : xI) (J : xJ) {t : Unit × xI × xJ} (h : f_X0_assign_3 self x1 x2 x3 I J = some t) (hC : (c_X0_assign Q) t) : Rn L xs (d + r + 17) 2 17 [some (.ref 56), some (.int x1), some (.int x2), some (.int x3), none, none] [] 94 (I, J, xrf) Q := by
  unfold f_X0_assign_3 at h
  refine Rn.fi 2 (c := x1 = 0) (p1 := 21) (l1 := [some (.ref 56), some (.int x1), some (.int x2), some (.int x3), none, none]) (s1 := []) (n1 := 94) (M1 := (I, J, xrf)) (p2 := 29) (l2 := [some (.ref 56), some (.int x1), some (.int x2), some (.int x3), none, none]) (s2 := []) (n2 := 94) (M2 := (I, J, xrf)) (fun f => rfl) (fun hc => ?_) (fun hc => ?_)
  · rw [if_pos hc] at h
    exact p_X0_assign_4 hself x1 x2 x3 I J h hC
  · rw [if_neg hc] at h
    exact p_X0_assign_6 hself x1 x2 x3 I J h hC
theorem p_X0_assign_2 {L : Nat} {xs : Nat → Int32} {d r : Nat} {Q : xO → Prop} {self : Int32 → Int32 → Int32 → xI → xJ → Option (Unit × xI × xJ)} (hself : ∀ (a1 : Int32) (a2 : Int32) (a3 : Int32) (I : xI) (J : xJ) (o : Unit × xI × xJ), self a1 a2 a3 I J = some o → ∀ Q : xO → Prop, Q (none, 94, (o.2.1, o.2.2, xrf)) → Rn L xs (d + r + 16) 2 0 [some (.ref 56), some (.int a1), some (.int a2), some (.int a3), none, none] [] 94 (I, J, xrf) Q) (x1 : Int32) (x2 : Int32) (x3 : Int32) (I : xI) (J : xJ) {t : Unit × xI × xJ} (h : f_X0_assign_2 self x1 x2 x3 I J = some t) (hC : (c_X0_assign Q) t) : Rn L xs (d + r + 17) 2 16 [some (.ref 56), some (.int x1), some (.int x2), some (.int x3), none, none] [] 94 (I, J, xrf) Q := by
  unfold f_X0_assign_2 at h
  cases h
  exact Rn.ret 1 (o := (none, 94, (I, J, xrf))) (fun f => rfl) hC
theorem p_X0_assign_1 {L : Nat} {xs : Nat → Int32} {d r : Nat} {Q : xO → Prop} {self : Int32 → Int32 → Int32 → xI → xJ → Option (Unit × xI × xJ)} (hself : ∀ (a1 : Int32) (a2 : Int32) (a3 : Int32) (I : xI) (J : xJ) (o : Unit × xI × xJ), self a1 a2 a3 I J = some o → ∀ Q : xO → Prop, Q (none, 94, (o.2.1, o.2.2, xrf)) → Rn L xs (d + r + 16) 2 0 [some (.ref 56), some (.int a1), some (.int a2), some (.int a3), none, none] [] 94 (I, J, xrf) Q) (x1 : Int32) (x2 : Int32) (x3 : Int32) (I : xI) (J : xJ) {t : Unit × xI × xJ} (h : f_X0_assign_1 self x1 x2 x3 I J = some t) (hC : (c_X0_assign Q) t) : Rn L xs (d + r + 17) 2 11 [some (.ref 56), some (.int x1), some (.int x2), some (.int x3), none, none] [] 94 (I, J, xrf) Q := by
  unfold f_X0_assign_1 at h
  refine Rn.go 2 (j' := 2) (pc' := 13) (ls' := [some (.ref 56), some (.int x1), some (.int x2), some (.int x3), none, none]) (st' := [.int x1, .ref 56]) (n' := 94) (M' := (I, J, xrf)) (fun f => rfl) ?_
  obtain ⟨o, ho, h⟩ := Option.bind_eq_some_iff.mp h
  refine Rn.call (d1 := d + r + 16) (j1 := 6) (ls1 := [some (.ref 56), some (.int x1), none]) (rest := []) (fun f => rfl) ?_
  refine p_X0_weigh (d := d + r + 0) x1 I J (t := o) ho ?_
  exact p_X0_assign_2 hself x1 x2 x3 o.2.1 o.2.2 h hC
theorem p_X0_assign_0 {L : Nat} {xs : Nat → Int32} {d r : Nat} {Q : xO → Prop} {self : Int32 → Int32 → Int32 → xI → xJ → Option (Unit × xI × xJ)} (hself : ∀ (a1 : Int32) (a2 : Int32) (a3 : Int32) (I : xI) (J : xJ) (o : Unit × xI × xJ), self a1 a2 a3 I J = some o → ∀ Q : xO → Prop, Q (none, 94, (o.2.1, o.2.2, xrf)) → Rn L xs (d + r + 16) 2 0 [some (.ref 56), some (.int a1), some (.int a2), some (.int a3), none, none] [] 94 (I, J, xrf) Q) (x1 : Int32) (x2 : Int32) (x3 : Int32) (I : xI) (J : xJ) {t : Unit × xI × xJ} (h : f_X0_assign_0 self x1 x2 x3 I J = some t) (hC : (c_X0_assign Q) t) : Rn L xs (d + r + 17) 2 0 [some (.ref 56), some (.int x1), some (.int x2), some (.int x3), none, none] [] 94 (I, J, xrf) Q := by
  unfold f_X0_assign_0 at h
  refine Rn.fi 5 (c := x2 < (I 1 0)) (p1 := 17) (l1 := [some (.ref 56), some (.int x1), some (.int x2), some (.int x3), none, none]) (s1 := []) (n1 := 94) (M1 := (I, J, xrf)) (p2 := 11) (l2 := [some (.ref 56), some (.int x1), some (.int x2), some (.int x3), none, none]) (s2 := []) (n2 := 94) (M2 := (I, J, xrf)) (fun f => rfl) (fun hc => ?_) (fun hc => ?_)
  · rw [if_pos hc] at h
    exact p_X0_assign_3 hself x1 x2 x3 I J h hC
  · rw [if_neg hc] at h
    exact p_X0_assign_1 hself x1 x2 x3 I J h hC
theorem p_X0_assign {L : Nat} {xs : Nat → Int32} {d : Nat} {Q : xO → Prop} (r : Nat) (x1 : Int32) (x2 : Int32) (x3 : Int32) (I : xI) (J : xJ) {t : Unit × xI × xJ} (h : f_X0_assign r x1 x2 x3 I J = some t) (hC : Q (none, 94, (t.2.1, t.2.2, xrf))) : Rn L xs (d + r + 17) 2 0 [some (.ref 56), some (.int x1), some (.int x2), some (.int x3), none, none] [] 94 (I, J, xrf) Q := by
  induction r generalizing Q t x1 x2 x3 I J with
  | zero => exact absurd h (by simp [f_X0_assign])
  | succ r ih =>
    have q := p_X0_assign_0 (L := L) (xs := xs) (Q := Q) (d := d + 1) (r := r) (self := f_X0_assign r) (fun a1 a2 a3 I J o ho Q hQ => by have := ih a1 a2 a3 I J ho hQ; rw [show d + 1 + r + 16 = d + r + 17 by omega]; exact this) x1 x2 x3 I J h hC
    rw [show d + 1 + r + 17 = d + (r + 1) + 17 by omega] at q
    exact q
/-! X0_refresh -/
def c_X0_refresh (Q : xO → Prop) (t : Unit × xI × xJ) : Prop := Q (none, 94, (t.2.1, t.2.2, xrf))
def f_X0_refresh_2 (x1 : Int32) (I : xI) (J : xJ) : Option (Unit × xI × xJ) := some ((), I, J)
def f_X0_refresh_1 (x1 : Int32) (I : xI) (J : xJ) : Option (Unit × xI × xJ) := if x1 < 0 ∨ 2 ≤ x1.toNatClampNeg then none else if x1 < 0 ∨ 2 ≤ x1.toNatClampNeg then none else (f_X0_assign 12 x1 0 0 ((xup ((xup I 60 x1.toNatClampNeg ((I 1 2)))) 59 x1.toNatClampNeg 1000)) J).bind fun o => f_X0_refresh_2 x1 o.2.1 o.2.2
def f_X0_refresh_0 (x1 : Int32) (I : xI) (J : xJ) : Option (Unit × xI × xJ) := if x1 < 0 ∨ 2 ≤ x1.toNatClampNeg then none else if (I 60 x1.toNatClampNeg) = (I 1 2) then f_X0_refresh_2 x1 I J else f_X0_refresh_1 x1 I J
def f_X0_refresh (x1 : Int32) (I : xI) (J : xJ) : Option (Unit × xI × xJ) := f_X0_refresh_0 x1 I J
theorem p_X0_refresh_2 {L : Nat} {xs : Nat → Int32} {d : Nat} {Q : xO → Prop} (x1 : Int32) (I : xI) (J : xJ) {t : Unit × xI × xJ} (h : f_X0_refresh_2 x1 I J = some t) (hC : (c_X0_refresh Q) t) : Rn L xs (d + 30) 1 45 [some (.ref 56), some (.int x1)] [] 94 (I, J, xrf) Q := by
  unfold f_X0_refresh_2 at h
  cases h
  exact Rn.ret 1 (o := (none, 94, (I, J, xrf))) (fun f => rfl) hC
theorem p_X0_refresh_1 {L : Nat} {xs : Nat → Int32} {d : Nat} {Q : xO → Prop} (x1 : Int32) (I : xI) (J : xJ) {t : Unit × xI × xJ} (h : f_X0_refresh_1 x1 I J = some t) (hC : (c_X0_refresh Q) t) : Rn L xs (d + 30) 1 16 [some (.ref 56), some (.int x1)] [] 94 (I, J, xrf) Q := by
  unfold f_X0_refresh_1 at h
  obtain ⟨hc, h⟩ := xif h
  refine Rn.ok 7 (c := x1 < 0 ∨ 2 ≤ x1.toNatClampNeg) (p1 := 29) (l1 := [some (.ref 56), some (.int x1)]) (s1 := []) (n1 := 94) (M1 := ((xup I 60 x1.toNatClampNeg ((I 1 2))), J, xrf)) (fun f => rfl) hc ?_
  obtain ⟨hc, h⟩ := xif h
  refine Rn.ok 5 (c := x1 < 0 ∨ 2 ≤ x1.toNatClampNeg) (p1 := 38) (l1 := [some (.ref 56), some (.int x1)]) (s1 := []) (n1 := 94) (M1 := ((xup ((xup I 60 x1.toNatClampNeg ((I 1 2)))) 59 x1.toNatClampNeg 1000), J, xrf)) (fun f => rfl) hc ?_
  refine Rn.go 4 (j' := 1) (pc' := 42) (ls' := [some (.ref 56), some (.int x1)]) (st' := [.int 0, .int 0, .int x1, .ref 56]) (n' := 94) (M' := ((xup ((xup I 60 x1.toNatClampNeg ((I 1 2)))) 59 x1.toNatClampNeg 1000), J, xrf)) (fun f => rfl) ?_
  obtain ⟨o, ho, h⟩ := Option.bind_eq_some_iff.mp h
  refine Rn.call (d1 := d + 29) (j1 := 2) (ls1 := [some (.ref 56), some (.int x1), some (.int 0), some (.int 0), none, none]) (rest := []) (fun f => rfl) ?_
  refine p_X0_assign (d := d + 0) 12 x1 0 0 ((xup ((xup I 60 x1.toNatClampNeg ((I 1 2)))) 59 x1.toNatClampNeg 1000)) J (t := o) ho ?_
  exact p_X0_refresh_2 x1 o.2.1 o.2.2 h hC
theorem p_X0_refresh_0 {L : Nat} {xs : Nat → Int32} {d : Nat} {Q : xO → Prop} (x1 : Int32) (I : xI) (J : xJ) {t : Unit × xI × xJ} (h : f_X0_refresh_0 x1 I J = some t) (hC : (c_X0_refresh Q) t) : Rn L xs (d + 30) 1 0 [some (.ref 56), some (.int x1)] [] 94 (I, J, xrf) Q := by
  unfold f_X0_refresh_0 at h
  obtain ⟨hc, h⟩ := xif h
  refine Rn.ok 4 (c := x1 < 0 ∨ 2 ≤ x1.toNatClampNeg) (p1 := 6) (l1 := [some (.ref 56), some (.int x1)]) (s1 := [.int ((I 60 x1.toNatClampNeg))]) (n1 := 94) (M1 := (I, J, xrf)) (fun f => rfl) hc ?_
  refine Rn.fi 4 (c := (I 60 x1.toNatClampNeg) = (I 1 2)) (p1 := 45) (l1 := [some (.ref 56), some (.int x1)]) (s1 := []) (n1 := 94) (M1 := (I, J, xrf)) (p2 := 16) (l2 := [some (.ref 56), some (.int x1)]) (s2 := []) (n2 := 94) (M2 := (I, J, xrf)) (fun f => rfl) (fun hc => ?_) (fun hc => ?_)
  · rw [if_pos hc] at h
    exact p_X0_refresh_2 x1 I J h hC
  · rw [if_neg hc] at h
    exact p_X0_refresh_1 x1 I J h hC
theorem p_X0_refresh {L : Nat} {xs : Nat → Int32} {d : Nat} {Q : xO → Prop} (x1 : Int32) (I : xI) (J : xJ) {t : Unit × xI × xJ} (h : f_X0_refresh x1 I J = some t) (hC : Q (none, 94, (t.2.1, t.2.2, xrf))) : Rn L xs (d + 30) 1 0 [some (.ref 56), some (.int x1)] [] 94 (I, J, xrf) Q := p_X0_refresh_0 x1 I J h hC
/-! X11_best -/
def c_X11_best (Q : xO → Prop) (t : Int32 × xI × xJ) : Prop := Q ((some (.int t.1)), 94, (t.2.1, t.2.2, xrf))
def f_X11_best_5 (x1 : Int32) (x2 : Int32) (I : xI) (J : xJ) : Option (Int32 × xI × xJ) := some ((-1), I, J)
def f_X11_best_11 (x1 : Int32) (x2 : Int32) (s0 : Int32) (I : xI) (J : xJ) : Option (Int32 × xI × xJ) := some (s0, I, J)
def f_X11_best_10 (x1 : Int32) (x2 : Int32) (I : xI) (J : xJ) : Option (Int32 × xI × xJ) := if ((x1 * 6) + x2) < 0 ∨ 12 ≤ (((x1 * 6) + x2)).toNatClampNeg then none else f_X11_best_11 x1 x2 ((I 58 (((x1 * 6) + x2)).toNatClampNeg)) I J
def f_X11_best_9 (x1 : Int32) (x2 : Int32) (I : xI) (J : xJ) : Option (Int32 × xI × xJ) := if x1 < 0 ∨ 2 ≤ x1.toNatClampNeg then none else f_X11_best_11 x1 x2 ((I 59 x1.toNatClampNeg)) I J
def f_X11_best_8 (x1 : Int32) (x2 : Int32) (I : xI) (J : xJ) : Option (Int32 × xI × xJ) := if x2 = (-1) then f_X11_best_9 x1 x2 I J else f_X11_best_10 x1 x2 I J
def f_X11_best_7 (x1 : Int32) (x2 : Int32) (I : xI) (J : xJ) : Option (Int32 × xI × xJ) := (f_X0_refresh x1 I J).bind fun o => f_X11_best_8 x1 x2 o.2.1 o.2.2
def f_X11_best_6 (x1 : Int32) (x2 : Int32) (I : xI) (J : xJ) : Option (Int32 × xI × xJ) := (f_X6_refresh I J).bind fun o => f_X11_best_7 x1 x2 o.2.1 o.2.2
def f_X11_best_4 (x1 : Int32) (x2 : Int32) (s0 : Int32) (I : xI) (J : xJ) : Option (Int32 × xI × xJ) := if s0 = 0 then f_X11_best_5 x1 x2 I J else f_X11_best_6 x1 x2 I J
def f_X11_best_3 (x1 : Int32) (x2 : Int32) (I : xI) (J : xJ) : Option (Int32 × xI × xJ) := (f_X5_hasState x2 I J).bind fun o => f_X11_best_4 x1 x2 o.1 o.2.1 o.2.2
def f_X11_best_2 (x1 : Int32) (x2 : Int32) (I : xI) (J : xJ) : Option (Int32 × xI × xJ) := if x2 = (-1) then f_X11_best_6 x1 x2 I J else f_X11_best_3 x1 x2 I J
def f_X11_best_1 (x1 : Int32) (x2 : Int32) (I : xI) (J : xJ) : Option (Int32 × xI × xJ) := if 1 < x1 then f_X11_best_5 x1 x2 I J else f_X11_best_2 x1 x2 I J
def f_X11_best_0 (x1 : Int32) (x2 : Int32) (I : xI) (J : xJ) : Option (Int32 × xI × xJ) := if x1 < 0 then f_X11_best_5 x1 x2 I J else f_X11_best_1 x1 x2 I J
def f_X11_best (x1 : Int32) (x2 : Int32) (I : xI) (J : xJ) : Option (Int32 × xI × xJ) := f_X11_best_0 x1 x2 I J
theorem p_X11_best_5 {L : Nat} {xs : Nat → Int32} {d : Nat} {Q : xO → Prop} (x1 : Int32) (x2 : Int32) (I : xI) (J : xJ) {t : Int32 × xI × xJ} (h : f_X11_best_5 x1 x2 I J = some t) (hC : (c_X11_best Q) t) : Rn L xs (d + 31) 172 25 [some (.ref 0), some (.int x1), some (.int x2)] [] 94 (I, J, xrf) Q := by
  unfold f_X11_best_5 at h
  cases h
  exact Rn.ret 2 (o := ((some (.int ((-1)))), 94, (I, J, xrf))) (fun f => rfl) hC
theorem p_X11_best_11 {L : Nat} {xs : Nat → Int32} {d : Nat} {Q : xO → Prop} (x1 : Int32) (x2 : Int32) (s0 : Int32) (I : xI) (J : xJ) {t : Int32 × xI × xJ} (h : f_X11_best_11 x1 x2 s0 I J = some t) (hC : (c_X11_best Q) t) : Rn L xs (d + 31) 172 73 [some (.ref 0), some (.int x1), some (.int x2)] [.int s0] 94 (I, J, xrf) Q := by
  unfold f_X11_best_11 at h
  cases h
  exact Rn.ret 1 (o := ((some (.int s0)), 94, (I, J, xrf))) (fun f => rfl) hC
theorem p_X11_best_10 {L : Nat} {xs : Nat → Int32} {d : Nat} {Q : xO → Prop} (x1 : Int32) (x2 : Int32) (I : xI) (J : xJ) {t : Int32 × xI × xJ} (h : f_X11_best_10 x1 x2 I J = some t) (hC : (c_X11_best Q) t) : Rn L xs (d + 31) 172 59 [some (.ref 0), some (.int x1), some (.int x2)] [] 94 (I, J, xrf) Q := by
  unfold f_X11_best_10 at h
  obtain ⟨hc, h⟩ := xif h
  refine Rn.ok 9 (c := ((x1 * 6) + x2) < 0 ∨ 12 ≤ (((x1 * 6) + x2)).toNatClampNeg) (p1 := 73) (l1 := [some (.ref 0), some (.int x1), some (.int x2)]) (s1 := [.int ((I 58 (((x1 * 6) + x2)).toNatClampNeg))]) (n1 := 94) (M1 := (I, J, xrf)) (fun f => rfl) hc ?_
  exact p_X11_best_11 x1 x2 ((I 58 (((x1 * 6) + x2)).toNatClampNeg)) I J h hC
theorem p_X11_best_9 {L : Nat} {xs : Nat → Int32} {d : Nat} {Q : xO → Prop} (x1 : Int32) (x2 : Int32) (I : xI) (J : xJ) {t : Int32 × xI × xJ} (h : f_X11_best_9 x1 x2 I J = some t) (hC : (c_X11_best Q) t) : Rn L xs (d + 31) 172 47 [some (.ref 0), some (.int x1), some (.int x2)] [] 94 (I, J, xrf) Q := by
  unfold f_X11_best_9 at h
  obtain ⟨hc, h⟩ := xif h
  refine Rn.ok 5 (c := x1 < 0 ∨ 2 ≤ x1.toNatClampNeg) (p1 := 56) (l1 := [some (.ref 0), some (.int x1), some (.int x2)]) (s1 := [.int ((I 59 x1.toNatClampNeg))]) (n1 := 94) (M1 := (I, J, xrf)) (fun f => rfl) hc ?_
  refine Rn.go 1 (j' := 172) (pc' := 73) (ls' := [some (.ref 0), some (.int x1), some (.int x2)]) (st' := [.int ((I 59 x1.toNatClampNeg))]) (n' := 94) (M' := (I, J, xrf)) (fun f => rfl) ?_
  exact p_X11_best_11 x1 x2 ((I 59 x1.toNatClampNeg)) I J h hC
theorem p_X11_best_8 {L : Nat} {xs : Nat → Int32} {d : Nat} {Q : xO → Prop} (x1 : Int32) (x2 : Int32) (I : xI) (J : xJ) {t : Int32 × xI × xJ} (h : f_X11_best_8 x1 x2 I J = some t) (hC : (c_X11_best Q) t) : Rn L xs (d + 31) 172 42 [some (.ref 0), some (.int x1), some (.int x2)] [] 94 (I, J, xrf) Q := by
  unfold f_X11_best_8 at h
  refine Rn.fi 3 (c := x2 = (-1)) (p1 := 47) (l1 := [some (.ref 0), some (.int x1), some (.int x2)]) (s1 := []) (n1 := 94) (M1 := (I, J, xrf)) (p2 := 59) (l2 := [some (.ref 0), some (.int x1), some (.int x2)]) (s2 := []) (n2 := 94) (M2 := (I, J, xrf)) (fun f => rfl) (fun hc => ?_) (fun hc => ?_)
  · rw [if_pos hc] at h
    exact p_X11_best_9 x1 x2 I J h hC
  · rw [if_neg hc] at h
    exact p_X11_best_10 x1 x2 I J h hC
theorem p_X11_best_7 {L : Nat} {xs : Nat → Int32} {d : Nat} {Q : xO → Prop} (x1 : Int32) (x2 : Int32) (I : xI) (J : xJ) {t : Int32 × xI × xJ} (h : f_X11_best_7 x1 x2 I J = some t) (hC : (c_X11_best Q) t) : Rn L xs (d + 31) 172 34 [some (.ref 0), some (.int x1), some (.int x2)] [] 94 (I, J, xrf) Q := by
  unfold f_X11_best_7 at h
  refine Rn.go 3 (j' := 172) (pc' := 39) (ls' := [some (.ref 0), some (.int x1), some (.int x2)]) (st' := [.int x1, .ref 56]) (n' := 94) (M' := (I, J, xrf)) (fun f => rfl) ?_
  obtain ⟨o, ho, h⟩ := Option.bind_eq_some_iff.mp h
  refine Rn.call (d1 := d + 30) (j1 := 1) (ls1 := [some (.ref 56), some (.int x1)]) (rest := []) (fun f => rfl) ?_
  refine p_X0_refresh (d := d + 0) x1 I J (t := o) ho ?_
  exact p_X11_best_8 x1 x2 o.2.1 o.2.2 h hC
theorem p_X11_best_6 {L : Nat} {xs : Nat → Int32} {d : Nat} {Q : xO → Prop} (x1 : Int32) (x2 : Int32) (I : xI) (J : xJ) {t : Int32 × xI × xJ} (h : f_X11_best_6 x1 x2 I J = some t) (hC : (c_X11_best Q) t) : Rn L xs (d + 31) 172 27 [some (.ref 0), some (.int x1), some (.int x2)] [] 94 (I, J, xrf) Q := by
  unfold f_X11_best_6 at h
  refine Rn.go 2 (j' := 172) (pc' := 31) (ls' := [some (.ref 0), some (.int x1), some (.int x2)]) (st' := [.ref 32]) (n' := 94) (M' := (I, J, xrf)) (fun f => rfl) ?_
  obtain ⟨o, ho, h⟩ := Option.bind_eq_some_iff.mp h
  refine Rn.call (d1 := d + 30) (j1 := 69) (ls1 := [some (.ref 32), none, none]) (rest := []) (fun f => rfl) ?_
  refine p_X6_refresh (d := d + 26) I J (t := o) ho ?_
  exact p_X11_best_7 x1 x2 o.2.1 o.2.2 h hC
theorem p_X11_best_4 {L : Nat} {xs : Nat → Int32} {d : Nat} {Q : xO → Prop} (x1 : Int32) (x2 : Int32) (s0 : Int32) (I : xI) (J : xJ) {t : Int32 × xI × xJ} (h : f_X11_best_4 x1 x2 s0 I J = some t) (hC : (c_X11_best Q) t) : Rn L xs (d + 31) 172 22 [some (.ref 0), some (.int x1), some (.int x2)] [.int s0] 94 (I, J, xrf) Q := by
  unfold f_X11_best_4 at h
  refine Rn.fi 1 (c := s0 = 0) (p1 := 25) (l1 := [some (.ref 0), some (.int x1), some (.int x2)]) (s1 := []) (n1 := 94) (M1 := (I, J, xrf)) (p2 := 27) (l2 := [some (.ref 0), some (.int x1), some (.int x2)]) (s2 := []) (n2 := 94) (M2 := (I, J, xrf)) (fun f => rfl) (fun hc => ?_) (fun hc => ?_)
  · rw [if_pos hc] at h
    exact p_X11_best_5 x1 x2 I J h hC
  · rw [if_neg hc] at h
    exact p_X11_best_6 x1 x2 I J h hC
theorem p_X11_best_3 {L : Nat} {xs : Nat → Int32} {d : Nat} {Q : xO → Prop} (x1 : Int32) (x2 : Int32) (I : xI) (J : xJ) {t : Int32 × xI × xJ} (h : f_X11_best_3 x1 x2 I J = some t) (hC : (c_X11_best Q) t) : Rn L xs (d + 31) 172 14 [some (.ref 0), some (.int x1), some (.int x2)] [] 94 (I, J, xrf) Q := by
  unfold f_X11_best_3 at h
  refine Rn.go 3 (j' := 172) (pc' := 19) (ls' := [some (.ref 0), some (.int x1), some (.int x2)]) (st' := [.int x2, .ref 1]) (n' := 94) (M' := (I, J, xrf)) (fun f => rfl) ?_
  obtain ⟨o, ho, h⟩ := Option.bind_eq_some_iff.mp h
  refine Rn.call (d1 := d + 30) (j1 := 51) (ls1 := [some (.ref 1), some (.int x2)]) (rest := []) (fun f => rfl) ?_
  refine p_X5_hasState (d := d + 29) x2 I J (t := o) ho ?_
  exact p_X11_best_4 x1 x2 o.1 o.2.1 o.2.2 h hC
theorem p_X11_best_2 {L : Nat} {xs : Nat → Int32} {d : Nat} {Q : xO → Prop} (x1 : Int32) (x2 : Int32) (I : xI) (J : xJ) {t : Int32 × xI × xJ} (h : f_X11_best_2 x1 x2 I J = some t) (hC : (c_X11_best Q) t) : Rn L xs (d + 31) 172 9 [some (.ref 0), some (.int x1), some (.int x2)] [] 94 (I, J, xrf) Q := by
  unfold f_X11_best_2 at h
  refine Rn.fi 3 (c := x2 = (-1)) (p1 := 27) (l1 := [some (.ref 0), some (.int x1), some (.int x2)]) (s1 := []) (n1 := 94) (M1 := (I, J, xrf)) (p2 := 14) (l2 := [some (.ref 0), some (.int x1), some (.int x2)]) (s2 := []) (n2 := 94) (M2 := (I, J, xrf)) (fun f => rfl) (fun hc => ?_) (fun hc => ?_)
  · rw [if_pos hc] at h
    exact p_X11_best_6 x1 x2 I J h hC
  · rw [if_neg hc] at h
    exact p_X11_best_3 x1 x2 I J h hC
theorem p_X11_best_1 {L : Nat} {xs : Nat → Int32} {d : Nat} {Q : xO → Prop} (x1 : Int32) (x2 : Int32) (I : xI) (J : xJ) {t : Int32 × xI × xJ} (h : f_X11_best_1 x1 x2 I J = some t) (hC : (c_X11_best Q) t) : Rn L xs (d + 31) 172 4 [some (.ref 0), some (.int x1), some (.int x2)] [] 94 (I, J, xrf) Q := by
  unfold f_X11_best_1 at h
  refine Rn.fi 3 (c := 1 < x1) (p1 := 25) (l1 := [some (.ref 0), some (.int x1), some (.int x2)]) (s1 := []) (n1 := 94) (M1 := (I, J, xrf)) (p2 := 9) (l2 := [some (.ref 0), some (.int x1), some (.int x2)]) (s2 := []) (n2 := 94) (M2 := (I, J, xrf)) (fun f => rfl) (fun hc => ?_) (fun hc => ?_)
  · rw [if_pos hc] at h
    exact p_X11_best_5 x1 x2 I J h hC
  · rw [if_neg hc] at h
    exact p_X11_best_2 x1 x2 I J h hC
theorem p_X11_best_0 {L : Nat} {xs : Nat → Int32} {d : Nat} {Q : xO → Prop} (x1 : Int32) (x2 : Int32) (I : xI) (J : xJ) {t : Int32 × xI × xJ} (h : f_X11_best_0 x1 x2 I J = some t) (hC : (c_X11_best Q) t) : Rn L xs (d + 31) 172 0 [some (.ref 0), some (.int x1), some (.int x2)] [] 94 (I, J, xrf) Q := by
  unfold f_X11_best_0 at h
  refine Rn.fi 2 (c := x1 < 0) (p1 := 25) (l1 := [some (.ref 0), some (.int x1), some (.int x2)]) (s1 := []) (n1 := 94) (M1 := (I, J, xrf)) (p2 := 4) (l2 := [some (.ref 0), some (.int x1), some (.int x2)]) (s2 := []) (n2 := 94) (M2 := (I, J, xrf)) (fun f => rfl) (fun hc => ?_) (fun hc => ?_)
  · rw [if_pos hc] at h
    exact p_X11_best_5 x1 x2 I J h hC
  · rw [if_neg hc] at h
    exact p_X11_best_1 x1 x2 I J h hC
theorem p_X11_best {L : Nat} {xs : Nat → Int32} {d : Nat} {Q : xO → Prop} (x1 : Int32) (x2 : Int32) (I : xI) (J : xJ) {t : Int32 × xI × xJ} (h : f_X11_best x1 x2 I J = some t) (hC : Q ((some (.int t.1)), 94, (t.2.1, t.2.2, xrf))) : Rn L xs (d + 31) 172 0 [some (.ref 0), some (.int x1), some (.int x2)] [] 94 (I, J, xrf) Q := p_X11_best_0 x1 x2 I J h hC
/-! X5_copyFrom_20_1 -/
def c_X5_copyFrom_20_1 (Q : xO → Prop) (t : Unit × xI × xJ) : Prop := Q (none, 94, (t.2.1, t.2.2, xrf))
def f_X5_copyFrom_20_1_0 (I : xI) (J : xJ) : Option (Unit × xI × xJ) := some ((), (xup ((xcp ((xcp ((xcp ((xup ((xup I 20 0 ((I 1 0)))) 20 1 ((((xup I 20 0 ((I 1 0)))) 1 1)))) 2 21 0 0 24)) 3 22 0 0 24)) 4 23 0 0 6)) 20 2 (((((xcp ((xcp ((xcp ((xup ((xup I 20 0 ((I 1 0)))) 20 1 ((((xup I 20 0 ((I 1 0)))) 1 1)))) 2 21 0 0 24)) 3 22 0 0 24)) 4 23 0 0 6)) 20 2) + 1))), J)
def f_X5_copyFrom_20_1 (I : xI) (J : xJ) : Option (Unit × xI × xJ) := f_X5_copyFrom_20_1_0 I J
theorem p_X5_copyFrom_20_1_0 {L : Nat} {xs : Nat → Int32} {d : Nat} {Q : xO → Prop} (I : xI) (J : xJ) {t : Unit × xI × xJ} (h : f_X5_copyFrom_20_1_0 I J = some t) (hC : (c_X5_copyFrom_20_1 Q) t) : Rn L xs (d + 1) 50 0 [some (.ref 20), some (.ref 1)] [] 94 (I, J, xrf) Q := by
  unfold f_X5_copyFrom_20_1_0 at h
  refine Rn.go 18 (j' := 50) (pc' := 34) (ls' := [some (.ref 20), some (.ref 1)]) (st' := []) (n' := 94) (M' := ((xcp ((xup ((xup I 20 0 ((I 1 0)))) 20 1 ((((xup I 20 0 ((I 1 0)))) 1 1)))) 2 21 0 0 24), J, xrf)) (fun f => rfl) ?_
  refine Rn.go 10 (j' := 50) (pc' := 52) (ls' := [some (.ref 20), some (.ref 1)]) (st' := []) (n' := 94) (M' := ((xcp ((xcp ((xup ((xup I 20 0 ((I 1 0)))) 20 1 ((((xup I 20 0 ((I 1 0)))) 1 1)))) 2 21 0 0 24)) 3 22 0 0 24), J, xrf)) (fun f => rfl) ?_
  refine Rn.go 10 (j' := 50) (pc' := 70) (ls' := [some (.ref 20), some (.ref 1)]) (st' := []) (n' := 94) (M' := ((xcp ((xcp ((xcp ((xup ((xup I 20 0 ((I 1 0)))) 20 1 ((((xup I 20 0 ((I 1 0)))) 1 1)))) 2 21 0 0 24)) 3 22 0 0 24)) 4 23 0 0 6), J, xrf)) (fun f => rfl) ?_
  cases h
  exact Rn.ret 7 (o := (none, 94, ((xup ((xcp ((xcp ((xcp ((xup ((xup I 20 0 ((I 1 0)))) 20 1 ((((xup I 20 0 ((I 1 0)))) 1 1)))) 2 21 0 0 24)) 3 22 0 0 24)) 4 23 0 0 6)) 20 2 (((((xcp ((xcp ((xcp ((xup ((xup I 20 0 ((I 1 0)))) 20 1 ((((xup I 20 0 ((I 1 0)))) 1 1)))) 2 21 0 0 24)) 3 22 0 0 24)) 4 23 0 0 6)) 20 2) + 1))), J, xrf))) (fun f => rfl) hC
theorem p_X5_copyFrom_20_1 {L : Nat} {xs : Nat → Int32} {d : Nat} {Q : xO → Prop} (I : xI) (J : xJ) {t : Unit × xI × xJ} (h : f_X5_copyFrom_20_1 I J = some t) (hC : Q (none, 94, (t.2.1, t.2.2, xrf))) : Rn L xs (d + 1) 50 0 [some (.ref 20), some (.ref 1)] [] 94 (I, J, xrf) Q := p_X5_copyFrom_20_1_0 I J h hC
/-! X5_copyFrom_16_1 -/
def c_X5_copyFrom_16_1 (Q : xO → Prop) (t : Unit × xI × xJ) : Prop := Q (none, 94, (t.2.1, t.2.2, xrf))
def f_X5_copyFrom_16_1_0 (I : xI) (J : xJ) : Option (Unit × xI × xJ) := some ((), (xup ((xcp ((xcp ((xcp ((xup ((xup I 16 0 ((I 1 0)))) 16 1 ((((xup I 16 0 ((I 1 0)))) 1 1)))) 2 17 0 0 24)) 3 18 0 0 24)) 4 19 0 0 6)) 16 2 (((((xcp ((xcp ((xcp ((xup ((xup I 16 0 ((I 1 0)))) 16 1 ((((xup I 16 0 ((I 1 0)))) 1 1)))) 2 17 0 0 24)) 3 18 0 0 24)) 4 19 0 0 6)) 16 2) + 1))), J)
def f_X5_copyFrom_16_1 (I : xI) (J : xJ) : Option (Unit × xI × xJ) := f_X5_copyFrom_16_1_0 I J
theorem p_X5_copyFrom_16_1_0 {L : Nat} {xs : Nat → Int32} {d : Nat} {Q : xO → Prop} (I : xI) (J : xJ) {t : Unit × xI × xJ} (h : f_X5_copyFrom_16_1_0 I J = some t) (hC : (c_X5_copyFrom_16_1 Q) t) : Rn L xs (d + 1) 50 0 [some (.ref 16), some (.ref 1)] [] 94 (I, J, xrf) Q := by
  unfold f_X5_copyFrom_16_1_0 at h
  refine Rn.go 18 (j' := 50) (pc' := 34) (ls' := [some (.ref 16), some (.ref 1)]) (st' := []) (n' := 94) (M' := ((xcp ((xup ((xup I 16 0 ((I 1 0)))) 16 1 ((((xup I 16 0 ((I 1 0)))) 1 1)))) 2 17 0 0 24), J, xrf)) (fun f => rfl) ?_
  refine Rn.go 10 (j' := 50) (pc' := 52) (ls' := [some (.ref 16), some (.ref 1)]) (st' := []) (n' := 94) (M' := ((xcp ((xcp ((xup ((xup I 16 0 ((I 1 0)))) 16 1 ((((xup I 16 0 ((I 1 0)))) 1 1)))) 2 17 0 0 24)) 3 18 0 0 24), J, xrf)) (fun f => rfl) ?_
  refine Rn.go 10 (j' := 50) (pc' := 70) (ls' := [some (.ref 16), some (.ref 1)]) (st' := []) (n' := 94) (M' := ((xcp ((xcp ((xcp ((xup ((xup I 16 0 ((I 1 0)))) 16 1 ((((xup I 16 0 ((I 1 0)))) 1 1)))) 2 17 0 0 24)) 3 18 0 0 24)) 4 19 0 0 6), J, xrf)) (fun f => rfl) ?_
  cases h
  exact Rn.ret 7 (o := (none, 94, ((xup ((xcp ((xcp ((xcp ((xup ((xup I 16 0 ((I 1 0)))) 16 1 ((((xup I 16 0 ((I 1 0)))) 1 1)))) 2 17 0 0 24)) 3 18 0 0 24)) 4 19 0 0 6)) 16 2 (((((xcp ((xcp ((xcp ((xup ((xup I 16 0 ((I 1 0)))) 16 1 ((((xup I 16 0 ((I 1 0)))) 1 1)))) 2 17 0 0 24)) 3 18 0 0 24)) 4 19 0 0 6)) 16 2) + 1))), J, xrf))) (fun f => rfl) hC
theorem p_X5_copyFrom_16_1 {L : Nat} {xs : Nat → Int32} {d : Nat} {Q : xO → Prop} (I : xI) (J : xJ) {t : Unit × xI × xJ} (h : f_X5_copyFrom_16_1 I J = some t) (hC : Q (none, 94, (t.2.1, t.2.2, xrf))) : Rn L xs (d + 1) 50 0 [some (.ref 16), some (.ref 1)] [] 94 (I, J, xrf) Q := p_X5_copyFrom_16_1_0 I J h hC
/-! X5_copyFrom_12_1 -/
def c_X5_copyFrom_12_1 (Q : xO → Prop) (t : Unit × xI × xJ) : Prop := Q (none, 94, (t.2.1, t.2.2, xrf))
def f_X5_copyFrom_12_1_0 (I : xI) (J : xJ) : Option (Unit × xI × xJ) := some ((), (xup ((xcp ((xcp ((xcp ((xup ((xup I 12 0 ((I 1 0)))) 12 1 ((((xup I 12 0 ((I 1 0)))) 1 1)))) 2 13 0 0 24)) 3 14 0 0 24)) 4 15 0 0 6)) 12 2 (((((xcp ((xcp ((xcp ((xup ((xup I 12 0 ((I 1 0)))) 12 1 ((((xup I 12 0 ((I 1 0)))) 1 1)))) 2 13 0 0 24)) 3 14 0 0 24)) 4 15 0 0 6)) 12 2) + 1))), J)
def f_X5_copyFrom_12_1 (I : xI) (J : xJ) : Option (Unit × xI × xJ) := f_X5_copyFrom_12_1_0 I J
theorem p_X5_copyFrom_12_1_0 {L : Nat} {xs : Nat → Int32} {d : Nat} {Q : xO → Prop} (I : xI) (J : xJ) {t : Unit × xI × xJ} (h : f_X5_copyFrom_12_1_0 I J = some t) (hC : (c_X5_copyFrom_12_1 Q) t) : Rn L xs (d + 1) 50 0 [some (.ref 12), some (.ref 1)] [] 94 (I, J, xrf) Q := by
  unfold f_X5_copyFrom_12_1_0 at h
  refine Rn.go 18 (j' := 50) (pc' := 34) (ls' := [some (.ref 12), some (.ref 1)]) (st' := []) (n' := 94) (M' := ((xcp ((xup ((xup I 12 0 ((I 1 0)))) 12 1 ((((xup I 12 0 ((I 1 0)))) 1 1)))) 2 13 0 0 24), J, xrf)) (fun f => rfl) ?_
  refine Rn.go 10 (j' := 50) (pc' := 52) (ls' := [some (.ref 12), some (.ref 1)]) (st' := []) (n' := 94) (M' := ((xcp ((xcp ((xup ((xup I 12 0 ((I 1 0)))) 12 1 ((((xup I 12 0 ((I 1 0)))) 1 1)))) 2 13 0 0 24)) 3 14 0 0 24), J, xrf)) (fun f => rfl) ?_
  refine Rn.go 10 (j' := 50) (pc' := 70) (ls' := [some (.ref 12), some (.ref 1)]) (st' := []) (n' := 94) (M' := ((xcp ((xcp ((xcp ((xup ((xup I 12 0 ((I 1 0)))) 12 1 ((((xup I 12 0 ((I 1 0)))) 1 1)))) 2 13 0 0 24)) 3 14 0 0 24)) 4 15 0 0 6), J, xrf)) (fun f => rfl) ?_
  cases h
  exact Rn.ret 7 (o := (none, 94, ((xup ((xcp ((xcp ((xcp ((xup ((xup I 12 0 ((I 1 0)))) 12 1 ((((xup I 12 0 ((I 1 0)))) 1 1)))) 2 13 0 0 24)) 3 14 0 0 24)) 4 15 0 0 6)) 12 2 (((((xcp ((xcp ((xcp ((xup ((xup I 12 0 ((I 1 0)))) 12 1 ((((xup I 12 0 ((I 1 0)))) 1 1)))) 2 13 0 0 24)) 3 14 0 0 24)) 4 15 0 0 6)) 12 2) + 1))), J, xrf))) (fun f => rfl) hC
theorem p_X5_copyFrom_12_1 {L : Nat} {xs : Nat → Int32} {d : Nat} {Q : xO → Prop} (I : xI) (J : xJ) {t : Unit × xI × xJ} (h : f_X5_copyFrom_12_1 I J = some t) (hC : Q (none, 94, (t.2.1, t.2.2, xrf))) : Rn L xs (d + 1) 50 0 [some (.ref 12), some (.ref 1)] [] 94 (I, J, xrf) Q := p_X5_copyFrom_12_1_0 I J h hC
/-! X4_keepSlot -/
def c_X4_keepSlot (Q : xO → Prop) (t : Int32 × xI × xJ) : Prop := Q ((some (.int t.1)), 94, (t.2.1, t.2.2, xrf))
def f_X4_keepSlot_2 (x1 : Int32) (I : xI) (J : xJ) : Option (Int32 × xI × xJ) := some (0, I, J)
def f_X4_keepSlot_7 (x1 : Int32) (I : xI) (J : xJ) : Option (Int32 × xI × xJ) := if x1 < 0 ∨ 3 ≤ x1.toNatClampNeg then none else some (1, (xup I 11 x1.toNatClampNeg 1), J)
def f_X4_keepSlot_4 (x1 : Int32) (I : xI) (J : xJ) : Option (Int32 × xI × xJ) := (f_X5_copyFrom_12_1 I J).bind fun o => f_X4_keepSlot_7 x1 o.2.1 o.2.2
def f_X4_keepSlot_5 (x1 : Int32) (I : xI) (J : xJ) : Option (Int32 × xI × xJ) := (f_X5_copyFrom_16_1 I J).bind fun o => f_X4_keepSlot_7 x1 o.2.1 o.2.2
def f_X4_keepSlot_6 (x1 : Int32) (I : xI) (J : xJ) : Option (Int32 × xI × xJ) := (f_X5_copyFrom_20_1 I J).bind fun o => f_X4_keepSlot_7 x1 o.2.1 o.2.2
def f_X4_keepSlot_3 (x1 : Int32) (I : xI) (J : xJ) : Option (Int32 × xI × xJ) := if x1 = 0 then f_X4_keepSlot_4 x1 I J else if x1 = 1 then f_X4_keepSlot_5 x1 I J else if x1 = 2 then f_X4_keepSlot_6 x1 I J else none
def f_X4_keepSlot_1 (x1 : Int32) (I : xI) (J : xJ) : Option (Int32 × xI × xJ) := if x1 < 3 then f_X4_keepSlot_3 x1 I J else f_X4_keepSlot_2 x1 I J
def f_X4_keepSlot_0 (x1 : Int32) (I : xI) (J : xJ) : Option (Int32 × xI × xJ) := if x1 < 0 then f_X4_keepSlot_2 x1 I J else f_X4_keepSlot_1 x1 I J
def f_X4_keepSlot (x1 : Int32) (I : xI) (J : xJ) : Option (Int32 × xI × xJ) := f_X4_keepSlot_0 x1 I J
theorem p_X4_keepSlot_2 {L : Nat} {xs : Nat → Int32} {d : Nat} {Q : xO → Prop} (x1 : Int32) (I : xI) (J : xJ) {t : Int32 × xI × xJ} (h : f_X4_keepSlot_2 x1 I J = some t) (hC : (c_X4_keepSlot Q) t) : Rn L xs (d + 2) 45 9 [some (.ref 5), some (.int x1)] [] 94 (I, J, xrf) Q := by
  unfold f_X4_keepSlot_2 at h
  cases h
  exact Rn.ret 2 (o := ((some (.int 0)), 94, (I, J, xrf))) (fun f => rfl) hC
theorem p_X4_keepSlot_7 {L : Nat} {xs : Nat → Int32} {d : Nat} {Q : xO → Prop} (x1 : Int32) (I : xI) (J : xJ) {t : Int32 × xI × xJ} (h : f_X4_keepSlot_7 x1 I J = some t) (hC : (c_X4_keepSlot Q) t) : Rn L xs (d + 2) 45 24 [some (.ref 5), some (.int x1)] [] 94 (I, J, xrf) Q := by
  unfold f_X4_keepSlot_7 at h
  obtain ⟨hc, h⟩ := xif h
  refine Rn.ok 5 (c := x1 < 0 ∨ 3 ≤ x1.toNatClampNeg) (p1 := 31) (l1 := [some (.ref 5), some (.int x1)]) (s1 := []) (n1 := 94) (M1 := ((xup I 11 x1.toNatClampNeg 1), J, xrf)) (fun f => rfl) hc ?_
  cases h
  exact Rn.ret 2 (o := ((some (.int 1)), 94, ((xup I 11 x1.toNatClampNeg 1), J, xrf))) (fun f => rfl) hC
theorem p_X4_keepSlot_4 {L : Nat} {xs : Nat → Int32} {d : Nat} {Q : xO → Prop} (x1 : Int32) (I : xI) (J : xJ) {t : Int32 × xI × xJ} (h : f_X4_keepSlot_4 x1 I J = some t) (hC : (c_X4_keepSlot Q) t) : Rn L xs (d + 2) 45 17 [some (.ref 5), some (.int x1)] [.ref 12] 94 (I, J, xrf) Q := by
  unfold f_X4_keepSlot_4 at h
  refine Rn.go 2 (j' := 45) (pc' := 21) (ls' := [some (.ref 5), some (.int x1)]) (st' := [.ref 1, .ref 12]) (n' := 94) (M' := (I, J, xrf)) (fun f => rfl) ?_
  obtain ⟨o, ho, h⟩ := Option.bind_eq_some_iff.mp h
  refine Rn.call (d1 := d + 1) (j1 := 50) (ls1 := [some (.ref 12), some (.ref 1)]) (rest := []) (fun f => rfl) ?_
  refine p_X5_copyFrom_12_1 (d := d + 0) I J (t := o) ho ?_
  exact p_X4_keepSlot_7 x1 o.2.1 o.2.2 h hC
theorem p_X4_keepSlot_5 {L : Nat} {xs : Nat → Int32} {d : Nat} {Q : xO → Prop} (x1 : Int32) (I : xI) (J : xJ) {t : Int32 × xI × xJ} (h : f_X4_keepSlot_5 x1 I J = some t) (hC : (c_X4_keepSlot Q) t) : Rn L xs (d + 2) 45 17 [some (.ref 5), some (.int x1)] [.ref 16] 94 (I, J, xrf) Q := by
  unfold f_X4_keepSlot_5 at h
  refine Rn.go 2 (j' := 45) (pc' := 21) (ls' := [some (.ref 5), some (.int x1)]) (st' := [.ref 1, .ref 16]) (n' := 94) (M' := (I, J, xrf)) (fun f => rfl) ?_
  obtain ⟨o, ho, h⟩ := Option.bind_eq_some_iff.mp h
  refine Rn.call (d1 := d + 1) (j1 := 50) (ls1 := [some (.ref 16), some (.ref 1)]) (rest := []) (fun f => rfl) ?_
  refine p_X5_copyFrom_16_1 (d := d + 0) I J (t := o) ho ?_
  exact p_X4_keepSlot_7 x1 o.2.1 o.2.2 h hC
theorem p_X4_keepSlot_6 {L : Nat} {xs : Nat → Int32} {d : Nat} {Q : xO → Prop} (x1 : Int32) (I : xI) (J : xJ) {t : Int32 × xI × xJ} (h : f_X4_keepSlot_6 x1 I J = some t) (hC : (c_X4_keepSlot Q) t) : Rn L xs (d + 2) 45 17 [some (.ref 5), some (.int x1)] [.ref 20] 94 (I, J, xrf) Q := by
  unfold f_X4_keepSlot_6 at h
  refine Rn.go 2 (j' := 45) (pc' := 21) (ls' := [some (.ref 5), some (.int x1)]) (st' := [.ref 1, .ref 20]) (n' := 94) (M' := (I, J, xrf)) (fun f => rfl) ?_
  obtain ⟨o, ho, h⟩ := Option.bind_eq_some_iff.mp h
  refine Rn.call (d1 := d + 1) (j1 := 50) (ls1 := [some (.ref 20), some (.ref 1)]) (rest := []) (fun f => rfl) ?_
  refine p_X5_copyFrom_20_1 (d := d + 0) I J (t := o) ho ?_
  exact p_X4_keepSlot_7 x1 o.2.1 o.2.2 h hC
theorem p_X4_keepSlot_3 {L : Nat} {xs : Nat → Int32} {d : Nat} {Q : xO → Prop} (x1 : Int32) (I : xI) (J : xJ) {t : Int32 × xI × xJ} (h : f_X4_keepSlot_3 x1 I J = some t) (hC : (c_X4_keepSlot Q) t) : Rn L xs (d + 2) 45 11 [some (.ref 5), some (.int x1)] [] 94 (I, J, xrf) Q := by
  unfold f_X4_keepSlot_3 at h
  by_cases hc0 : x1 = 0
  · rw [if_pos hc0] at h; subst hc0
    refine Rn.go 4 (j' := 45) (pc' := 17) (ls' := [some (.ref 5), some (.int 0)]) (st' := [.ref 12]) (n' := 94) (M' := (I, J, xrf)) (fun f => rfl) ?_
    exact p_X4_keepSlot_4 0 I J h hC
  rw [if_neg hc0] at h
  by_cases hc1 : x1 = 1
  · rw [if_pos hc1] at h; subst hc1
    refine Rn.go 4 (j' := 45) (pc' := 17) (ls' := [some (.ref 5), some (.int 1)]) (st' := [.ref 16]) (n' := 94) (M' := (I, J, xrf)) (fun f => rfl) ?_
    exact p_X4_keepSlot_5 1 I J h hC
  rw [if_neg hc1] at h
  by_cases hc2 : x1 = 2
  · rw [if_pos hc2] at h; subst hc2
    refine Rn.go 4 (j' := 45) (pc' := 17) (ls' := [some (.ref 5), some (.int 2)]) (st' := [.ref 20]) (n' := 94) (M' := (I, J, xrf)) (fun f => rfl) ?_
    exact p_X4_keepSlot_6 2 I J h hC
  rw [if_neg hc2] at h
  exact absurd h (by simp)
theorem p_X4_keepSlot_1 {L : Nat} {xs : Nat → Int32} {d : Nat} {Q : xO → Prop} (x1 : Int32) (I : xI) (J : xJ) {t : Int32 × xI × xJ} (h : f_X4_keepSlot_1 x1 I J = some t) (hC : (c_X4_keepSlot Q) t) : Rn L xs (d + 2) 45 4 [some (.ref 5), some (.int x1)] [] 94 (I, J, xrf) Q := by
  unfold f_X4_keepSlot_1 at h
  refine Rn.fi 3 (c := x1 < 3) (p1 := 11) (l1 := [some (.ref 5), some (.int x1)]) (s1 := []) (n1 := 94) (M1 := (I, J, xrf)) (p2 := 9) (l2 := [some (.ref 5), some (.int x1)]) (s2 := []) (n2 := 94) (M2 := (I, J, xrf)) (fun f => rfl) (fun hc => ?_) (fun hc => ?_)
  · rw [if_pos hc] at h
    exact p_X4_keepSlot_3 x1 I J h hC
  · rw [if_neg hc] at h
    exact p_X4_keepSlot_2 x1 I J h hC
theorem p_X4_keepSlot_0 {L : Nat} {xs : Nat → Int32} {d : Nat} {Q : xO → Prop} (x1 : Int32) (I : xI) (J : xJ) {t : Int32 × xI × xJ} (h : f_X4_keepSlot_0 x1 I J = some t) (hC : (c_X4_keepSlot Q) t) : Rn L xs (d + 2) 45 0 [some (.ref 5), some (.int x1)] [] 94 (I, J, xrf) Q := by
  unfold f_X4_keepSlot_0 at h
  refine Rn.fi 2 (c := x1 < 0) (p1 := 9) (l1 := [some (.ref 5), some (.int x1)]) (s1 := []) (n1 := 94) (M1 := (I, J, xrf)) (p2 := 4) (l2 := [some (.ref 5), some (.int x1)]) (s2 := []) (n2 := 94) (M2 := (I, J, xrf)) (fun f => rfl) (fun hc => ?_) (fun hc => ?_)
  · rw [if_pos hc] at h
    exact p_X4_keepSlot_2 x1 I J h hC
  · rw [if_neg hc] at h
    exact p_X4_keepSlot_1 x1 I J h hC
theorem p_X4_keepSlot {L : Nat} {xs : Nat → Int32} {d : Nat} {Q : xO → Prop} (x1 : Int32) (I : xI) (J : xJ) {t : Int32 × xI × xJ} (h : f_X4_keepSlot x1 I J = some t) (hC : Q ((some (.int t.1)), 94, (t.2.1, t.2.2, xrf))) : Rn L xs (d + 2) 45 0 [some (.ref 5), some (.int x1)] [] 94 (I, J, xrf) Q := p_X4_keepSlot_0 x1 I J h hC
/-! X11_hold -/
def c_X11_hold (Q : xO → Prop) (t : Int32 × xI × xJ) : Prop := Q ((some (.int t.1)), 94, (t.2.1, t.2.2, xrf))
def f_X11_hold_1 (x1 : Int32) (s0 : Int32) (I : xI) (J : xJ) : Option (Int32 × xI × xJ) := if s0 = 0 ∨ s0 = 1 then some (s0, I, J) else none
def f_X11_hold_0 (x1 : Int32) (I : xI) (J : xJ) : Option (Int32 × xI × xJ) := (f_X4_keepSlot x1 I J).bind fun o => f_X11_hold_1 x1 o.1 o.2.1 o.2.2
def f_X11_hold (x1 : Int32) (I : xI) (J : xJ) : Option (Int32 × xI × xJ) := f_X11_hold_0 x1 I J
theorem p_X11_hold_1 {L : Nat} {xs : Nat → Int32} {d : Nat} {Q : xO → Prop} (x1 : Int32) (s0 : Int32) (I : xI) (J : xJ) {t : Int32 × xI × xJ} (h : f_X11_hold_1 x1 s0 I J = some t) (hC : (c_X11_hold Q) t) : Rn L xs (d + 3) 173 8 [some (.ref 0), some (.int x1)] [.int s0] 94 (I, J, xrf) Q := by
  unfold f_X11_hold_1 at h
  obtain ⟨hc, h⟩ := xifT h
  cases h
  exact Rn.retT 1 (c := s0 = 0 ∨ s0 = 1) (o := ((some (.int s0)), 94, (I, J, xrf))) (fun f => rfl) hc hC
theorem p_X11_hold_0 {L : Nat} {xs : Nat → Int32} {d : Nat} {Q : xO → Prop} (x1 : Int32) (I : xI) (J : xJ) {t : Int32 × xI × xJ} (h : f_X11_hold_0 x1 I J = some t) (hC : (c_X11_hold Q) t) : Rn L xs (d + 3) 173 0 [some (.ref 0), some (.int x1)] [] 94 (I, J, xrf) Q := by
  unfold f_X11_hold_0 at h
  refine Rn.go 3 (j' := 173) (pc' := 5) (ls' := [some (.ref 0), some (.int x1)]) (st' := [.int x1, .ref 5]) (n' := 94) (M' := (I, J, xrf)) (fun f => rfl) ?_
  obtain ⟨o, ho, h⟩ := Option.bind_eq_some_iff.mp h
  refine Rn.call (d1 := d + 2) (j1 := 45) (ls1 := [some (.ref 5), some (.int x1)]) (rest := []) (fun f => rfl) ?_
  refine p_X4_keepSlot (d := d + 0) x1 I J (t := o) ho ?_
  exact p_X11_hold_1 x1 o.1 o.2.1 o.2.2 h hC
theorem p_X11_hold {L : Nat} {xs : Nat → Int32} {d : Nat} {Q : xO → Prop} (x1 : Int32) (I : xI) (J : xJ) {t : Int32 × xI × xJ} (h : f_X11_hold x1 I J = some t) (hC : Q ((some (.int t.1)), 94, (t.2.1, t.2.2, xrf))) : Rn L xs (d + 3) 173 0 [some (.ref 0), some (.int x1)] [] 94 (I, J, xrf) Q := p_X11_hold_0 x1 I J h hC
/-! X5_copyFrom_20 -/
def c_X5_copyFrom_20 (Q : xO → Prop) (t : Unit × xI × xJ) : Prop := Q (none, 94, (t.2.1, t.2.2, xrf))
def f_X5_copyFrom_20_0 (I : xI) (J : xJ) : Option (Unit × xI × xJ) := some ((), (xup ((xcp ((xcp ((xcp ((xup ((xup I 1 0 ((I 20 0)))) 1 1 ((((xup I 1 0 ((I 20 0)))) 20 1)))) 21 2 0 0 24)) 22 3 0 0 24)) 23 4 0 0 6)) 1 2 (((((xcp ((xcp ((xcp ((xup ((xup I 1 0 ((I 20 0)))) 1 1 ((((xup I 1 0 ((I 20 0)))) 20 1)))) 21 2 0 0 24)) 22 3 0 0 24)) 23 4 0 0 6)) 1 2) + 1))), J)
def f_X5_copyFrom_20 (I : xI) (J : xJ) : Option (Unit × xI × xJ) := f_X5_copyFrom_20_0 I J
theorem p_X5_copyFrom_20_0 {L : Nat} {xs : Nat → Int32} {d : Nat} {Q : xO → Prop} (I : xI) (J : xJ) {t : Unit × xI × xJ} (h : f_X5_copyFrom_20_0 I J = some t) (hC : (c_X5_copyFrom_20 Q) t) : Rn L xs (d + 1) 50 0 [some (.ref 1), some (.ref 20)] [] 94 (I, J, xrf) Q := by
  unfold f_X5_copyFrom_20_0 at h
  refine Rn.go 18 (j' := 50) (pc' := 34) (ls' := [some (.ref 1), some (.ref 20)]) (st' := []) (n' := 94) (M' := ((xcp ((xup ((xup I 1 0 ((I 20 0)))) 1 1 ((((xup I 1 0 ((I 20 0)))) 20 1)))) 21 2 0 0 24), J, xrf)) (fun f => rfl) ?_
  refine Rn.go 10 (j' := 50) (pc' := 52) (ls' := [some (.ref 1), some (.ref 20)]) (st' := []) (n' := 94) (M' := ((xcp ((xcp ((xup ((xup I 1 0 ((I 20 0)))) 1 1 ((((xup I 1 0 ((I 20 0)))) 20 1)))) 21 2 0 0 24)) 22 3 0 0 24), J, xrf)) (fun f => rfl) ?_
  refine Rn.go 10 (j' := 50) (pc' := 70) (ls' := [some (.ref 1), some (.ref 20)]) (st' := []) (n' := 94) (M' := ((xcp ((xcp ((xcp ((xup ((xup I 1 0 ((I 20 0)))) 1 1 ((((xup I 1 0 ((I 20 0)))) 20 1)))) 21 2 0 0 24)) 22 3 0 0 24)) 23 4 0 0 6), J, xrf)) (fun f => rfl) ?_
  cases h
  exact Rn.ret 7 (o := (none, 94, ((xup ((xcp ((xcp ((xcp ((xup ((xup I 1 0 ((I 20 0)))) 1 1 ((((xup I 1 0 ((I 20 0)))) 20 1)))) 21 2 0 0 24)) 22 3 0 0 24)) 23 4 0 0 6)) 1 2 (((((xcp ((xcp ((xcp ((xup ((xup I 1 0 ((I 20 0)))) 1 1 ((((xup I 1 0 ((I 20 0)))) 20 1)))) 21 2 0 0 24)) 22 3 0 0 24)) 23 4 0 0 6)) 1 2) + 1))), J, xrf))) (fun f => rfl) hC
theorem p_X5_copyFrom_20 {L : Nat} {xs : Nat → Int32} {d : Nat} {Q : xO → Prop} (I : xI) (J : xJ) {t : Unit × xI × xJ} (h : f_X5_copyFrom_20 I J = some t) (hC : Q (none, 94, (t.2.1, t.2.2, xrf))) : Rn L xs (d + 1) 50 0 [some (.ref 1), some (.ref 20)] [] 94 (I, J, xrf) Q := p_X5_copyFrom_20_0 I J h hC
/-! X5_copyFrom_16 -/
def c_X5_copyFrom_16 (Q : xO → Prop) (t : Unit × xI × xJ) : Prop := Q (none, 94, (t.2.1, t.2.2, xrf))
def f_X5_copyFrom_16_0 (I : xI) (J : xJ) : Option (Unit × xI × xJ) := some ((), (xup ((xcp ((xcp ((xcp ((xup ((xup I 1 0 ((I 16 0)))) 1 1 ((((xup I 1 0 ((I 16 0)))) 16 1)))) 17 2 0 0 24)) 18 3 0 0 24)) 19 4 0 0 6)) 1 2 (((((xcp ((xcp ((xcp ((xup ((xup I 1 0 ((I 16 0)))) 1 1 ((((xup I 1 0 ((I 16 0)))) 16 1)))) 17 2 0 0 24)) 18 3 0 0 24)) 19 4 0 0 6)) 1 2) + 1))), J)
def f_X5_copyFrom_16 (I : xI) (J : xJ) : Option (Unit × xI × xJ) := f_X5_copyFrom_16_0 I J
theorem p_X5_copyFrom_16_0 {L : Nat} {xs : Nat → Int32} {d : Nat} {Q : xO → Prop} (I : xI) (J : xJ) {t : Unit × xI × xJ} (h : f_X5_copyFrom_16_0 I J = some t) (hC : (c_X5_copyFrom_16 Q) t) : Rn L xs (d + 1) 50 0 [some (.ref 1), some (.ref 16)] [] 94 (I, J, xrf) Q := by
  unfold f_X5_copyFrom_16_0 at h
  refine Rn.go 18 (j' := 50) (pc' := 34) (ls' := [some (.ref 1), some (.ref 16)]) (st' := []) (n' := 94) (M' := ((xcp ((xup ((xup I 1 0 ((I 16 0)))) 1 1 ((((xup I 1 0 ((I 16 0)))) 16 1)))) 17 2 0 0 24), J, xrf)) (fun f => rfl) ?_
  refine Rn.go 10 (j' := 50) (pc' := 52) (ls' := [some (.ref 1), some (.ref 16)]) (st' := []) (n' := 94) (M' := ((xcp ((xcp ((xup ((xup I 1 0 ((I 16 0)))) 1 1 ((((xup I 1 0 ((I 16 0)))) 16 1)))) 17 2 0 0 24)) 18 3 0 0 24), J, xrf)) (fun f => rfl) ?_
  refine Rn.go 10 (j' := 50) (pc' := 70) (ls' := [some (.ref 1), some (.ref 16)]) (st' := []) (n' := 94) (M' := ((xcp ((xcp ((xcp ((xup ((xup I 1 0 ((I 16 0)))) 1 1 ((((xup I 1 0 ((I 16 0)))) 16 1)))) 17 2 0 0 24)) 18 3 0 0 24)) 19 4 0 0 6), J, xrf)) (fun f => rfl) ?_
  cases h
  exact Rn.ret 7 (o := (none, 94, ((xup ((xcp ((xcp ((xcp ((xup ((xup I 1 0 ((I 16 0)))) 1 1 ((((xup I 1 0 ((I 16 0)))) 16 1)))) 17 2 0 0 24)) 18 3 0 0 24)) 19 4 0 0 6)) 1 2 (((((xcp ((xcp ((xcp ((xup ((xup I 1 0 ((I 16 0)))) 1 1 ((((xup I 1 0 ((I 16 0)))) 16 1)))) 17 2 0 0 24)) 18 3 0 0 24)) 19 4 0 0 6)) 1 2) + 1))), J, xrf))) (fun f => rfl) hC
theorem p_X5_copyFrom_16 {L : Nat} {xs : Nat → Int32} {d : Nat} {Q : xO → Prop} (I : xI) (J : xJ) {t : Unit × xI × xJ} (h : f_X5_copyFrom_16 I J = some t) (hC : Q (none, 94, (t.2.1, t.2.2, xrf))) : Rn L xs (d + 1) 50 0 [some (.ref 1), some (.ref 16)] [] 94 (I, J, xrf) Q := p_X5_copyFrom_16_0 I J h hC
/-! X5_copyFrom_12 -/
def c_X5_copyFrom_12 (Q : xO → Prop) (t : Unit × xI × xJ) : Prop := Q (none, 94, (t.2.1, t.2.2, xrf))
def f_X5_copyFrom_12_0 (I : xI) (J : xJ) : Option (Unit × xI × xJ) := some ((), (xup ((xcp ((xcp ((xcp ((xup ((xup I 1 0 ((I 12 0)))) 1 1 ((((xup I 1 0 ((I 12 0)))) 12 1)))) 13 2 0 0 24)) 14 3 0 0 24)) 15 4 0 0 6)) 1 2 (((((xcp ((xcp ((xcp ((xup ((xup I 1 0 ((I 12 0)))) 1 1 ((((xup I 1 0 ((I 12 0)))) 12 1)))) 13 2 0 0 24)) 14 3 0 0 24)) 15 4 0 0 6)) 1 2) + 1))), J)
def f_X5_copyFrom_12 (I : xI) (J : xJ) : Option (Unit × xI × xJ) := f_X5_copyFrom_12_0 I J
theorem p_X5_copyFrom_12_0 {L : Nat} {xs : Nat → Int32} {d : Nat} {Q : xO → Prop} (I : xI) (J : xJ) {t : Unit × xI × xJ} (h : f_X5_copyFrom_12_0 I J = some t) (hC : (c_X5_copyFrom_12 Q) t) : Rn L xs (d + 1) 50 0 [some (.ref 1), some (.ref 12)] [] 94 (I, J, xrf) Q := by
  unfold f_X5_copyFrom_12_0 at h
  refine Rn.go 18 (j' := 50) (pc' := 34) (ls' := [some (.ref 1), some (.ref 12)]) (st' := []) (n' := 94) (M' := ((xcp ((xup ((xup I 1 0 ((I 12 0)))) 1 1 ((((xup I 1 0 ((I 12 0)))) 12 1)))) 13 2 0 0 24), J, xrf)) (fun f => rfl) ?_
  refine Rn.go 10 (j' := 50) (pc' := 52) (ls' := [some (.ref 1), some (.ref 12)]) (st' := []) (n' := 94) (M' := ((xcp ((xcp ((xup ((xup I 1 0 ((I 12 0)))) 1 1 ((((xup I 1 0 ((I 12 0)))) 12 1)))) 13 2 0 0 24)) 14 3 0 0 24), J, xrf)) (fun f => rfl) ?_
  refine Rn.go 10 (j' := 50) (pc' := 70) (ls' := [some (.ref 1), some (.ref 12)]) (st' := []) (n' := 94) (M' := ((xcp ((xcp ((xcp ((xup ((xup I 1 0 ((I 12 0)))) 1 1 ((((xup I 1 0 ((I 12 0)))) 12 1)))) 13 2 0 0 24)) 14 3 0 0 24)) 15 4 0 0 6), J, xrf)) (fun f => rfl) ?_
  cases h
  exact Rn.ret 7 (o := (none, 94, ((xup ((xcp ((xcp ((xcp ((xup ((xup I 1 0 ((I 12 0)))) 1 1 ((((xup I 1 0 ((I 12 0)))) 12 1)))) 13 2 0 0 24)) 14 3 0 0 24)) 15 4 0 0 6)) 1 2 (((((xcp ((xcp ((xcp ((xup ((xup I 1 0 ((I 12 0)))) 1 1 ((((xup I 1 0 ((I 12 0)))) 12 1)))) 13 2 0 0 24)) 14 3 0 0 24)) 15 4 0 0 6)) 1 2) + 1))), J, xrf))) (fun f => rfl) hC
theorem p_X5_copyFrom_12 {L : Nat} {xs : Nat → Int32} {d : Nat} {Q : xO → Prop} (I : xI) (J : xJ) {t : Unit × xI × xJ} (h : f_X5_copyFrom_12 I J = some t) (hC : Q (none, 94, (t.2.1, t.2.2, xrf))) : Rn L xs (d + 1) 50 0 [some (.ref 1), some (.ref 12)] [] 94 (I, J, xrf) Q := p_X5_copyFrom_12_0 I J h hC
/-! X4_takeSlot -/
def c_X4_takeSlot (Q : xO → Prop) (t : Int32 × xI × xJ) : Prop := Q ((some (.int t.1)), 94, (t.2.1, t.2.2, xrf))
def f_X4_takeSlot_3 (x1 : Int32) (I : xI) (J : xJ) : Option (Int32 × xI × xJ) := some (0, I, J)
def f_X4_takeSlot_9 (x1 : Int32) (I : xI) (J : xJ) : Option (Int32 × xI × xJ) := some (1, I, J)
def f_X4_takeSlot_8 (x1 : Int32) (I : xI) (J : xJ) : Option (Int32 × xI × xJ) := (f_X4_forgetDeeds I J).bind fun o => f_X4_takeSlot_9 x1 o.2.1 o.2.2
def f_X4_takeSlot_5 (x1 : Int32) (I : xI) (J : xJ) : Option (Int32 × xI × xJ) := (f_X5_copyFrom_12 I J).bind fun o => f_X4_takeSlot_8 x1 o.2.1 o.2.2
def f_X4_takeSlot_6 (x1 : Int32) (I : xI) (J : xJ) : Option (Int32 × xI × xJ) := (f_X5_copyFrom_16 I J).bind fun o => f_X4_takeSlot_8 x1 o.2.1 o.2.2
def f_X4_takeSlot_7 (x1 : Int32) (I : xI) (J : xJ) : Option (Int32 × xI × xJ) := (f_X5_copyFrom_20 I J).bind fun o => f_X4_takeSlot_8 x1 o.2.1 o.2.2
def f_X4_takeSlot_4 (x1 : Int32) (I : xI) (J : xJ) : Option (Int32 × xI × xJ) := if x1 = 0 then f_X4_takeSlot_5 x1 I J else if x1 = 1 then f_X4_takeSlot_6 x1 I J else if x1 = 2 then f_X4_takeSlot_7 x1 I J else none
def f_X4_takeSlot_2 (x1 : Int32) (I : xI) (J : xJ) : Option (Int32 × xI × xJ) := if x1 < 0 ∨ 3 ≤ x1.toNatClampNeg then none else if (I 11 x1.toNatClampNeg) = 0 then f_X4_takeSlot_3 x1 I J else f_X4_takeSlot_4 x1 I J
def f_X4_takeSlot_1 (x1 : Int32) (I : xI) (J : xJ) : Option (Int32 × xI × xJ) := if 3 ≤ x1 then f_X4_takeSlot_3 x1 I J else f_X4_takeSlot_2 x1 I J
def f_X4_takeSlot_0 (x1 : Int32) (I : xI) (J : xJ) : Option (Int32 × xI × xJ) := if x1 < 0 then f_X4_takeSlot_3 x1 I J else f_X4_takeSlot_1 x1 I J
def f_X4_takeSlot (x1 : Int32) (I : xI) (J : xJ) : Option (Int32 × xI × xJ) := f_X4_takeSlot_0 x1 I J
theorem p_X4_takeSlot_3 {L : Nat} {xs : Nat → Int32} {d : Nat} {Q : xO → Prop} (x1 : Int32) (I : xI) (J : xJ) {t : Int32 × xI × xJ} (h : f_X4_takeSlot_3 x1 I J = some t) (hC : (c_X4_takeSlot Q) t) : Rn L xs (d + 2) 46 18 [some (.ref 5), some (.int x1)] [] 94 (I, J, xrf) Q := by
  unfold f_X4_takeSlot_3 at h
  cases h
  exact Rn.ret 2 (o := ((some (.int 0)), 94, (I, J, xrf))) (fun f => rfl) hC
theorem p_X4_takeSlot_9 {L : Nat} {xs : Nat → Int32} {d : Nat} {Q : xO → Prop} (x1 : Int32) (I : xI) (J : xJ) {t : Int32 × xI × xJ} (h : f_X4_takeSlot_9 x1 I J = some t) (hC : (c_X4_takeSlot Q) t) : Rn L xs (d + 2) 46 37 [some (.ref 5), some (.int x1)] [] 94 (I, J, xrf) Q := by
  unfold f_X4_takeSlot_9 at h
  cases h
  exact Rn.ret 2 (o := ((some (.int 1)), 94, (I, J, xrf))) (fun f => rfl) hC
theorem p_X4_takeSlot_8 {L : Nat} {xs : Nat → Int32} {d : Nat} {Q : xO → Prop} (x1 : Int32) (I : xI) (J : xJ) {t : Int32 × xI × xJ} (h : f_X4_takeSlot_8 x1 I J = some t) (hC : (c_X4_takeSlot Q) t) : Rn L xs (d + 2) 46 33 [some (.ref 5), some (.int x1)] [] 94 (I, J, xrf) Q := by
  unfold f_X4_takeSlot_8 at h
  refine Rn.go 1 (j' := 46) (pc' := 34) (ls' := [some (.ref 5), some (.int x1)]) (st' := [.ref 5]) (n' := 94) (M' := (I, J, xrf)) (fun f => rfl) ?_
  obtain ⟨o, ho, h⟩ := Option.bind_eq_some_iff.mp h
  refine Rn.call (d1 := d + 1) (j1 := 43) (ls1 := [some (.ref 5)]) (rest := []) (fun f => rfl) ?_
  refine p_X4_forgetDeeds (d := d + 0) I J (t := o) ho ?_
  exact p_X4_takeSlot_9 x1 o.2.1 o.2.2 h hC
theorem p_X4_takeSlot_5 {L : Nat} {xs : Nat → Int32} {d : Nat} {Q : xO → Prop} (x1 : Int32) (I : xI) (J : xJ) {t : Int32 × xI × xJ} (h : f_X4_takeSlot_5 x1 I J = some t) (hC : (c_X4_takeSlot Q) t) : Rn L xs (d + 2) 46 30 [some (.ref 5), some (.int x1)] [.ref 12, .ref 1] 94 (I, J, xrf) Q := by
  unfold f_X4_takeSlot_5 at h
  obtain ⟨o, ho, h⟩ := Option.bind_eq_some_iff.mp h
  refine Rn.call (d1 := d + 1) (j1 := 50) (ls1 := [some (.ref 1), some (.ref 12)]) (rest := []) (fun f => rfl) ?_
  refine p_X5_copyFrom_12 (d := d + 0) I J (t := o) ho ?_
  exact p_X4_takeSlot_8 x1 o.2.1 o.2.2 h hC
theorem p_X4_takeSlot_6 {L : Nat} {xs : Nat → Int32} {d : Nat} {Q : xO → Prop} (x1 : Int32) (I : xI) (J : xJ) {t : Int32 × xI × xJ} (h : f_X4_takeSlot_6 x1 I J = some t) (hC : (c_X4_takeSlot Q) t) : Rn L xs (d + 2) 46 30 [some (.ref 5), some (.int x1)] [.ref 16, .ref 1] 94 (I, J, xrf) Q := by
  unfold f_X4_takeSlot_6 at h
  obtain ⟨o, ho, h⟩ := Option.bind_eq_some_iff.mp h
  refine Rn.call (d1 := d + 1) (j1 := 50) (ls1 := [some (.ref 1), some (.ref 16)]) (rest := []) (fun f => rfl) ?_
  refine p_X5_copyFrom_16 (d := d + 0) I J (t := o) ho ?_
  exact p_X4_takeSlot_8 x1 o.2.1 o.2.2 h hC
theorem p_X4_takeSlot_7 {L : Nat} {xs : Nat → Int32} {d : Nat} {Q : xO → Prop} (x1 : Int32) (I : xI) (J : xJ) {t : Int32 × xI × xJ} (h : f_X4_takeSlot_7 x1 I J = some t) (hC : (c_X4_takeSlot Q) t) : Rn L xs (d + 2) 46 30 [some (.ref 5), some (.int x1)] [.ref 20, .ref 1] 94 (I, J, xrf) Q := by
  unfold f_X4_takeSlot_7 at h
  obtain ⟨o, ho, h⟩ := Option.bind_eq_some_iff.mp h
  refine Rn.call (d1 := d + 1) (j1 := 50) (ls1 := [some (.ref 1), some (.ref 20)]) (rest := []) (fun f => rfl) ?_
  refine p_X5_copyFrom_20 (d := d + 0) I J (t := o) ho ?_
  exact p_X4_takeSlot_8 x1 o.2.1 o.2.2 h hC
theorem p_X4_takeSlot_4 {L : Nat} {xs : Nat → Int32} {d : Nat} {Q : xO → Prop} (x1 : Int32) (I : xI) (J : xJ) {t : Int32 × xI × xJ} (h : f_X4_takeSlot_4 x1 I J = some t) (hC : (c_X4_takeSlot Q) t) : Rn L xs (d + 2) 46 20 [some (.ref 5), some (.int x1)] [] 94 (I, J, xrf) Q := by
  unfold f_X4_takeSlot_4 at h
  by_cases hc0 : x1 = 0
  · rw [if_pos hc0] at h; subst hc0
    refine Rn.go 6 (j' := 46) (pc' := 30) (ls' := [some (.ref 5), some (.int 0)]) (st' := [.ref 12, .ref 1]) (n' := 94) (M' := (I, J, xrf)) (fun f => rfl) ?_
    exact p_X4_takeSlot_5 0 I J h hC
  rw [if_neg hc0] at h
  by_cases hc1 : x1 = 1
  · rw [if_pos hc1] at h; subst hc1
    refine Rn.go 6 (j' := 46) (pc' := 30) (ls' := [some (.ref 5), some (.int 1)]) (st' := [.ref 16, .ref 1]) (n' := 94) (M' := (I, J, xrf)) (fun f => rfl) ?_
    exact p_X4_takeSlot_6 1 I J h hC
  rw [if_neg hc1] at h
  by_cases hc2 : x1 = 2
  · rw [if_pos hc2] at h; subst hc2
    refine Rn.go 6 (j' := 46) (pc' := 30) (ls' := [some (.ref 5), some (.int 2)]) (st' := [.ref 20, .ref 1]) (n' := 94) (M' := (I, J, xrf)) (fun f => rfl) ?_
    exact p_X4_takeSlot_7 2 I J h hC
  rw [if_neg hc2] at h
  exact absurd h (by simp)
theorem p_X4_takeSlot_2 {L : Nat} {xs : Nat → Int32} {d : Nat} {Q : xO → Prop} (x1 : Int32) (I : xI) (J : xJ) {t : Int32 × xI × xJ} (h : f_X4_takeSlot_2 x1 I J = some t) (hC : (c_X4_takeSlot Q) t) : Rn L xs (d + 2) 46 9 [some (.ref 5), some (.int x1)] [] 94 (I, J, xrf) Q := by
  unfold f_X4_takeSlot_2 at h
  obtain ⟨hc, h⟩ := xif h
  refine Rn.ok 4 (c := x1 < 0 ∨ 3 ≤ x1.toNatClampNeg) (p1 := 15) (l1 := [some (.ref 5), some (.int x1)]) (s1 := [.int ((I 11 x1.toNatClampNeg))]) (n1 := 94) (M1 := (I, J, xrf)) (fun f => rfl) hc ?_
  refine Rn.fi 1 (c := (I 11 x1.toNatClampNeg) = 0) (p1 := 18) (l1 := [some (.ref 5), some (.int x1)]) (s1 := []) (n1 := 94) (M1 := (I, J, xrf)) (p2 := 20) (l2 := [some (.ref 5), some (.int x1)]) (s2 := []) (n2 := 94) (M2 := (I, J, xrf)) (fun f => rfl) (fun hc => ?_) (fun hc => ?_)
  · rw [if_pos hc] at h
    exact p_X4_takeSlot_3 x1 I J h hC
  · rw [if_neg hc] at h
    exact p_X4_takeSlot_4 x1 I J h hC
theorem p_X4_takeSlot_1 {L : Nat} {xs : Nat → Int32} {d : Nat} {Q : xO → Prop} (x1 : Int32) (I : xI) (J : xJ) {t : Int32 × xI × xJ} (h : f_X4_takeSlot_1 x1 I J = some t) (hC : (c_X4_takeSlot Q) t) : Rn L xs (d + 2) 46 4 [some (.ref 5), some (.int x1)] [] 94 (I, J, xrf) Q := by
  unfold f_X4_takeSlot_1 at h
  refine Rn.fi 3 (c := 3 ≤ x1) (p1 := 18) (l1 := [some (.ref 5), some (.int x1)]) (s1 := []) (n1 := 94) (M1 := (I, J, xrf)) (p2 := 9) (l2 := [some (.ref 5), some (.int x1)]) (s2 := []) (n2 := 94) (M2 := (I, J, xrf)) (fun f => rfl) (fun hc => ?_) (fun hc => ?_)
  · rw [if_pos hc] at h
    exact p_X4_takeSlot_3 x1 I J h hC
  · rw [if_neg hc] at h
    exact p_X4_takeSlot_2 x1 I J h hC
theorem p_X4_takeSlot_0 {L : Nat} {xs : Nat → Int32} {d : Nat} {Q : xO → Prop} (x1 : Int32) (I : xI) (J : xJ) {t : Int32 × xI × xJ} (h : f_X4_takeSlot_0 x1 I J = some t) (hC : (c_X4_takeSlot Q) t) : Rn L xs (d + 2) 46 0 [some (.ref 5), some (.int x1)] [] 94 (I, J, xrf) Q := by
  unfold f_X4_takeSlot_0 at h
  refine Rn.fi 2 (c := x1 < 0) (p1 := 18) (l1 := [some (.ref 5), some (.int x1)]) (s1 := []) (n1 := 94) (M1 := (I, J, xrf)) (p2 := 4) (l2 := [some (.ref 5), some (.int x1)]) (s2 := []) (n2 := 94) (M2 := (I, J, xrf)) (fun f => rfl) (fun hc => ?_) (fun hc => ?_)
  · rw [if_pos hc] at h
    exact p_X4_takeSlot_3 x1 I J h hC
  · rw [if_neg hc] at h
    exact p_X4_takeSlot_1 x1 I J h hC
theorem p_X4_takeSlot {L : Nat} {xs : Nat → Int32} {d : Nat} {Q : xO → Prop} (x1 : Int32) (I : xI) (J : xJ) {t : Int32 × xI × xJ} (h : f_X4_takeSlot x1 I J = some t) (hC : Q ((some (.int t.1)), 94, (t.2.1, t.2.2, xrf))) : Rn L xs (d + 2) 46 0 [some (.ref 5), some (.int x1)] [] 94 (I, J, xrf) Q := p_X4_takeSlot_0 x1 I J h hC
/-! X11_restore -/
def c_X11_restore (Q : xO → Prop) (t : Int32 × xI × xJ) : Prop := Q ((some (.int t.1)), 94, (t.2.1, t.2.2, xrf))
def f_X11_restore_1 (x1 : Int32) (s0 : Int32) (I : xI) (J : xJ) : Option (Int32 × xI × xJ) := if s0 = 0 ∨ s0 = 1 then some (s0, I, J) else none
def f_X11_restore_0 (x1 : Int32) (I : xI) (J : xJ) : Option (Int32 × xI × xJ) := (f_X4_takeSlot x1 I J).bind fun o => f_X11_restore_1 x1 o.1 o.2.1 o.2.2
def f_X11_restore (x1 : Int32) (I : xI) (J : xJ) : Option (Int32 × xI × xJ) := f_X11_restore_0 x1 I J
theorem p_X11_restore_1 {L : Nat} {xs : Nat → Int32} {d : Nat} {Q : xO → Prop} (x1 : Int32) (s0 : Int32) (I : xI) (J : xJ) {t : Int32 × xI × xJ} (h : f_X11_restore_1 x1 s0 I J = some t) (hC : (c_X11_restore Q) t) : Rn L xs (d + 3) 174 8 [some (.ref 0), some (.int x1)] [.int s0] 94 (I, J, xrf) Q := by
  unfold f_X11_restore_1 at h
  obtain ⟨hc, h⟩ := xifT h
  cases h
  exact Rn.retT 1 (c := s0 = 0 ∨ s0 = 1) (o := ((some (.int s0)), 94, (I, J, xrf))) (fun f => rfl) hc hC
theorem p_X11_restore_0 {L : Nat} {xs : Nat → Int32} {d : Nat} {Q : xO → Prop} (x1 : Int32) (I : xI) (J : xJ) {t : Int32 × xI × xJ} (h : f_X11_restore_0 x1 I J = some t) (hC : (c_X11_restore Q) t) : Rn L xs (d + 3) 174 0 [some (.ref 0), some (.int x1)] [] 94 (I, J, xrf) Q := by
  unfold f_X11_restore_0 at h
  refine Rn.go 3 (j' := 174) (pc' := 5) (ls' := [some (.ref 0), some (.int x1)]) (st' := [.int x1, .ref 5]) (n' := 94) (M' := (I, J, xrf)) (fun f => rfl) ?_
  obtain ⟨o, ho, h⟩ := Option.bind_eq_some_iff.mp h
  refine Rn.call (d1 := d + 2) (j1 := 46) (ls1 := [some (.ref 5), some (.int x1)]) (rest := []) (fun f => rfl) ?_
  refine p_X4_takeSlot (d := d + 0) x1 I J (t := o) ho ?_
  exact p_X11_restore_1 x1 o.1 o.2.1 o.2.2 h hC
theorem p_X11_restore {L : Nat} {xs : Nat → Int32} {d : Nat} {Q : xO → Prop} (x1 : Int32) (I : xI) (J : xJ) {t : Int32 × xI × xJ} (h : f_X11_restore x1 I J = some t) (hC : Q ((some (.int t.1)), 94, (t.2.1, t.2.2, xrf))) : Rn L xs (d + 3) 174 0 [some (.ref 0), some (.int x1)] [] 94 (I, J, xrf) Q := p_X11_restore_0 x1 I J h hC
/-! X7_leastBlocks -/
def c_X7_leastBlocks (Q : xO → Prop) (t : Int32 × xI × xJ) : Prop := Q ((some (.int t.1)), 94, (t.2.1, t.2.2, xrf))
def c_X7_leastBlocks_1 (L : Nat) (xs : Nat → Int32) (d : Nat) (Q : xO → Prop) (t : (Int32 × Int32 × (Option Value) × xI × xJ) ⊕ (Int32 × xI × xJ)) : Prop := match t with
  | .inl s => Rn L xs (d + 1) 104 5 [some (.ref 43), some (.int s.1), some (.int s.2.1), s.2.2.1] [] 94 (s.2.2.2.1, s.2.2.2.2, xrf) Q
  | .inr t => (c_X7_leastBlocks Q) t
def f_X7_leastBlocks_7 (x1 : Int32) (x2 : Int32) (z3 : Option Value) (I : xI) (J : xJ) : Option (Int32 × xI × xJ) := some (x1, I, J)
def f_X7_leastBlocks_6 (x1 : Int32) (x2 : Int32) (x3 : Int32) (I : xI) (J : xJ) : Option ((Int32 × Int32 × (Option Value) × xI × xJ) ⊕ (Int32 × xI × xJ)) := some (.inl (x1, ((x2 + 1)), (some (.int x3)), I, J))
def f_X7_leastBlocks_5 (x1 : Int32) (x2 : Int32) (x3 : Int32) (I : xI) (J : xJ) : Option ((Int32 × Int32 × (Option Value) × xI × xJ) ⊕ (Int32 × xI × xJ)) := f_X7_leastBlocks_6 x3 x2 x3 I J
def f_X7_leastBlocks_4 (x1 : Int32) (x2 : Int32) (x3 : Int32) (I : xI) (J : xJ) : Option ((Int32 × Int32 × (Option Value) × xI × xJ) ⊕ (Int32 × xI × xJ)) := if x1 ≤ x3 then f_X7_leastBlocks_6 x1 x2 x3 I J else f_X7_leastBlocks_5 x1 x2 x3 I J
def f_X7_leastBlocks_3 (x1 : Int32) (x2 : Int32) (x3 : Int32) (I : xI) (J : xJ) : Option ((Int32 × Int32 × (Option Value) × xI × xJ) ⊕ (Int32 × xI × xJ)) := if x1 = (-2) then f_X7_leastBlocks_5 x1 x2 x3 I J else f_X7_leastBlocks_4 x1 x2 x3 I J
def f_X7_leastBlocks_2 (x1 : Int32) (x2 : Int32) (z3 : Option Value) (I : xI) (J : xJ) : Option ((Int32 × Int32 × (Option Value) × xI × xJ) ⊕ (Int32 × xI × xJ)) := if x2 < 0 ∨ 203 ≤ x2.toNatClampNeg then none else if (I 47 x2.toNatClampNeg) < 0 ∨ 203 ≤ ((I 47 x2.toNatClampNeg)).toNatClampNeg then none else if (I 46 ((I 47 x2.toNatClampNeg)).toNatClampNeg) ≤ 1 then f_X7_leastBlocks_6 x1 x2 ((I 46 ((I 47 x2.toNatClampNeg)).toNatClampNeg)) I J else f_X7_leastBlocks_3 x1 x2 ((I 46 ((I 47 x2.toNatClampNeg)).toNatClampNeg)) I J
def b_X7_leastBlocks_1 (x1 : Int32) (x2 : Int32) (z3 : Option Value) (I : xI) (J : xJ) : Option ((Int32 × Int32 × (Option Value) × xI × xJ) ⊕ (Int32 × xI × xJ)) := if (I 43 8) ≤ x2 then ((f_X7_leastBlocks_7 x1 x2 z3 I J)).map .inr else f_X7_leastBlocks_2 x1 x2 z3 I J
def f_X7_leastBlocks_1 (x1 : Int32) (x2 : Int32) (z3 : Option Value) (I : xI) (J : xJ) : Option (Int32 × xI × xJ) := xloop (fun s : Int32 × Int32 × (Option Value) × xI × xJ => b_X7_leastBlocks_1 s.1 s.2.1 s.2.2.1 s.2.2.2.1 s.2.2.2.2) 5000 (x1, x2, z3, I, J)
def f_X7_leastBlocks_0 (I : xI) (J : xJ) : Option (Int32 × xI × xJ) := f_X7_leastBlocks_1 ((-2)) 0 none I J
def f_X7_leastBlocks (I : xI) (J : xJ) : Option (Int32 × xI × xJ) := f_X7_leastBlocks_0 I J
theorem p_X7_leastBlocks_7 {L : Nat} {xs : Nat → Int32} {d : Nat} {Q : xO → Prop} (x1 : Int32) (x2 : Int32) (z3 : Option Value) (I : xI) (J : xJ) {t : Int32 × xI × xJ} (h : f_X7_leastBlocks_7 x1 x2 z3 I J = some t) (hC : (c_X7_leastBlocks Q) t) : Rn L xs (d + 1) 104 49 [some (.ref 43), some (.int x1), some (.int x2), z3] [] 94 (I, J, xrf) Q := by
  unfold f_X7_leastBlocks_7 at h
  cases h
  exact Rn.ret 2 (o := ((some (.int x1)), 94, (I, J, xrf))) (fun f => rfl) hC
theorem p_X7_leastBlocks_6 {L : Nat} {xs : Nat → Int32} {d : Nat} {Q : xO → Prop} (x1 : Int32) (x2 : Int32) (x3 : Int32) (I : xI) (J : xJ) {t : (Int32 × Int32 × (Option Value) × xI × xJ) ⊕ (Int32 × xI × xJ)} (h : f_X7_leastBlocks_6 x1 x2 x3 I J = some t) (hC : (c_X7_leastBlocks_1 L xs d Q) t) : Rn L xs (d + 1) 104 43 [some (.ref 43), some (.int x1), some (.int x2), some (.int x3)] [] 94 (I, J, xrf) Q := by
  unfold f_X7_leastBlocks_6 at h
  refine Rn.go 2 (j' := 104) (pc' := 5) (ls' := [some (.ref 43), some (.int x1), some (.int ((x2 + 1))), some (.int x3)]) (st' := []) (n' := 94) (M' := (I, J, xrf)) (fun f => rfl) ?_
  cases h; exact hC
theorem p_X7_leastBlocks_5 {L : Nat} {xs : Nat → Int32} {d : Nat} {Q : xO → Prop} (x1 : Int32) (x2 : Int32) (x3 : Int32) (I : xI) (J : xJ) {t : (Int32 × Int32 × (Option Value) × xI × xJ) ⊕ (Int32 × xI × xJ)} (h : f_X7_leastBlocks_5 x1 x2 x3 I J = some t) (hC : (c_X7_leastBlocks_1 L xs d Q) t) : Rn L xs (d + 1) 104 41 [some (.ref 43), some (.int x1), some (.int x2), some (.int x3)] [] 94 (I, J, xrf) Q := by
  unfold f_X7_leastBlocks_5 at h
  refine Rn.go 2 (j' := 104) (pc' := 43) (ls' := [some (.ref 43), some (.int x3), some (.int x2), some (.int x3)]) (st' := []) (n' := 94) (M' := (I, J, xrf)) (fun f => rfl) ?_
  exact p_X7_leastBlocks_6 x3 x2 x3 I J h hC
theorem p_X7_leastBlocks_4 {L : Nat} {xs : Nat → Int32} {d : Nat} {Q : xO → Prop} (x1 : Int32) (x2 : Int32) (x3 : Int32) (I : xI) (J : xJ) {t : (Int32 × Int32 × (Option Value) × xI × xJ) ⊕ (Int32 × xI × xJ)} (h : f_X7_leastBlocks_4 x1 x2 x3 I J = some t) (hC : (c_X7_leastBlocks_1 L xs d Q) t) : Rn L xs (d + 1) 104 36 [some (.ref 43), some (.int x1), some (.int x2), some (.int x3)] [] 94 (I, J, xrf) Q := by
  unfold f_X7_leastBlocks_4 at h
  refine Rn.fi 3 (c := x1 ≤ x3) (p1 := 43) (l1 := [some (.ref 43), some (.int x1), some (.int x2), some (.int x3)]) (s1 := []) (n1 := 94) (M1 := (I, J, xrf)) (p2 := 41) (l2 := [some (.ref 43), some (.int x1), some (.int x2), some (.int x3)]) (s2 := []) (n2 := 94) (M2 := (I, J, xrf)) (fun f => rfl) (fun hc => ?_) (fun hc => ?_)
  · rw [if_pos hc] at h
    exact p_X7_leastBlocks_6 x1 x2 x3 I J h hC
  · rw [if_neg hc] at h
    exact p_X7_leastBlocks_5 x1 x2 x3 I J h hC
theorem p_X7_leastBlocks_3 {L : Nat} {xs : Nat → Int32} {d : Nat} {Q : xO → Prop} (x1 : Int32) (x2 : Int32) (x3 : Int32) (I : xI) (J : xJ) {t : (Int32 × Int32 × (Option Value) × xI × xJ) ⊕ (Int32 × xI × xJ)} (h : f_X7_leastBlocks_3 x1 x2 x3 I J = some t) (hC : (c_X7_leastBlocks_1 L xs d Q) t) : Rn L xs (d + 1) 104 30 [some (.ref 43), some (.int x1), some (.int x2), some (.int x3)] [] 94 (I, J, xrf) Q := by
  unfold f_X7_leastBlocks_3 at h
  refine Rn.fi 3 (c := x1 = (-2)) (p1 := 41) (l1 := [some (.ref 43), some (.int x1), some (.int x2), some (.int x3)]) (s1 := []) (n1 := 94) (M1 := (I, J, xrf)) (p2 := 36) (l2 := [some (.ref 43), some (.int x1), some (.int x2), some (.int x3)]) (s2 := []) (n2 := 94) (M2 := (I, J, xrf)) (fun f => rfl) (fun hc => ?_) (fun hc => ?_)
  · rw [if_pos hc] at h
    exact p_X7_leastBlocks_5 x1 x2 x3 I J h hC
  · rw [if_neg hc] at h
    exact p_X7_leastBlocks_4 x1 x2 x3 I J h hC
theorem p_X7_leastBlocks_2 {L : Nat} {xs : Nat → Int32} {d : Nat} {Q : xO → Prop} (x1 : Int32) (x2 : Int32) (z3 : Option Value) (I : xI) (J : xJ) {t : (Int32 × Int32 × (Option Value) × xI × xJ) ⊕ (Int32 × xI × xJ)} (h : f_X7_leastBlocks_2 x1 x2 z3 I J = some t) (hC : (c_X7_leastBlocks_1 L xs d Q) t) : Rn L xs (d + 1) 104 13 [some (.ref 43), some (.int x1), some (.int x2), z3] [] 94 (I, J, xrf) Q := by
  unfold f_X7_leastBlocks_2 at h
  obtain ⟨hc, h⟩ := xif h
  refine Rn.ok 6 (c := x2 < 0 ∨ 203 ≤ x2.toNatClampNeg) (p1 := 23) (l1 := [some (.ref 43), some (.int x1), some (.int x2), z3]) (s1 := [.int ((I 47 x2.toNatClampNeg)), .ref 46]) (n1 := 94) (M1 := (I, J, xrf)) (fun f => rfl) hc ?_
  obtain ⟨hc, h⟩ := xif h
  refine Rn.ok 1 (c := (I 47 x2.toNatClampNeg) < 0 ∨ 203 ≤ ((I 47 x2.toNatClampNeg)).toNatClampNeg) (p1 := 24) (l1 := [some (.ref 43), some (.int x1), some (.int x2), z3]) (s1 := [.int ((I 46 ((I 47 x2.toNatClampNeg)).toNatClampNeg))]) (n1 := 94) (M1 := (I, J, xrf)) (fun f => rfl) hc ?_
  refine Rn.fi 4 (c := (I 46 ((I 47 x2.toNatClampNeg)).toNatClampNeg) ≤ 1) (p1 := 43) (l1 := [some (.ref 43), some (.int x1), some (.int x2), some (.int ((I 46 ((I 47 x2.toNatClampNeg)).toNatClampNeg)))]) (s1 := []) (n1 := 94) (M1 := (I, J, xrf)) (p2 := 30) (l2 := [some (.ref 43), some (.int x1), some (.int x2), some (.int ((I 46 ((I 47 x2.toNatClampNeg)).toNatClampNeg)))]) (s2 := []) (n2 := 94) (M2 := (I, J, xrf)) (fun f => rfl) (fun hc => ?_) (fun hc => ?_)
  · rw [if_pos hc] at h
    exact p_X7_leastBlocks_6 x1 x2 ((I 46 ((I 47 x2.toNatClampNeg)).toNatClampNeg)) I J h hC
  · rw [if_neg hc] at h
    exact p_X7_leastBlocks_3 x1 x2 ((I 46 ((I 47 x2.toNatClampNeg)).toNatClampNeg)) I J h hC
theorem q_X7_leastBlocks_1 {L : Nat} {xs : Nat → Int32} {d : Nat} {Q : xO → Prop} (x1 : Int32) (x2 : Int32) (z3 : Option Value) (I : xI) (J : xJ) {t : (Int32 × Int32 × (Option Value) × xI × xJ) ⊕ (Int32 × xI × xJ)} (h : b_X7_leastBlocks_1 x1 x2 z3 I J = some t) (hC : (c_X7_leastBlocks_1 L xs d Q) t) : Rn L xs (d + 1) 104 5 [some (.ref 43), some (.int x1), some (.int x2), z3] [] 94 (I, J, xrf) Q := by
  unfold b_X7_leastBlocks_1 at h
  refine Rn.fi 4 (c := (I 43 8) ≤ x2) (p1 := 49) (l1 := [some (.ref 43), some (.int x1), some (.int x2), z3]) (s1 := []) (n1 := 94) (M1 := (I, J, xrf)) (p2 := 13) (l2 := [some (.ref 43), some (.int x1), some (.int x2), z3]) (s2 := []) (n2 := 94) (M2 := (I, J, xrf)) (fun f => rfl) (fun hc => ?_) (fun hc => ?_)
  · rw [if_pos hc] at h
    obtain ⟨t0, h0, rfl⟩ := Option.map_eq_some_iff.mp h
    exact p_X7_leastBlocks_7 x1 x2 z3 I J h0 hC
  · rw [if_neg hc] at h
    exact p_X7_leastBlocks_2 x1 x2 z3 I J h hC
theorem p_X7_leastBlocks_1 {L : Nat} {xs : Nat → Int32} {d : Nat} {Q : xO → Prop} (x1 : Int32) (x2 : Int32) (z3 : Option Value) (I : xI) (J : xJ) {t : Int32 × xI × xJ} (h : f_X7_leastBlocks_1 x1 x2 z3 I J = some t) (hC : (c_X7_leastBlocks Q) t) : Rn L xs (d + 1) 104 5 [some (.ref 43), some (.int x1), some (.int x2), z3] [] 94 (I, J, xrf) Q := by
  unfold f_X7_leastBlocks_1 at h
  exact xloop_some (P := fun s : Int32 × Int32 × (Option Value) × xI × xJ => Rn L xs (d + 1) 104 5 [some (.ref 43), some (.int s.1), some (.int s.2.1), s.2.2.1] [] 94 (s.2.2.2.1, s.2.2.2.2, xrf) Q) t (fun s ⟨s', hb, hp⟩ => q_X7_leastBlocks_1 s.1 s.2.1 s.2.2.1 s.2.2.2.1 s.2.2.2.2 hb hp) (fun s hb => q_X7_leastBlocks_1 s.1 s.2.1 s.2.2.1 s.2.2.2.1 s.2.2.2.2 hb hC) _ _ h
theorem p_X7_leastBlocks_0 {L : Nat} {xs : Nat → Int32} {d : Nat} {Q : xO → Prop} (I : xI) (J : xJ) {t : Int32 × xI × xJ} (h : f_X7_leastBlocks_0 I J = some t) (hC : (c_X7_leastBlocks Q) t) : Rn L xs (d + 1) 104 0 [some (.ref 43), none, none, none] [] 94 (I, J, xrf) Q := by
  unfold f_X7_leastBlocks_0 at h
  refine Rn.go 4 (j' := 104) (pc' := 5) (ls' := [some (.ref 43), some (.int ((-2))), some (.int 0), none]) (st' := []) (n' := 94) (M' := (I, J, xrf)) (fun f => rfl) ?_
  exact p_X7_leastBlocks_1 ((-2)) 0 none I J h hC
theorem p_X7_leastBlocks {L : Nat} {xs : Nat → Int32} {d : Nat} {Q : xO → Prop} (I : xI) (J : xJ) {t : Int32 × xI × xJ} (h : f_X7_leastBlocks I J = some t) (hC : Q ((some (.int t.1)), 94, (t.2.1, t.2.2, xrf))) : Rn L xs (d + 1) 104 0 [some (.ref 43), none, none, none] [] 94 (I, J, xrf) Q := p_X7_leastBlocks_0 I J h hC
