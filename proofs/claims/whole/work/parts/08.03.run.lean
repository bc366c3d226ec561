/-! X11_shown -/
def c_X11_shown (Q : xO → Prop) (t : Int32 × xI × xJ) : Prop := Q ((some (.int t.1)), 94, (t.2.1, t.2.2, xrf))
def f_X11_shown_4 (x1 : Int32) (x2 : Int32) (I : xI) (J : xJ) : Option (Int32 × xI × xJ) := some (x2, I, J)
def f_X11_shown_9 (x1 : Int32) (x2 : Int32) (s0 : Int32) (I : xI) (J : xJ) : Option (Int32 × xI × xJ) := some (s0, I, J)
def f_X11_shown_8 (x1 : Int32) (x2 : Int32) (I : xI) (J : xJ) : Option (Int32 × xI × xJ) := f_X11_shown_9 x1 x2 ((-1)) I J
def f_X11_shown_7 (x1 : Int32) (x2 : Int32) (I : xI) (J : xJ) : Option (Int32 × xI × xJ) := if x1 < 0 ∨ 6 ≤ x1.toNatClampNeg then none else f_X11_shown_9 x1 x2 ((I 35 x1.toNatClampNeg)) I J
def f_X11_shown_6 (x1 : Int32) (x2 : Int32) (I : xI) (J : xJ) : Option (Int32 × xI × xJ) := if x2 ≤ x1 then f_X11_shown_8 x1 x2 I J else f_X11_shown_7 x1 x2 I J
def f_X11_shown_5 (x1 : Int32) (x2 : Int32) (I : xI) (J : xJ) : Option (Int32 × xI × xJ) := if x1 < 0 then f_X11_shown_8 x1 x2 I J else f_X11_shown_6 x1 x2 I J
def f_X11_shown_3 (x1 : Int32) (x2 : Int32) (I : xI) (J : xJ) : Option (Int32 × xI × xJ) := if x1 = (-1) then f_X11_shown_4 x1 x2 I J else f_X11_shown_5 x1 x2 I J
def f_X11_shown_2 (x1 : Int32) (s0 : Int32) (I : xI) (J : xJ) : Option (Int32 × xI × xJ) := if s0 = (-2) then f_X11_shown_4 x1 s0 I J else f_X11_shown_3 x1 s0 I J
def f_X11_shown_1 (x1 : Int32) (I : xI) (J : xJ) : Option (Int32 × xI × xJ) := (f_X6_lengthShown I J).bind fun o => f_X11_shown_2 x1 o.1 o.2.1 o.2.2
def f_X11_shown_0 (x1 : Int32) (I : xI) (J : xJ) : Option (Int32 × xI × xJ) := (f_X11_pairsNow I J).bind fun o => f_X11_shown_1 x1 o.2.1 o.2.2
def f_X11_shown (x1 : Int32) (I : xI) (J : xJ) : Option (Int32 × xI × xJ) := f_X11_shown_0 x1 I J
theorem p_X11_shown_4 {L : Nat} {xs : Nat → Int32} {d : Nat} {Q : xO → Prop} (x1 : Int32) (x2 : Int32) (I : xI) (J : xJ) {t : Int32 × xI × xJ} (h : f_X11_shown_4 x1 x2 I J = some t) (hC : (c_X11_shown Q) t) : Rn L xs (d + 19) 148 19 [some (.ref 0), some (.int x1), some (.int x2)] [] 94 (I, J, xrf) Q := by
  unfold f_X11_shown_4 at h
  cases h
  exact Rn.ret 2 (o := ((some (.int x2)), 94, (I, J, xrf))) (fun f => rfl) hC
theorem p_X11_shown_9 {L : Nat} {xs : Nat → Int32} {d : Nat} {Q : xO → Prop} (x1 : Int32) (x2 : Int32) (s0 : Int32) (I : xI) (J : xJ) {t : Int32 × xI × xJ} (h : f_X11_shown_9 x1 x2 s0 I J = some t) (hC : (c_X11_shown Q) t) : Rn L xs (d + 19) 148 43 [some (.ref 0), some (.int x1), some (.int x2)] [.int s0] 94 (I, J, xrf) Q := by
  unfold f_X11_shown_9 at h
  cases h
  exact Rn.ret 1 (o := ((some (.int s0)), 94, (I, J, xrf))) (fun f => rfl) hC
theorem p_X11_shown_8 {L : Nat} {xs : Nat → Int32} {d : Nat} {Q : xO → Prop} (x1 : Int32) (x2 : Int32) (I : xI) (J : xJ) {t : Int32 × xI × xJ} (h : f_X11_shown_8 x1 x2 I J = some t) (hC : (c_X11_shown Q) t) : Rn L xs (d + 19) 148 42 [some (.ref 0), some (.int x1), some (.int x2)] [] 94 (I, J, xrf) Q := by
  unfold f_X11_shown_8 at h
  refine Rn.go 1 (j' := 148) (pc' := 43) (ls' := [some (.ref 0), some (.int x1), some (.int x2)]) (st' := [.int ((-1))]) (n' := 94) (M' := (I, J, xrf)) (fun f => rfl) ?_
  exact p_X11_shown_9 x1 x2 ((-1)) I J h hC
theorem p_X11_shown_7 {L : Nat} {xs : Nat → Int32} {d : Nat} {Q : xO → Prop} (x1 : Int32) (x2 : Int32) (I : xI) (J : xJ) {t : Int32 × xI × xJ} (h : f_X11_shown_7 x1 x2 I J = some t) (hC : (c_X11_shown Q) t) : Rn L xs (d + 19) 148 30 [some (.ref 0), some (.int x1), some (.int x2)] [] 94 (I, J, xrf) Q := by
  unfold f_X11_shown_7 at h
  obtain ⟨hc, h⟩ := xif h
  refine Rn.ok 5 (c := x1 < 0 ∨ 6 ≤ x1.toNatClampNeg) (p1 := 39) (l1 := [some (.ref 0), some (.int x1), some (.int x2)]) (s1 := [.int ((I 35 x1.toNatClampNeg))]) (n1 := 94) (M1 := (I, J, xrf)) (fun f => rfl) hc ?_
  refine Rn.go 1 (j' := 148) (pc' := 43) (ls' := [some (.ref 0), some (.int x1), some (.int x2)]) (st' := [.int ((I 35 x1.toNatClampNeg))]) (n' := 94) (M' := (I, J, xrf)) (fun f => rfl) ?_
  exact p_X11_shown_9 x1 x2 ((I 35 x1.toNatClampNeg)) I J h hC
theorem p_X11_shown_6 {L : Nat} {xs : Nat → Int32} {d : Nat} {Q : xO → Prop} (x1 : Int32) (x2 : Int32) (I : xI) (J : xJ) {t : Int32 × xI × xJ} (h : f_X11_shown_6 x1 x2 I J = some t) (hC : (c_X11_shown Q) t) : Rn L xs (d + 19) 148 25 [some (.ref 0), some (.int x1), some (.int x2)] [] 94 (I, J, xrf) Q := by
  unfold f_X11_shown_6 at h
  refine Rn.fi 3 (c := x2 ≤ x1) (p1 := 42) (l1 := [some (.ref 0), some (.int x1), some (.int x2)]) (s1 := []) (n1 := 94) (M1 := (I, J, xrf)) (p2 := 30) (l2 := [some (.ref 0), some (.int x1), some (.int x2)]) (s2 := []) (n2 := 94) (M2 := (I, J, xrf)) (fun f => rfl) (fun hc => ?_) (fun hc => ?_)
  · rw [if_pos hc] at h
    exact p_X11_shown_8 x1 x2 I J h hC
  · rw [if_neg hc] at h
    exact p_X11_shown_7 x1 x2 I J h hC
theorem p_X11_shown_5 {L : Nat} {xs : Nat → Int32} {d : Nat} {Q : xO → Prop} (x1 : Int32) (x2 : Int32) (I : xI) (J : xJ) {t : Int32 × xI × xJ} (h : f_X11_shown_5 x1 x2 I J = some t) (hC : (c_X11_shown Q) t) : Rn L xs (d + 19) 148 21 [some (.ref 0), some (.int x1), some (.int x2)] [] 94 (I, J, xrf) Q := by
  unfold f_X11_shown_5 at h
  refine Rn.fi 2 (c := x1 < 0) (p1 := 42) (l1 := [some (.ref 0), some (.int x1), some (.int x2)]) (s1 := []) (n1 := 94) (M1 := (I, J, xrf)) (p2 := 25) (l2 := [some (.ref 0), some (.int x1), some (.int x2)]) (s2 := []) (n2 := 94) (M2 := (I, J, xrf)) (fun f => rfl) (fun hc => ?_) (fun hc => ?_)
  · rw [if_pos hc] at h
    exact p_X11_shown_8 x1 x2 I J h hC
  · rw [if_neg hc] at h
    exact p_X11_shown_6 x1 x2 I J h hC
theorem p_X11_shown_3 {L : Nat} {xs : Nat → Int32} {d : Nat} {Q : xO → Prop} (x1 : Int32) (x2 : Int32) (I : xI) (J : xJ) {t : Int32 × xI × xJ} (h : f_X11_shown_3 x1 x2 I J = some t) (hC : (c_X11_shown Q) t) : Rn L xs (d + 19) 148 14 [some (.ref 0), some (.int x1), some (.int x2)] [] 94 (I, J, xrf) Q := by
  unfold f_X11_shown_3 at h
  refine Rn.fi 3 (c := x1 = (-1)) (p1 := 19) (l1 := [some (.ref 0), some (.int x1), some (.int x2)]) (s1 := []) (n1 := 94) (M1 := (I, J, xrf)) (p2 := 21) (l2 := [some (.ref 0), some (.int x1), some (.int x2)]) (s2 := []) (n2 := 94) (M2 := (I, J, xrf)) (fun f => rfl) (fun hc => ?_) (fun hc => ?_)
  · rw [if_pos hc] at h
    exact p_X11_shown_4 x1 x2 I J h hC
  · rw [if_neg hc] at h
    exact p_X11_shown_5 x1 x2 I J h hC
theorem p_X11_shown_2 {L : Nat} {xs : Nat → Int32} {d : Nat} {Q : xO → Prop} (x1 : Int32) (s0 : Int32) (I : xI) (J : xJ) {t : Int32 × xI × xJ} (h : f_X11_shown_2 x1 s0 I J = some t) (hC : (c_X11_shown Q) t) : Rn L xs (d + 19) 148 7 [some (.ref 0), some (.int x1), none] [.int s0] 94 (I, J, xrf) Q := by
  unfold f_X11_shown_2 at h
  refine Rn.fi 4 (c := s0 = (-2)) (p1 := 19) (l1 := [some (.ref 0), some (.int x1), some (.int s0)]) (s1 := []) (n1 := 94) (M1 := (I, J, xrf)) (p2 := 14) (l2 := [some (.ref 0), some (.int x1), some (.int s0)]) (s2 := []) (n2 := 94) (M2 := (I, J, xrf)) (fun f => rfl) (fun hc => ?_) (fun hc => ?_)
  · rw [if_pos hc] at h
    exact p_X11_shown_4 x1 s0 I J h hC
  · rw [if_neg hc] at h
    exact p_X11_shown_3 x1 s0 I J h hC
theorem p_X11_shown_1 {L : Nat} {xs : Nat → Int32} {d : Nat} {Q : xO → Prop} (x1 : Int32) (I : xI) (J : xJ) {t : Int32 × xI × xJ} (h : f_X11_shown_1 x1 I J = some t) (hC : (c_X11_shown Q) t) : Rn L xs (d + 19) 148 4 [some (.ref 0), some (.int x1), none] [.ref 32] 94 (I, J, xrf) Q := by
  unfold f_X11_shown_1 at h
  obtain ⟨o, ho, h⟩ := Option.bind_eq_some_iff.mp h
  refine Rn.call (d1 := d + 18) (j1 := 81) (ls1 := [some (.ref 32), none]) (rest := []) (fun f => rfl) ?_
  refine p_X6_lengthShown (d := d + 0) I J (t := o) ho ?_
  exact p_X11_shown_2 x1 o.1 o.2.1 o.2.2 h hC
theorem p_X11_shown_0 {L : Nat} {xs : Nat → Int32} {d : Nat} {Q : xO → Prop} (x1 : Int32) (I : xI) (J : xJ) {t : Int32 × xI × xJ} (h : f_X11_shown_0 x1 I J = some t) (hC : (c_X11_shown Q) t) : Rn L xs (d + 19) 148 0 [some (.ref 0), some (.int x1), none] [] 94 (I, J, xrf) Q := by
  unfold f_X11_shown_0 at h
  refine Rn.go 1 (j' := 148) (pc' := 1) (ls' := [some (.ref 0), some (.int x1), none]) (st' := [.ref 0]) (n' := 94) (M' := (I, J, xrf)) (fun f => rfl) ?_
  obtain ⟨o, ho, h⟩ := Option.bind_eq_some_iff.mp h
  refine Rn.call (d1 := d + 18) (j1 := 176) (ls1 := [some (.ref 0)]) (rest := []) (fun f => rfl) ?_
  refine p_X11_pairsNow (d := d + 13) I J (t := o) ho ?_
  exact p_X11_shown_1 x1 o.2.1 o.2.2 h hC
theorem p_X11_shown {L : Nat} {xs : Nat → Int32} {d : Nat} {Q : xO → Prop} (x1 : Int32) (I : xI) (J : xJ) {t : Int32 × xI × xJ} (h : f_X11_shown x1 I J = some t) (hC : Q ((some (.int t.1)), 94, (t.2.1, t.2.2, xrf))) : Rn L xs (d + 19) 148 0 [some (.ref 0), some (.int x1), none] [] 94 (I, J, xrf) Q := p_X11_shown_0 x1 I J h hC
/-! X1_pairsIn -/
def c_X1_pairsIn (Q : xO → Prop) (t : Int32 × xI × xJ) : Prop := Q ((some (.int t.1)), 94, (t.2.1, t.2.2, xrf))
def c_X1_pairsIn_1 (L : Nat) (xs : Nat → Int32) (d : Nat) (Q : xO → Prop) (t : (Int32 × Int32 × Int32 × (Option Value) × xI × xJ) ⊕ (Int32 × xI × xJ)) : Prop := match t with
  | .inl s => Rn L xs (d + 2) 9 4 [some (.ref 36), some (.int s.1), some (.int s.2.1), some (.int s.2.2.1), s.2.2.2.1] [] 94 (s.2.2.2.2.1, s.2.2.2.2.2, xrf) Q
  | .inr t => (c_X1_pairsIn Q) t
def c_X1_pairsIn_3 (L : Nat) (xs : Nat → Int32) (d : Nat) (Q : xO → Prop) (t : (Int32 × Int32 × Int32 × Int32 × xI × xJ) ⊕ ((Int32 × Int32 × Int32 × (Option Value) × xI × xJ) ⊕ (Int32 × xI × xJ))) : Prop := match t with
  | .inl s => Rn L xs (d + 2) 9 20 [some (.ref 36), some (.int s.1), some (.int s.2.1), some (.int s.2.2.1), some (.int s.2.2.2.1)] [] 94 (s.2.2.2.2.1, s.2.2.2.2.2, xrf) Q
  | .inr t => (c_X1_pairsIn_1 L xs d Q) t
def f_X1_pairsIn_9 (x1 : Int32) (x2 : Int32) (x3 : Int32) (z4 : Option Value) (I : xI) (J : xJ) : Option (Int32 × xI × xJ) := some (x2, I, J)
def f_X1_pairsIn_8 (x1 : Int32) (x2 : Int32) (x3 : Int32) (x4 : Int32) (I : xI) (J : xJ) : Option ((Int32 × Int32 × Int32 × (Option Value) × xI × xJ) ⊕ (Int32 × xI × xJ)) := some (.inl (x1, x2, ((x3 + 1)), (some (.int x4)), I, J))
def f_X1_pairsIn_7 (x1 : Int32) (x2 : Int32) (x3 : Int32) (x4 : Int32) (I : xI) (J : xJ) : Option ((Int32 × Int32 × Int32 × Int32 × xI × xJ) ⊕ ((Int32 × Int32 × Int32 × (Option Value) × xI × xJ) ⊕ (Int32 × xI × xJ))) := some (.inl (x1, x2, x3, ((x4 + 1)), I, J))
def f_X1_pairsIn_6 (x1 : Int32) (x2 : Int32) (x3 : Int32) (x4 : Int32) (s0 : Int32) (s1 : Int32) (I : xI) (J : xJ) : Option ((Int32 × Int32 × Int32 × Int32 × xI × xJ) ⊕ ((Int32 × Int32 × Int32 × (Option Value) × xI × xJ) ⊕ (Int32 × xI × xJ))) := f_X1_pairsIn_7 x1 ((s0 ||| s1)) x3 x4 I J
def f_X1_pairsIn_5 (x1 : Int32) (x2 : Int32) (x3 : Int32) (x4 : Int32) (I : xI) (J : xJ) : Option ((Int32 × Int32 × Int32 × Int32 × xI × xJ) ⊕ ((Int32 × Int32 × Int32 × (Option Value) × xI × xJ) ⊕ (Int32 × xI × xJ))) := (f_X11_pairOf x3 x4 I J).bind fun o => f_X1_pairsIn_6 x1 x2 x3 x4 x2 o.1 o.2.1 o.2.2
def f_X1_pairsIn_4 (x1 : Int32) (x2 : Int32) (x3 : Int32) (x4 : Int32) (I : xI) (J : xJ) : Option ((Int32 × Int32 × Int32 × Int32 × xI × xJ) ⊕ ((Int32 × Int32 × Int32 × (Option Value) × xI × xJ) ⊕ (Int32 × xI × xJ))) := if (((x1 >>> (x3 &&& 31)) &&& (x1 >>> (x4 &&& 31))) &&& 1) = 1 then f_X1_pairsIn_5 x1 x2 x3 x4 I J else f_X1_pairsIn_7 x1 x2 x3 x4 I J
def b_X1_pairsIn_3 (x1 : Int32) (x2 : Int32) (x3 : Int32) (x4 : Int32) (I : xI) (J : xJ) : Option ((Int32 × Int32 × Int32 × Int32 × xI × xJ) ⊕ ((Int32 × Int32 × Int32 × (Option Value) × xI × xJ) ⊕ (Int32 × xI × xJ))) := if (I 1 0) ≤ x4 then ((f_X1_pairsIn_8 x1 x2 x3 x4 I J)).map .inr else f_X1_pairsIn_4 x1 x2 x3 x4 I J
def f_X1_pairsIn_3 (x1 : Int32) (x2 : Int32) (x3 : Int32) (x4 : Int32) (I : xI) (J : xJ) : Option ((Int32 × Int32 × Int32 × (Option Value) × xI × xJ) ⊕ (Int32 × xI × xJ)) := xloop (fun s : Int32 × Int32 × Int32 × Int32 × xI × xJ => b_X1_pairsIn_3 s.1 s.2.1 s.2.2.1 s.2.2.2.1 s.2.2.2.2.1 s.2.2.2.2.2) 5000 (x1, x2, x3, x4, I, J)
def f_X1_pairsIn_2 (x1 : Int32) (x2 : Int32) (x3 : Int32) (z4 : Option Value) (I : xI) (J : xJ) : Option ((Int32 × Int32 × Int32 × (Option Value) × xI × xJ) ⊕ (Int32 × xI × xJ)) := f_X1_pairsIn_3 x1 x2 x3 ((x3 + 1)) I J
def b_X1_pairsIn_1 (x1 : Int32) (x2 : Int32) (x3 : Int32) (z4 : Option Value) (I : xI) (J : xJ) : Option ((Int32 × Int32 × Int32 × (Option Value) × xI × xJ) ⊕ (Int32 × xI × xJ)) := if (I 1 0) ≤ x3 then ((f_X1_pairsIn_9 x1 x2 x3 z4 I J)).map .inr else f_X1_pairsIn_2 x1 x2 x3 z4 I J
def f_X1_pairsIn_1 (x1 : Int32) (x2 : Int32) (x3 : Int32) (z4 : Option Value) (I : xI) (J : xJ) : Option (Int32 × xI × xJ) := xloop (fun s : Int32 × Int32 × Int32 × (Option Value) × xI × xJ => b_X1_pairsIn_1 s.1 s.2.1 s.2.2.1 s.2.2.2.1 s.2.2.2.2.1 s.2.2.2.2.2) 5000 (x1, x2, x3, z4, I, J)
def f_X1_pairsIn_0 (x1 : Int32) (I : xI) (J : xJ) : Option (Int32 × xI × xJ) := f_X1_pairsIn_1 x1 0 0 none I J
def f_X1_pairsIn (x1 : Int32) (I : xI) (J : xJ) : Option (Int32 × xI × xJ) := f_X1_pairsIn_0 x1 I J
theorem p_X1_pairsIn_9 {L : Nat} {xs : Nat → Int32} {d : Nat} {Q : xO → Prop} (x1 : Int32) (x2 : Int32) (x3 : Int32) (z4 : Option Value) (I : xI) (J : xJ) {t : Int32 × xI × xJ} (h : f_X1_pairsIn_9 x1 x2 x3 z4 I J = some t) (hC : (c_X1_pairsIn Q) t) : Rn L xs (d + 2) 9 67 [some (.ref 36), some (.int x1), some (.int x2), some (.int x3), z4] [] 94 (I, J, xrf) Q := by
  unfold f_X1_pairsIn_9 at h
  cases h
  exact Rn.ret 2 (o := ((some (.int x2)), 94, (I, J, xrf))) (fun f => rfl) hC
theorem p_X1_pairsIn_8 {L : Nat} {xs : Nat → Int32} {d : Nat} {Q : xO → Prop} (x1 : Int32) (x2 : Int32) (x3 : Int32) (x4 : Int32) (I : xI) (J : xJ) {t : (Int32 × Int32 × Int32 × (Option Value) × xI × xJ) ⊕ (Int32 × xI × xJ)} (h : f_X1_pairsIn_8 x1 x2 x3 x4 I J = some t) (hC : (c_X1_pairsIn_1 L xs d Q) t) : Rn L xs (d + 2) 9 61 [some (.ref 36), some (.int x1), some (.int x2), some (.int x3), some (.int x4)] [] 94 (I, J, xrf) Q := by
  unfold f_X1_pairsIn_8 at h
  refine Rn.go 2 (j' := 9) (pc' := 4) (ls' := [some (.ref 36), some (.int x1), some (.int x2), some (.int ((x3 + 1))), some (.int x4)]) (st' := []) (n' := 94) (M' := (I, J, xrf)) (fun f => rfl) ?_
  cases h; exact hC
theorem p_X1_pairsIn_7 {L : Nat} {xs : Nat → Int32} {d : Nat} {Q : xO → Prop} (x1 : Int32) (x2 : Int32) (x3 : Int32) (x4 : Int32) (I : xI) (J : xJ) {t : (Int32 × Int32 × Int32 × Int32 × xI × xJ) ⊕ ((Int32 × Int32 × Int32 × (Option Value) × xI × xJ) ⊕ (Int32 × xI × xJ))} (h : f_X1_pairsIn_7 x1 x2 x3 x4 I J = some t) (hC : (c_X1_pairsIn_3 L xs d Q) t) : Rn L xs (d + 2) 9 55 [some (.ref 36), some (.int x1), some (.int x2), some (.int x3), some (.int x4)] [] 94 (I, J, xrf) Q := by
  unfold f_X1_pairsIn_7 at h
  refine Rn.go 2 (j' := 9) (pc' := 20) (ls' := [some (.ref 36), some (.int x1), some (.int x2), some (.int x3), some (.int ((x4 + 1)))]) (st' := []) (n' := 94) (M' := (I, J, xrf)) (fun f => rfl) ?_
  cases h; exact hC
theorem p_X1_pairsIn_6 {L : Nat} {xs : Nat → Int32} {d : Nat} {Q : xO → Prop} (x1 : Int32) (x2 : Int32) (x3 : Int32) (x4 : Int32) (s0 : Int32) (s1 : Int32) (I : xI) (J : xJ) {t : (Int32 × Int32 × Int32 × Int32 × xI × xJ) ⊕ ((Int32 × Int32 × Int32 × (Option Value) × xI × xJ) ⊕ (Int32 × xI × xJ))} (h : f_X1_pairsIn_6 x1 x2 x3 x4 s0 s1 I J = some t) (hC : (c_X1_pairsIn_3 L xs d Q) t) : Rn L xs (d + 2) 9 53 [some (.ref 36), some (.int x1), some (.int x2), some (.int x3), some (.int x4)] [.int s1, .int s0] 94 (I, J, xrf) Q := by
  unfold f_X1_pairsIn_6 at h
  refine Rn.go 2 (j' := 9) (pc' := 55) (ls' := [some (.ref 36), some (.int x1), some (.int ((s0 ||| s1))), some (.int x3), some (.int x4)]) (st' := []) (n' := 94) (M' := (I, J, xrf)) (fun f => rfl) ?_
  exact p_X1_pairsIn_7 x1 ((s0 ||| s1)) x3 x4 I J h hC
theorem p_X1_pairsIn_5 {L : Nat} {xs : Nat → Int32} {d : Nat} {Q : xO → Prop} (x1 : Int32) (x2 : Int32) (x3 : Int32) (x4 : Int32) (I : xI) (J : xJ) {t : (Int32 × Int32 × Int32 × Int32 × xI × xJ) ⊕ ((Int32 × Int32 × Int32 × (Option Value) × xI × xJ) ⊕ (Int32 × xI × xJ))} (h : f_X1_pairsIn_5 x1 x2 x3 x4 I J = some t) (hC : (c_X1_pairsIn_3 L xs d Q) t) : Rn L xs (d + 2) 9 46 [some (.ref 36), some (.int x1), some (.int x2), some (.int x3), some (.int x4)] [] 94 (I, J, xrf) Q := by
  unfold f_X1_pairsIn_5 at h
  refine Rn.go 3 (j' := 9) (pc' := 50) (ls' := [some (.ref 36), some (.int x1), some (.int x2), some (.int x3), some (.int x4)]) (st' := [.int x4, .int x3, .int x2]) (n' := 94) (M' := (I, J, xrf)) (fun f => rfl) ?_
  obtain ⟨o, ho, h⟩ := Option.bind_eq_some_iff.mp h
  refine Rn.call (d1 := d + 1) (j1 := 181) (ls1 := [some (.int x3), some (.int x4), none]) (rest := [.int x2]) (fun f => rfl) ?_
  refine p_X11_pairOf (d := d + 0) x3 x4 I J (t := o) ho ?_
  exact p_X1_pairsIn_6 x1 x2 x3 x4 x2 o.1 o.2.1 o.2.2 h hC
theorem p_X1_pairsIn_4 {L : Nat} {xs : Nat → Int32} {d : Nat} {Q : xO → Prop} (x1 : Int32) (x2 : Int32) (x3 : Int32) (x4 : Int32) (I : xI) (J : xJ) {t : (Int32 × Int32 × Int32 × Int32 × xI × xJ) ⊕ ((Int32 × Int32 × Int32 × (Option Value) × xI × xJ) ⊕ (Int32 × xI × xJ))} (h : f_X1_pairsIn_4 x1 x2 x3 x4 I J = some t) (hC : (c_X1_pairsIn_3 L xs d Q) t) : Rn L xs (d + 2) 9 32 [some (.ref 36), some (.int x1), some (.int x2), some (.int x3), some (.int x4)] [] 94 (I, J, xrf) Q := by
  unfold f_X1_pairsIn_4 at h
  refine Rn.fi 11 (c := (((x1 >>> (x3 &&& 31)) &&& (x1 >>> (x4 &&& 31))) &&& 1) = 1) (p1 := 46) (l1 := [some (.ref 36), some (.int x1), some (.int x2), some (.int x3), some (.int x4)]) (s1 := []) (n1 := 94) (M1 := (I, J, xrf)) (p2 := 55) (l2 := [some (.ref 36), some (.int x1), some (.int x2), some (.int x3), some (.int x4)]) (s2 := []) (n2 := 94) (M2 := (I, J, xrf)) (fun f => rfl) (fun hc => ?_) (fun hc => ?_)
  · rw [if_pos hc] at h
    exact p_X1_pairsIn_5 x1 x2 x3 x4 I J h hC
  · rw [if_neg hc] at h
    exact p_X1_pairsIn_7 x1 x2 x3 x4 I J h hC
theorem q_X1_pairsIn_3 {L : Nat} {xs : Nat → Int32} {d : Nat} {Q : xO → Prop} (x1 : Int32) (x2 : Int32) (x3 : Int32) (x4 : Int32) (I : xI) (J : xJ) {t : (Int32 × Int32 × Int32 × Int32 × xI × xJ) ⊕ ((Int32 × Int32 × Int32 × (Option Value) × xI × xJ) ⊕ (Int32 × xI × xJ))} (h : b_X1_pairsIn_3 x1 x2 x3 x4 I J = some t) (hC : (c_X1_pairsIn_3 L xs d Q) t) : Rn L xs (d + 2) 9 20 [some (.ref 36), some (.int x1), some (.int x2), some (.int x3), some (.int x4)] [] 94 (I, J, xrf) Q := by
  unfold b_X1_pairsIn_3 at h
  refine Rn.fi 5 (c := (I 1 0) ≤ x4) (p1 := 61) (l1 := [some (.ref 36), some (.int x1), some (.int x2), some (.int x3), some (.int x4)]) (s1 := []) (n1 := 94) (M1 := (I, J, xrf)) (p2 := 32) (l2 := [some (.ref 36), some (.int x1), some (.int x2), some (.int x3), some (.int x4)]) (s2 := []) (n2 := 94) (M2 := (I, J, xrf)) (fun f => rfl) (fun hc => ?_) (fun hc => ?_)
  · rw [if_pos hc] at h
    obtain ⟨t0, h0, rfl⟩ := Option.map_eq_some_iff.mp h
    exact p_X1_pairsIn_8 x1 x2 x3 x4 I J h0 hC
  · rw [if_neg hc] at h
    exact p_X1_pairsIn_4 x1 x2 x3 x4 I J h hC
theorem p_X1_pairsIn_3 {L : Nat} {xs : Nat → Int32} {d : Nat} {Q : xO → Prop} (x1 : Int32) (x2 : Int32) (x3 : Int32) (x4 : Int32) (I : xI) (J : xJ) {t : (Int32 × Int32 × Int32 × (Option Value) × xI × xJ) ⊕ (Int32 × xI × xJ)} (h : f_X1_pairsIn_3 x1 x2 x3 x4 I J = some t) (hC : (c_X1_pairsIn_1 L xs d Q) t) : Rn L xs (d + 2) 9 20 [some (.ref 36), some (.int x1), some (.int x2), some (.int x3), some (.int x4)] [] 94 (I, J, xrf) Q := by
  unfold f_X1_pairsIn_3 at h
  exact xloop_some (P := fun s : Int32 × Int32 × Int32 × Int32 × xI × xJ => Rn L xs (d + 2) 9 20 [some (.ref 36), some (.int s.1), some (.int s.2.1), some (.int s.2.2.1), some (.int s.2.2.2.1)] [] 94 (s.2.2.2.2.1, s.2.2.2.2.2, xrf) Q) t (fun s ⟨s', hb, hp⟩ => q_X1_pairsIn_3 s.1 s.2.1 s.2.2.1 s.2.2.2.1 s.2.2.2.2.1 s.2.2.2.2.2 hb hp) (fun s hb => q_X1_pairsIn_3 s.1 s.2.1 s.2.2.1 s.2.2.2.1 s.2.2.2.2.1 s.2.2.2.2.2 hb hC) _ _ h
theorem p_X1_pairsIn_2 {L : Nat} {xs : Nat → Int32} {d : Nat} {Q : xO → Prop} (x1 : Int32) (x2 : Int32) (x3 : Int32) (z4 : Option Value) (I : xI) (J : xJ) {t : (Int32 × Int32 × Int32 × (Option Value) × xI × xJ) ⊕ (Int32 × xI × xJ)} (h : f_X1_pairsIn_2 x1 x2 x3 z4 I J = some t) (hC : (c_X1_pairsIn_1 L xs d Q) t) : Rn L xs (d + 2) 9 15 [some (.ref 36), some (.int x1), some (.int x2), some (.int x3), z4] [] 94 (I, J, xrf) Q := by
  unfold f_X1_pairsIn_2 at h
  refine Rn.go 4 (j' := 9) (pc' := 20) (ls' := [some (.ref 36), some (.int x1), some (.int x2), some (.int x3), some (.int ((x3 + 1)))]) (st' := []) (n' := 94) (M' := (I, J, xrf)) (fun f => rfl) ?_
  exact p_X1_pairsIn_3 x1 x2 x3 ((x3 + 1)) I J h hC
theorem q_X1_pairsIn_1 {L : Nat} {xs : Nat → Int32} {d : Nat} {Q : xO → Prop} (x1 : Int32) (x2 : Int32) (x3 : Int32) (z4 : Option Value) (I : xI) (J : xJ) {t : (Int32 × Int32 × Int32 × (Option Value) × xI × xJ) ⊕ (Int32 × xI × xJ)} (h : b_X1_pairsIn_1 x1 x2 x3 z4 I J = some t) (hC : (c_X1_pairsIn_1 L xs d Q) t) : Rn L xs (d + 2) 9 4 [some (.ref 36), some (.int x1), some (.int x2), some (.int x3), z4] [] 94 (I, J, xrf) Q := by
  unfold b_X1_pairsIn_1 at h
  refine Rn.fi 5 (c := (I 1 0) ≤ x3) (p1 := 67) (l1 := [some (.ref 36), some (.int x1), some (.int x2), some (.int x3), z4]) (s1 := []) (n1 := 94) (M1 := (I, J, xrf)) (p2 := 15) (l2 := [some (.ref 36), some (.int x1), some (.int x2), some (.int x3), z4]) (s2 := []) (n2 := 94) (M2 := (I, J, xrf)) (fun f => rfl) (fun hc => ?_) (fun hc => ?_)
  · rw [if_pos hc] at h
    obtain ⟨t0, h0, rfl⟩ := Option.map_eq_some_iff.mp h
    exact p_X1_pairsIn_9 x1 x2 x3 z4 I J h0 hC
  · rw [if_neg hc] at h
    exact p_X1_pairsIn_2 x1 x2 x3 z4 I J h hC
theorem p_X1_pairsIn_1 {L : Nat} {xs : Nat → Int32} {d : Nat} {Q : xO → Prop} (x1 : Int32) (x2 : Int32) (x3 : Int32) (z4 : Option Value) (I : xI) (J : xJ) {t : Int32 × xI × xJ} (h : f_X1_pairsIn_1 x1 x2 x3 z4 I J = some t) (hC : (c_X1_pairsIn Q) t) : Rn L xs (d + 2) 9 4 [some (.ref 36), some (.int x1), some (.int x2), some (.int x3), z4] [] 94 (I, J, xrf) Q := by
  unfold f_X1_pairsIn_1 at h
  exact xloop_some (P := fun s : Int32 × Int32 × Int32 × (Option Value) × xI × xJ => Rn L xs (d + 2) 9 4 [some (.ref 36), some (.int s.1), some (.int s.2.1), some (.int s.2.2.1), s.2.2.2.1] [] 94 (s.2.2.2.2.1, s.2.2.2.2.2, xrf) Q) t (fun s ⟨s', hb, hp⟩ => q_X1_pairsIn_1 s.1 s.2.1 s.2.2.1 s.2.2.2.1 s.2.2.2.2.1 s.2.2.2.2.2 hb hp) (fun s hb => q_X1_pairsIn_1 s.1 s.2.1 s.2.2.1 s.2.2.2.1 s.2.2.2.2.1 s.2.2.2.2.2 hb hC) _ _ h
theorem p_X1_pairsIn_0 {L : Nat} {xs : Nat → Int32} {d : Nat} {Q : xO → Prop} (x1 : Int32) (I : xI) (J : xJ) {t : Int32 × xI × xJ} (h : f_X1_pairsIn_0 x1 I J = some t) (hC : (c_X1_pairsIn Q) t) : Rn L xs (d + 2) 9 0 [some (.ref 36), some (.int x1), none, none, none] [] 94 (I, J, xrf) Q := by
  unfold f_X1_pairsIn_0 at h
  refine Rn.go 4 (j' := 9) (pc' := 4) (ls' := [some (.ref 36), some (.int x1), some (.int 0), some (.int 0), none]) (st' := []) (n' := 94) (M' := (I, J, xrf)) (fun f => rfl) ?_
  exact p_X1_pairsIn_1 x1 0 0 none I J h hC
theorem p_X1_pairsIn {L : Nat} {xs : Nat → Int32} {d : Nat} {Q : xO → Prop} (x1 : Int32) (I : xI) (J : xJ) {t : Int32 × xI × xJ} (h : f_X1_pairsIn x1 I J = some t) (hC : Q ((some (.int t.1)), 94, (t.2.1, t.2.2, xrf))) : Rn L xs (d + 2) 9 0 [some (.ref 36), some (.int x1), none, none, none] [] 94 (I, J, xrf) Q := p_X1_pairsIn_0 x1 I J h hC
/-! X5_leadOf -/
def c_X5_leadOf (Q : xO → Prop) (t : Int32 × xI × xJ) : Prop := Q ((some (.int t.1)), 94, (t.2.1, t.2.2, xrf))
def c_X5_leadOf_1 (L : Nat) (xs : Nat → Int32) (d : Nat) (Q : xO → Prop) (t : (Int32 × Int32 × Int32 × Int32 × (Option Value) × xI × xJ) ⊕ (Int32 × xI × xJ)) : Prop := match t with
  | .inl s => Rn L xs (d + 2) 61 5 [some (.ref 1), some (.int s.1), some (.int s.2.1), some (.int s.2.2.1), some (.int s.2.2.2.1), s.2.2.2.2.1] [] 94 (s.2.2.2.2.2.1, s.2.2.2.2.2.2, xrf) Q
  | .inr t => (c_X5_leadOf Q) t
def f_X5_leadOf_7 (x1 : Int32) (x2 : Int32) (x3 : Int32) (x4 : Int32) (z5 : Option Value) (I : xI) (J : xJ) : Option (Int32 × xI × xJ) := some (x3, I, J)
def f_X5_leadOf_6 (x1 : Int32) (x2 : Int32) (x3 : Int32) (x4 : Int32) (x5 : Int32) (I : xI) (J : xJ) : Option ((Int32 × Int32 × Int32 × Int32 × (Option Value) × xI × xJ) ⊕ (Int32 × xI × xJ)) := some (.inl (x1, x2, x3, ((x4 + 1)), (some (.int x5)), I, J))
def f_X5_leadOf_5 (x1 : Int32) (x2 : Int32) (x3 : Int32) (x4 : Int32) (x5 : Int32) (I : xI) (J : xJ) : Option ((Int32 × Int32 × Int32 × Int32 × (Option Value) × xI × xJ) ⊕ (Int32 × xI × xJ)) := f_X5_leadOf_6 x1 x2 ((x3 ||| (1 <<< (x5 &&& 31)))) x4 x5 I J
def f_X5_leadOf_4 (x1 : Int32) (x2 : Int32) (x3 : Int32) (x4 : Int32) (x5 : Int32) (I : xI) (J : xJ) : Option ((Int32 × Int32 × Int32 × Int32 × (Option Value) × xI × xJ) ⊕ (Int32 × xI × xJ)) := if x5 < 0 then f_X5_leadOf_6 x1 x2 x3 x4 x5 I J else f_X5_leadOf_5 x1 x2 x3 x4 x5 I J
def f_X5_leadOf_3 (x1 : Int32) (x2 : Int32) (x3 : Int32) (x4 : Int32) (z5 : Option Value) (s0 : Int32) (I : xI) (J : xJ) : Option ((Int32 × Int32 × Int32 × Int32 × (Option Value) × xI × xJ) ⊕ (Int32 × xI × xJ)) := if ((x1 >>> (x4 &&& 31)) &&& 1) = 1 then f_X5_leadOf_4 x1 x2 x3 x4 s0 I J else f_X5_leadOf_6 x1 x2 x3 x4 s0 I J
def f_X5_leadOf_2 (x1 : Int32) (x2 : Int32) (x3 : Int32) (x4 : Int32) (z5 : Option Value) (I : xI) (J : xJ) : Option ((Int32 × Int32 × Int32 × Int32 × (Option Value) × xI × xJ) ⊕ (Int32 × xI × xJ)) := (f_X5_targetOf x4 x2 I J).bind fun o => f_X5_leadOf_3 x1 x2 x3 x4 z5 o.1 o.2.1 o.2.2
def b_X5_leadOf_1 (x1 : Int32) (x2 : Int32) (x3 : Int32) (x4 : Int32) (z5 : Option Value) (I : xI) (J : xJ) : Option ((Int32 × Int32 × Int32 × Int32 × (Option Value) × xI × xJ) ⊕ (Int32 × xI × xJ)) := if (I 1 0) ≤ x4 then ((f_X5_leadOf_7 x1 x2 x3 x4 z5 I J)).map .inr else f_X5_leadOf_2 x1 x2 x3 x4 z5 I J
def f_X5_leadOf_1 (x1 : Int32) (x2 : Int32) (x3 : Int32) (x4 : Int32) (z5 : Option Value) (I : xI) (J : xJ) : Option (Int32 × xI × xJ) := xloop (fun s : Int32 × Int32 × Int32 × Int32 × (Option Value) × xI × xJ => b_X5_leadOf_1 s.1 s.2.1 s.2.2.1 s.2.2.2.1 s.2.2.2.2.1 s.2.2.2.2.2.1 s.2.2.2.2.2.2) 5000 (x1, x2, x3, x4, z5, I, J)
def f_X5_leadOf_0 (x1 : Int32) (x2 : Int32) (I : xI) (J : xJ) : Option (Int32 × xI × xJ) := f_X5_leadOf_1 x1 x2 0 0 none I J
def f_X5_leadOf (x1 : Int32) (x2 : Int32) (I : xI) (J : xJ) : Option (Int32 × xI × xJ) := f_X5_leadOf_0 x1 x2 I J
theorem p_X5_leadOf_7 {L : Nat} {xs : Nat → Int32} {d : Nat} {Q : xO → Prop} (x1 : Int32) (x2 : Int32) (x3 : Int32) (x4 : Int32) (z5 : Option Value) (I : xI) (J : xJ) {t : Int32 × xI × xJ} (h : f_X5_leadOf_7 x1 x2 x3 x4 z5 I J = some t) (hC : (c_X5_leadOf Q) t) : Rn L xs (d + 2) 61 51 [some (.ref 1), some (.int x1), some (.int x2), some (.int x3), some (.int x4), z5] [] 94 (I, J, xrf) Q := by
  unfold f_X5_leadOf_7 at h
  cases h
  exact Rn.ret 2 (o := ((some (.int x3)), 94, (I, J, xrf))) (fun f => rfl) hC
theorem p_X5_leadOf_6 {L : Nat} {xs : Nat → Int32} {d : Nat} {Q : xO → Prop} (x1 : Int32) (x2 : Int32) (x3 : Int32) (x4 : Int32) (x5 : Int32) (I : xI) (J : xJ) {t : (Int32 × Int32 × Int32 × Int32 × (Option Value) × xI × xJ) ⊕ (Int32 × xI × xJ)} (h : f_X5_leadOf_6 x1 x2 x3 x4 x5 I J = some t) (hC : (c_X5_leadOf_1 L xs d Q) t) : Rn L xs (d + 2) 61 45 [some (.ref 1), some (.int x1), some (.int x2), some (.int x3), some (.int x4), some (.int x5)] [] 94 (I, J, xrf) Q := by
  unfold f_X5_leadOf_6 at h
  refine Rn.go 2 (j' := 61) (pc' := 5) (ls' := [some (.ref 1), some (.int x1), some (.int x2), some (.int x3), some (.int ((x4 + 1))), some (.int x5)]) (st' := []) (n' := 94) (M' := (I, J, xrf)) (fun f => rfl) ?_
  cases h; exact hC
theorem p_X5_leadOf_5 {L : Nat} {xs : Nat → Int32} {d : Nat} {Q : xO → Prop} (x1 : Int32) (x2 : Int32) (x3 : Int32) (x4 : Int32) (x5 : Int32) (I : xI) (J : xJ) {t : (Int32 × Int32 × Int32 × Int32 × (Option Value) × xI × xJ) ⊕ (Int32 × xI × xJ)} (h : f_X5_leadOf_5 x1 x2 x3 x4 x5 I J = some t) (hC : (c_X5_leadOf_1 L xs d Q) t) : Rn L xs (d + 2) 61 38 [some (.ref 1), some (.int x1), some (.int x2), some (.int x3), some (.int x4), some (.int x5)] [] 94 (I, J, xrf) Q := by
  unfold f_X5_leadOf_5 at h
  refine Rn.go 6 (j' := 61) (pc' := 45) (ls' := [some (.ref 1), some (.int x1), some (.int x2), some (.int ((x3 ||| (1 <<< (x5 &&& 31))))), some (.int x4), some (.int x5)]) (st' := []) (n' := 94) (M' := (I, J, xrf)) (fun f => rfl) ?_
  exact p_X5_leadOf_6 x1 x2 ((x3 ||| (1 <<< (x5 &&& 31)))) x4 x5 I J h hC
theorem p_X5_leadOf_4 {L : Nat} {xs : Nat → Int32} {d : Nat} {Q : xO → Prop} (x1 : Int32) (x2 : Int32) (x3 : Int32) (x4 : Int32) (x5 : Int32) (I : xI) (J : xJ) {t : (Int32 × Int32 × Int32 × Int32 × (Option Value) × xI × xJ) ⊕ (Int32 × xI × xJ)} (h : f_X5_leadOf_4 x1 x2 x3 x4 x5 I J = some t) (hC : (c_X5_leadOf_1 L xs d Q) t) : Rn L xs (d + 2) 61 33 [some (.ref 1), some (.int x1), some (.int x2), some (.int x3), some (.int x4), some (.int x5)] [] 94 (I, J, xrf) Q := by
  unfold f_X5_leadOf_4 at h
  refine Rn.fi 2 (c := x5 < 0) (p1 := 45) (l1 := [some (.ref 1), some (.int x1), some (.int x2), some (.int x3), some (.int x4), some (.int x5)]) (s1 := []) (n1 := 94) (M1 := (I, J, xrf)) (p2 := 38) (l2 := [some (.ref 1), some (.int x1), some (.int x2), some (.int x3), some (.int x4), some (.int x5)]) (s2 := []) (n2 := 94) (M2 := (I, J, xrf)) (fun f => rfl) (fun hc => ?_) (fun hc => ?_)
  · rw [if_pos hc] at h
    exact p_X5_leadOf_6 x1 x2 x3 x4 x5 I J h hC
  · rw [if_neg hc] at h
    exact p_X5_leadOf_5 x1 x2 x3 x4 x5 I J h hC
theorem p_X5_leadOf_3 {L : Nat} {xs : Nat → Int32} {d : Nat} {Q : xO → Prop} (x1 : Int32) (x2 : Int32) (x3 : Int32) (x4 : Int32) (z5 : Option Value) (s0 : Int32) (I : xI) (J : xJ) {t : (Int32 × Int32 × Int32 × Int32 × (Option Value) × xI × xJ) ⊕ (Int32 × xI × xJ)} (h : f_X5_leadOf_3 x1 x2 x3 x4 z5 s0 I J = some t) (hC : (c_X5_leadOf_1 L xs d Q) t) : Rn L xs (d + 2) 61 21 [some (.ref 1), some (.int x1), some (.int x2), some (.int x3), some (.int x4), z5] [.int s0] 94 (I, J, xrf) Q := by
  unfold f_X5_leadOf_3 at h
  refine Rn.fi 8 (c := ((x1 >>> (x4 &&& 31)) &&& 1) = 1) (p1 := 33) (l1 := [some (.ref 1), some (.int x1), some (.int x2), some (.int x3), some (.int x4), some (.int s0)]) (s1 := []) (n1 := 94) (M1 := (I, J, xrf)) (p2 := 45) (l2 := [some (.ref 1), some (.int x1), some (.int x2), some (.int x3), some (.int x4), some (.int s0)]) (s2 := []) (n2 := 94) (M2 := (I, J, xrf)) (fun f => rfl) (fun hc => ?_) (fun hc => ?_)
  · rw [if_pos hc] at h
    exact p_X5_leadOf_4 x1 x2 x3 x4 s0 I J h hC
  · rw [if_neg hc] at h
    exact p_X5_leadOf_6 x1 x2 x3 x4 s0 I J h hC
theorem p_X5_leadOf_2 {L : Nat} {xs : Nat → Int32} {d : Nat} {Q : xO → Prop} (x1 : Int32) (x2 : Int32) (x3 : Int32) (x4 : Int32) (z5 : Option Value) (I : xI) (J : xJ) {t : (Int32 × Int32 × Int32 × Int32 × (Option Value) × xI × xJ) ⊕ (Int32 × xI × xJ)} (h : f_X5_leadOf_2 x1 x2 x3 x4 z5 I J = some t) (hC : (c_X5_leadOf_1 L xs d Q) t) : Rn L xs (d + 2) 61 14 [some (.ref 1), some (.int x1), some (.int x2), some (.int x3), some (.int x4), z5] [] 94 (I, J, xrf) Q := by
  unfold f_X5_leadOf_2 at h
  refine Rn.go 3 (j' := 61) (pc' := 18) (ls' := [some (.ref 1), some (.int x1), some (.int x2), some (.int x3), some (.int x4), z5]) (st' := [.int x2, .int x4, .ref 1]) (n' := 94) (M' := (I, J, xrf)) (fun f => rfl) ?_
  obtain ⟨o, ho, h⟩ := Option.bind_eq_some_iff.mp h
  refine Rn.call (d1 := d + 1) (j1 := 57) (ls1 := [some (.ref 1), some (.int x4), some (.int x2)]) (rest := []) (fun f => rfl) ?_
  refine p_X5_targetOf (d := d + 0) x4 x2 I J (t := o) ho ?_
  exact p_X5_leadOf_3 x1 x2 x3 x4 z5 o.1 o.2.1 o.2.2 h hC
theorem q_X5_leadOf_1 {L : Nat} {xs : Nat → Int32} {d : Nat} {Q : xO → Prop} (x1 : Int32) (x2 : Int32) (x3 : Int32) (x4 : Int32) (z5 : Option Value) (I : xI) (J : xJ) {t : (Int32 × Int32 × Int32 × Int32 × (Option Value) × xI × xJ) ⊕ (Int32 × xI × xJ)} (h : b_X5_leadOf_1 x1 x2 x3 x4 z5 I J = some t) (hC : (c_X5_leadOf_1 L xs d Q) t) : Rn L xs (d + 2) 61 5 [some (.ref 1), some (.int x1), some (.int x2), some (.int x3), some (.int x4), z5] [] 94 (I, J, xrf) Q := by
  unfold b_X5_leadOf_1 at h
  refine Rn.fi 4 (c := (I 1 0) ≤ x4) (p1 := 51) (l1 := [some (.ref 1), some (.int x1), some (.int x2), some (.int x3), some (.int x4), z5]) (s1 := []) (n1 := 94) (M1 := (I, J, xrf)) (p2 := 14) (l2 := [some (.ref 1), some (.int x1), some (.int x2), some (.int x3), some (.int x4), z5]) (s2 := []) (n2 := 94) (M2 := (I, J, xrf)) (fun f => rfl) (fun hc => ?_) (fun hc => ?_)
  · rw [if_pos hc] at h
    obtain ⟨t0, h0, rfl⟩ := Option.map_eq_some_iff.mp h
    exact p_X5_leadOf_7 x1 x2 x3 x4 z5 I J h0 hC
  · rw [if_neg hc] at h
    exact p_X5_leadOf_2 x1 x2 x3 x4 z5 I J h hC
theorem p_X5_leadOf_1 {L : Nat} {xs : Nat → Int32} {d : Nat} {Q : xO → Prop} (x1 : Int32) (x2 : Int32) (x3 : Int32) (x4 : Int32) (z5 : Option Value) (I : xI) (J : xJ) {t : Int32 × xI × xJ} (h : f_X5_leadOf_1 x1 x2 x3 x4 z5 I J = some t) (hC : (c_X5_leadOf Q) t) : Rn L xs (d + 2) 61 5 [some (.ref 1), some (.int x1), some (.int x2), some (.int x3), some (.int x4), z5] [] 94 (I, J, xrf) Q := by
  unfold f_X5_leadOf_1 at h
  exact xloop_some (P := fun s : Int32 × Int32 × Int32 × Int32 × (Option Value) × xI × xJ => Rn L xs (d + 2) 61 5 [some (.ref 1), some (.int s.1), some (.int s.2.1), some (.int s.2.2.1), some (.int s.2.2.2.1), s.2.2.2.2.1] [] 94 (s.2.2.2.2.2.1, s.2.2.2.2.2.2, xrf) Q) t (fun s ⟨s', hb, hp⟩ => q_X5_leadOf_1 s.1 s.2.1 s.2.2.1 s.2.2.2.1 s.2.2.2.2.1 s.2.2.2.2.2.1 s.2.2.2.2.2.2 hb hp) (fun s hb => q_X5_leadOf_1 s.1 s.2.1 s.2.2.1 s.2.2.2.1 s.2.2.2.2.1 s.2.2.2.2.2.1 s.2.2.2.2.2.2 hb hC) _ _ h
theorem p_X5_leadOf_0 {L : Nat} {xs : Nat → Int32} {d : Nat} {Q : xO → Prop} (x1 : Int32) (x2 : Int32) (I : xI) (J : xJ) {t : Int32 × xI × xJ} (h : f_X5_leadOf_0 x1 x2 I J = some t) (hC : (c_X5_leadOf Q) t) : Rn L xs (d + 2) 61 0 [some (.ref 1), some (.int x1), some (.int x2), none, none, none] [] 94 (I, J, xrf) Q := by
  unfold f_X5_leadOf_0 at h
  refine Rn.go 4 (j' := 61) (pc' := 5) (ls' := [some (.ref 1), some (.int x1), some (.int x2), some (.int 0), some (.int 0), none]) (st' := []) (n' := 94) (M' := (I, J, xrf)) (fun f => rfl) ?_
  exact p_X5_leadOf_1 x1 x2 0 0 none I J h hC
theorem p_X5_leadOf {L : Nat} {xs : Nat → Int32} {d : Nat} {Q : xO → Prop} (x1 : Int32) (x2 : Int32) (I : xI) (J : xJ) {t : Int32 × xI × xJ} (h : f_X5_leadOf x1 x2 I J = some t) (hC : Q ((some (.int t.1)), 94, (t.2.1, t.2.2, xrf))) : Rn L xs (d + 2) 61 0 [some (.ref 1), some (.int x1), some (.int x2), none, none, none] [] 94 (I, J, xrf) Q := p_X5_leadOf_0 x1 x2 I J h hC
/-! J6_bitCount_0f7a4 -/
def c_J6_bitCount_0f7a4 (Q : xO → Prop) (t : Int32 × xI × xJ) : Prop := Q ((some (.int t.1)), 94, (t.2.1, t.2.2, xrf))
def f_J6_bitCount_0f7a4_0 (x0 : Int32) (I : xI) (J : xJ) : Option (Int32 × xI × xJ) := some (((((((((x0 - ((Int32.toUInt32 x0 >>> (Int32.toUInt32 1 &&& Int32.toUInt32 31)).toInt32 &&& 1431655765)) &&& 858993459) + ((Int32.toUInt32 ((x0 - ((Int32.toUInt32 x0 >>> (Int32.toUInt32 1 &&& Int32.toUInt32 31)).toInt32 &&& 1431655765))) >>> (Int32.toUInt32 2 &&& Int32.toUInt32 31)).toInt32 &&& 858993459)) + (Int32.toUInt32 ((((x0 - ((Int32.toUInt32 x0 >>> (Int32.toUInt32 1 &&& Int32.toUInt32 31)).toInt32 &&& 1431655765)) &&& 858993459) + ((Int32.toUInt32 ((x0 - ((Int32.toUInt32 x0 >>> (Int32.toUInt32 1 &&& Int32.toUInt32 31)).toInt32 &&& 1431655765))) >>> (Int32.toUInt32 2 &&& Int32.toUInt32 31)).toInt32 &&& 858993459))) >>> (Int32.toUInt32 4 &&& Int32.toUInt32 31)).toInt32) &&& 252645135) + (Int32.toUInt32 ((((((x0 - ((Int32.toUInt32 x0 >>> (Int32.toUInt32 1 &&& Int32.toUInt32 31)).toInt32 &&& 1431655765)) &&& 858993459) + ((Int32.toUInt32 ((x0 - ((Int32.toUInt32 x0 >>> (Int32.toUInt32 1 &&& Int32.toUInt32 31)).toInt32 &&& 1431655765))) >>> (Int32.toUInt32 2 &&& Int32.toUInt32 31)).toInt32 &&& 858993459)) + (Int32.toUInt32 ((((x0 - ((Int32.toUInt32 x0 >>> (Int32.toUInt32 1 &&& Int32.toUInt32 31)).toInt32 &&& 1431655765)) &&& 858993459) + ((Int32.toUInt32 ((x0 - ((Int32.toUInt32 x0 >>> (Int32.toUInt32 1 &&& Int32.toUInt32 31)).toInt32 &&& 1431655765))) >>> (Int32.toUInt32 2 &&& Int32.toUInt32 31)).toInt32 &&& 858993459))) >>> (Int32.toUInt32 4 &&& Int32.toUInt32 31)).toInt32) &&& 252645135)) >>> (Int32.toUInt32 8 &&& Int32.toUInt32 31)).toInt32) + (Int32.toUInt32 (((((((x0 - ((Int32.toUInt32 x0 >>> (Int32.toUInt32 1 &&& Int32.toUInt32 31)).toInt32 &&& 1431655765)) &&& 858993459) + ((Int32.toUInt32 ((x0 - ((Int32.toUInt32 x0 >>> (Int32.toUInt32 1 &&& Int32.toUInt32 31)).toInt32 &&& 1431655765))) >>> (Int32.toUInt32 2 &&& Int32.toUInt32 31)).toInt32 &&& 858993459)) + (Int32.toUInt32 ((((x0 - ((Int32.toUInt32 x0 >>> (Int32.toUInt32 1 &&& Int32.toUInt32 31)).toInt32 &&& 1431655765)) &&& 858993459) + ((Int32.toUInt32 ((x0 - ((Int32.toUInt32 x0 >>> (Int32.toUInt32 1 &&& Int32.toUInt32 31)).toInt32 &&& 1431655765))) >>> (Int32.toUInt32 2 &&& Int32.toUInt32 31)).toInt32 &&& 858993459))) >>> (Int32.toUInt32 4 &&& Int32.toUInt32 31)).toInt32) &&& 252645135) + (Int32.toUInt32 ((((((x0 - ((Int32.toUInt32 x0 >>> (Int32.toUInt32 1 &&& Int32.toUInt32 31)).toInt32 &&& 1431655765)) &&& 858993459) + ((Int32.toUInt32 ((x0 - ((Int32.toUInt32 x0 >>> (Int32.toUInt32 1 &&& Int32.toUInt32 31)).toInt32 &&& 1431655765))) >>> (Int32.toUInt32 2 &&& Int32.toUInt32 31)).toInt32 &&& 858993459)) + (Int32.toUInt32 ((((x0 - ((Int32.toUInt32 x0 >>> (Int32.toUInt32 1 &&& Int32.toUInt32 31)).toInt32 &&& 1431655765)) &&& 858993459) + ((Int32.toUInt32 ((x0 - ((Int32.toUInt32 x0 >>> (Int32.toUInt32 1 &&& Int32.toUInt32 31)).toInt32 &&& 1431655765))) >>> (Int32.toUInt32 2 &&& Int32.toUInt32 31)).toInt32 &&& 858993459))) >>> (Int32.toUInt32 4 &&& Int32.toUInt32 31)).toInt32) &&& 252645135)) >>> (Int32.toUInt32 8 &&& Int32.toUInt32 31)).toInt32)) >>> (Int32.toUInt32 16 &&& Int32.toUInt32 31)).toInt32) &&& 63), I, J)
def f_J6_bitCount_0f7a4 (x0 : Int32) (I : xI) (J : xJ) : Option (Int32 × xI × xJ) := f_J6_bitCount_0f7a4_0 x0 I J
theorem p_J6_bitCount_0f7a4_0 {L : Nat} {xs : Nat → Int32} {d : Nat} {Q : xO → Prop} (x0 : Int32) (I : xI) (J : xJ) {t : Int32 × xI × xJ} (h : f_J6_bitCount_0f7a4_0 x0 I J = some t) (hC : (c_J6_bitCount_0f7a4 Q) t) : Rn L xs (d + 1) 299 0 [some (.int x0)] [] 94 (I, J, xrf) Q := by
  unfold f_J6_bitCount_0f7a4_0 at h
  cases h
  exact Rn.ret 42 (o := ((some (.int (((((((((x0 - ((Int32.toUInt32 x0 >>> (Int32.toUInt32 1 &&& Int32.toUInt32 31)).toInt32 &&& 1431655765)) &&& 858993459) + ((Int32.toUInt32 ((x0 - ((Int32.toUInt32 x0 >>> (Int32.toUInt32 1 &&& Int32.toUInt32 31)).toInt32 &&& 1431655765))) >>> (Int32.toUInt32 2 &&& Int32.toUInt32 31)).toInt32 &&& 858993459)) + (Int32.toUInt32 ((((x0 - ((Int32.toUInt32 x0 >>> (Int32.toUInt32 1 &&& Int32.toUInt32 31)).toInt32 &&& 1431655765)) &&& 858993459) + ((Int32.toUInt32 ((x0 - ((Int32.toUInt32 x0 >>> (Int32.toUInt32 1 &&& Int32.toUInt32 31)).toInt32 &&& 1431655765))) >>> (Int32.toUInt32 2 &&& Int32.toUInt32 31)).toInt32 &&& 858993459))) >>> (Int32.toUInt32 4 &&& Int32.toUInt32 31)).toInt32) &&& 252645135) + (Int32.toUInt32 ((((((x0 - ((Int32.toUInt32 x0 >>> (Int32.toUInt32 1 &&& Int32.toUInt32 31)).toInt32 &&& 1431655765)) &&& 858993459) + ((Int32.toUInt32 ((x0 - ((Int32.toUInt32 x0 >>> (Int32.toUInt32 1 &&& Int32.toUInt32 31)).toInt32 &&& 1431655765))) >>> (Int32.toUInt32 2 &&& Int32.toUInt32 31)).toInt32 &&& 858993459)) + (Int32.toUInt32 ((((x0 - ((Int32.toUInt32 x0 >>> (Int32.toUInt32 1 &&& Int32.toUInt32 31)).toInt32 &&& 1431655765)) &&& 858993459) + ((Int32.toUInt32 ((x0 - ((Int32.toUInt32 x0 >>> (Int32.toUInt32 1 &&& Int32.toUInt32 31)).toInt32 &&& 1431655765))) >>> (Int32.toUInt32 2 &&& Int32.toUInt32 31)).toInt32 &&& 858993459))) >>> (Int32.toUInt32 4 &&& Int32.toUInt32 31)).toInt32) &&& 252645135)) >>> (Int32.toUInt32 8 &&& Int32.toUInt32 31)).toInt32) + (Int32.toUInt32 (((((((x0 - ((Int32.toUInt32 x0 >>> (Int32.toUInt32 1 &&& Int32.toUInt32 31)).toInt32 &&& 1431655765)) &&& 858993459) + ((Int32.toUInt32 ((x0 - ((Int32.toUInt32 x0 >>> (Int32.toUInt32 1 &&& Int32.toUInt32 31)).toInt32 &&& 1431655765))) >>> (Int32.toUInt32 2 &&& Int32.toUInt32 31)).toInt32 &&& 858993459)) + (Int32.toUInt32 ((((x0 - ((Int32.toUInt32 x0 >>> (Int32.toUInt32 1 &&& Int32.toUInt32 31)).toInt32 &&& 1431655765)) &&& 858993459) + ((Int32.toUInt32 ((x0 - ((Int32.toUInt32 x0 >>> (Int32.toUInt32 1 &&& Int32.toUInt32 31)).toInt32 &&& 1431655765))) >>> (Int32.toUInt32 2 &&& Int32.toUInt32 31)).toInt32 &&& 858993459))) >>> (Int32.toUInt32 4 &&& Int32.toUInt32 31)).toInt32) &&& 252645135) + (Int32.toUInt32 ((((((x0 - ((Int32.toUInt32 x0 >>> (Int32.toUInt32 1 &&& Int32.toUInt32 31)).toInt32 &&& 1431655765)) &&& 858993459) + ((Int32.toUInt32 ((x0 - ((Int32.toUInt32 x0 >>> (Int32.toUInt32 1 &&& Int32.toUInt32 31)).toInt32 &&& 1431655765))) >>> (Int32.toUInt32 2 &&& Int32.toUInt32 31)).toInt32 &&& 858993459)) + (Int32.toUInt32 ((((x0 - ((Int32.toUInt32 x0 >>> (Int32.toUInt32 1 &&& Int32.toUInt32 31)).toInt32 &&& 1431655765)) &&& 858993459) + ((Int32.toUInt32 ((x0 - ((Int32.toUInt32 x0 >>> (Int32.toUInt32 1 &&& Int32.toUInt32 31)).toInt32 &&& 1431655765))) >>> (Int32.toUInt32 2 &&& Int32.toUInt32 31)).toInt32 &&& 858993459))) >>> (Int32.toUInt32 4 &&& Int32.toUInt32 31)).toInt32) &&& 252645135)) >>> (Int32.toUInt32 8 &&& Int32.toUInt32 31)).toInt32)) >>> (Int32.toUInt32 16 &&& Int32.toUInt32 31)).toInt32) &&& 63)))), 94, (I, J, xrf))) (fun f => rfl) hC
theorem p_J6_bitCount_0f7a4 {L : Nat} {xs : Nat → Int32} {d : Nat} {Q : xO → Prop} (x0 : Int32) (I : xI) (J : xJ) {t : Int32 × xI × xJ} (h : f_J6_bitCount_0f7a4 x0 I J = some t) (hC : Q ((some (.int t.1)), 94, (t.2.1, t.2.2, xrf))) : Rn L xs (d + 1) 299 0 [some (.int x0)] [] 94 (I, J, xrf) Q := p_J6_bitCount_0f7a4_0 x0 I J h hC
/-! X1_addClass -/
def c_X1_addClass (Q : xO → Prop) (t : Unit × xI × xJ) : Prop := Q (none, 94, (t.2.1, t.2.2, xrf))
def c_X1_addClass_1 (L : Nat) (xs : Nat → Int32) (d : Nat) (Q : xO → Prop) (t : (Int32 × Int32 × xI × xJ) ⊕ (Unit × xI × xJ)) : Prop := match t with
  | .inl s => Rn L xs (d + 3) 10 12 [some (.ref 36), some (.int s.1), some (.int s.2.1)] [] 94 (s.2.2.1, s.2.2.2, xrf) Q
  | .inr t => (c_X1_addClass Q) t
def f_X1_addClass_5 (x1 : Int32) (x2 : Int32) (s1 : Int32) (s2 : Int32) (I : xI) (J : xJ) : Option (Unit × xI × xJ) := some ((), (xup I 36 5 ((if s1 < s2 then s2 else s1))), J)
def f_X1_addClass_4 (x1 : Int32) (x2 : Int32) (I : xI) (J : xJ) : Option (Unit × xI × xJ) := (f_J6_bitCount_0f7a4 x1 ((xup I 36 4 (((I 36 4) + 1)))) J).bind fun o => f_X1_addClass_5 x1 x2 ((((xup I 36 4 (((I 36 4) + 1)))) 36 5)) o.1 o.2.1 o.2.2
def f_X1_addClass_3 (x1 : Int32) (x2 : Int32) (s1 : Int32) (s2 : Int32) (I : xI) (J : xJ) : Option ((Int32 × Int32 × xI × xJ) ⊕ (Unit × xI × xJ)) := if s1 < 0 ∨ 256 ≤ s1.toNatClampNeg then none else some (.inl (x1, ((x2 + 1)), ((xup I 40 s1.toNatClampNeg s2)), J))
def f_X1_addClass_2 (x1 : Int32) (x2 : Int32) (I : xI) (J : xJ) : Option ((Int32 × Int32 × xI × xJ) ⊕ (Unit × xI × xJ)) := (f_X5_leadOf x1 x2 I J).bind fun o => f_X1_addClass_3 x1 x2 ((((I 36 4) * 4) + x2)) o.1 o.2.1 o.2.2
def b_X1_addClass_1 (x1 : Int32) (x2 : Int32) (I : xI) (J : xJ) : Option ((Int32 × Int32 × xI × xJ) ⊕ (Unit × xI × xJ)) := if (I 1 1) ≤ x2 then ((f_X1_addClass_4 x1 x2 I J)).map .inr else f_X1_addClass_2 x1 x2 I J
def f_X1_addClass_1 (x1 : Int32) (x2 : Int32) (I : xI) (J : xJ) : Option (Unit × xI × xJ) := xloop (fun s : Int32 × Int32 × xI × xJ => b_X1_addClass_1 s.1 s.2.1 s.2.2.1 s.2.2.2) 5000 (x1, x2, I, J)
def f_X1_addClass_0 (x1 : Int32) (I : xI) (J : xJ) : Option (Unit × xI × xJ) := if (I 36 4) < 0 ∨ 64 ≤ ((I 36 4)).toNatClampNeg then none else f_X1_addClass_1 x1 0 ((xup I 38 ((I 36 4)).toNatClampNeg x1)) J
def f_X1_addClass (x1 : Int32) (I : xI) (J : xJ) : Option (Unit × xI × xJ) := f_X1_addClass_0 x1 I J
theorem p_X1_addClass_5 {L : Nat} {xs : Nat → Int32} {d : Nat} {Q : xO → Prop} (x1 : Int32) (x2 : Int32) (s1 : Int32) (s2 : Int32) (I : xI) (J : xJ) {t : Unit × xI × xJ} (h : f_X1_addClass_5 x1 x2 s1 s2 I J = some t) (hC : (c_X1_addClass Q) t) : Rn L xs (d + 3) 10 70 [some (.ref 36), some (.int x1), some (.int x2)] [.int s2, .int s1, .ref 36] 94 (I, J, xrf) Q := by
  unfold f_X1_addClass_5 at h
  cases h
  exact Rn.ret 3 (o := (none, 94, ((xup I 36 5 ((if s1 < s2 then s2 else s1))), J, xrf))) (fun f => rfl) hC
theorem p_X1_addClass_4 {L : Nat} {xs : Nat → Int32} {d : Nat} {Q : xO → Prop} (x1 : Int32) (x2 : Int32) (I : xI) (J : xJ) {t : Unit × xI × xJ} (h : f_X1_addClass_4 x1 x2 I J = some t) (hC : (c_X1_addClass Q) t) : Rn L xs (d + 3) 10 51 [some (.ref 36), some (.int x1), some (.int x2)] [] 94 (I, J, xrf) Q := by
  unfold f_X1_addClass_4 at h
  refine Rn.go 10 (j' := 10) (pc' := 67) (ls' := [some (.ref 36), some (.int x1), some (.int x2)]) (st' := [.int x1, .int ((((xup I 36 4 (((I 36 4) + 1)))) 36 5)), .ref 36]) (n' := 94) (M' := ((xup I 36 4 (((I 36 4) + 1))), J, xrf)) (fun f => rfl) ?_
  obtain ⟨o, ho, h⟩ := Option.bind_eq_some_iff.mp h
  refine Rn.call (d1 := d + 2) (j1 := 299) (ls1 := [some (.int x1)]) (rest := [.int ((((xup I 36 4 (((I 36 4) + 1)))) 36 5)), .ref 36]) (fun f => rfl) ?_
  refine p_J6_bitCount_0f7a4 (d := d + 1) x1 ((xup I 36 4 (((I 36 4) + 1)))) J (t := o) ho ?_
  exact p_X1_addClass_5 x1 x2 ((((xup I 36 4 (((I 36 4) + 1)))) 36 5)) o.1 o.2.1 o.2.2 h hC
theorem p_X1_addClass_3 {L : Nat} {xs : Nat → Int32} {d : Nat} {Q : xO → Prop} (x1 : Int32) (x2 : Int32) (s1 : Int32) (s2 : Int32) (I : xI) (J : xJ) {t : (Int32 × Int32 × xI × xJ) ⊕ (Unit × xI × xJ)} (h : f_X1_addClass_3 x1 x2 s1 s2 I J = some t) (hC : (c_X1_addClass_1 L xs d Q) t) : Rn L xs (d + 3) 10 44 [some (.ref 36), some (.int x1), some (.int x2)] [.int s2, .int s1, .ref 40] 94 (I, J, xrf) Q := by
  unfold f_X1_addClass_3 at h
  obtain ⟨hc, h⟩ := xif h
  refine Rn.ok 1 (c := s1 < 0 ∨ 256 ≤ s1.toNatClampNeg) (p1 := 45) (l1 := [some (.ref 36), some (.int x1), some (.int x2)]) (s1 := []) (n1 := 94) (M1 := ((xup I 40 s1.toNatClampNeg s2), J, xrf)) (fun f => rfl) hc ?_
  refine Rn.go 2 (j' := 10) (pc' := 12) (ls' := [some (.ref 36), some (.int x1), some (.int ((x2 + 1)))]) (st' := []) (n' := 94) (M' := ((xup I 40 s1.toNatClampNeg s2), J, xrf)) (fun f => rfl) ?_
  cases h; exact hC
theorem p_X1_addClass_2 {L : Nat} {xs : Nat → Int32} {d : Nat} {Q : xO → Prop} (x1 : Int32) (x2 : Int32) (I : xI) (J : xJ) {t : (Int32 × Int32 × xI × xJ) ⊕ (Unit × xI × xJ)} (h : f_X1_addClass_2 x1 x2 I J = some t) (hC : (c_X1_addClass_1 L xs d Q) t) : Rn L xs (d + 3) 10 23 [some (.ref 36), some (.int x1), some (.int x2)] [] 94 (I, J, xrf) Q := by
  unfold f_X1_addClass_2 at h
  refine Rn.go 12 (j' := 10) (pc' := 41) (ls' := [some (.ref 36), some (.int x1), some (.int x2)]) (st' := [.int x2, .int x1, .ref 1, .int ((((I 36 4) * 4) + x2)), .ref 40]) (n' := 94) (M' := (I, J, xrf)) (fun f => rfl) ?_
  obtain ⟨o, ho, h⟩ := Option.bind_eq_some_iff.mp h
  refine Rn.call (d1 := d + 2) (j1 := 61) (ls1 := [some (.ref 1), some (.int x1), some (.int x2), none, none, none]) (rest := [.int ((((I 36 4) * 4) + x2)), .ref 40]) (fun f => rfl) ?_
  refine p_X5_leadOf (d := d + 0) x1 x2 I J (t := o) ho ?_
  exact p_X1_addClass_3 x1 x2 ((((I 36 4) * 4) + x2)) o.1 o.2.1 o.2.2 h hC
theorem q_X1_addClass_1 {L : Nat} {xs : Nat → Int32} {d : Nat} {Q : xO → Prop} (x1 : Int32) (x2 : Int32) (I : xI) (J : xJ) {t : (Int32 × Int32 × xI × xJ) ⊕ (Unit × xI × xJ)} (h : b_X1_addClass_1 x1 x2 I J = some t) (hC : (c_X1_addClass_1 L xs d Q) t) : Rn L xs (d + 3) 10 12 [some (.ref 36), some (.int x1), some (.int x2)] [] 94 (I, J, xrf) Q := by
  unfold b_X1_addClass_1 at h
  refine Rn.fi 5 (c := (I 1 1) ≤ x2) (p1 := 51) (l1 := [some (.ref 36), some (.int x1), some (.int x2)]) (s1 := []) (n1 := 94) (M1 := (I, J, xrf)) (p2 := 23) (l2 := [some (.ref 36), some (.int x1), some (.int x2)]) (s2 := []) (n2 := 94) (M2 := (I, J, xrf)) (fun f => rfl) (fun hc => ?_) (fun hc => ?_)
  · rw [if_pos hc] at h
    obtain ⟨t0, h0, rfl⟩ := Option.map_eq_some_iff.mp h
    exact p_X1_addClass_4 x1 x2 I J h0 hC
  · rw [if_neg hc] at h
    exact p_X1_addClass_2 x1 x2 I J h hC
theorem p_X1_addClass_1 {L : Nat} {xs : Nat → Int32} {d : Nat} {Q : xO → Prop} (x1 : Int32) (x2 : Int32) (I : xI) (J : xJ) {t : Unit × xI × xJ} (h : f_X1_addClass_1 x1 x2 I J = some t) (hC : (c_X1_addClass Q) t) : Rn L xs (d + 3) 10 12 [some (.ref 36), some (.int x1), some (.int x2)] [] 94 (I, J, xrf) Q := by
  unfold f_X1_addClass_1 at h
  exact xloop_some (P := fun s : Int32 × Int32 × xI × xJ => Rn L xs (d + 3) 10 12 [some (.ref 36), some (.int s.1), some (.int s.2.1)] [] 94 (s.2.2.1, s.2.2.2, xrf) Q) t (fun s ⟨s', hb, hp⟩ => q_X1_addClass_1 s.1 s.2.1 s.2.2.1 s.2.2.2 hb hp) (fun s hb => q_X1_addClass_1 s.1 s.2.1 s.2.2.1 s.2.2.2 hb hC) _ _ h
theorem p_X1_addClass_0 {L : Nat} {xs : Nat → Int32} {d : Nat} {Q : xO → Prop} (x1 : Int32) (I : xI) (J : xJ) {t : Unit × xI × xJ} (h : f_X1_addClass_0 x1 I J = some t) (hC : (c_X1_addClass Q) t) : Rn L xs (d + 3) 10 0 [some (.ref 36), some (.int x1), none] [] 94 (I, J, xrf) Q := by
  unfold f_X1_addClass_0 at h
  obtain ⟨hc, h⟩ := xif h
  refine Rn.ok 6 (c := (I 36 4) < 0 ∨ 64 ≤ ((I 36 4)).toNatClampNeg) (p1 := 10) (l1 := [some (.ref 36), some (.int x1), none]) (s1 := []) (n1 := 94) (M1 := ((xup I 38 ((I 36 4)).toNatClampNeg x1), J, xrf)) (fun f => rfl) hc ?_
  refine Rn.go 2 (j' := 10) (pc' := 12) (ls' := [some (.ref 36), some (.int x1), some (.int 0)]) (st' := []) (n' := 94) (M' := ((xup I 38 ((I 36 4)).toNatClampNeg x1), J, xrf)) (fun f => rfl) ?_
  exact p_X1_addClass_1 x1 0 ((xup I 38 ((I 36 4)).toNatClampNeg x1)) J h hC
theorem p_X1_addClass {L : Nat} {xs : Nat → Int32} {d : Nat} {Q : xO → Prop} (x1 : Int32) (I : xI) (J : xJ) {t : Unit × xI × xJ} (h : f_X1_addClass x1 I J = some t) (hC : Q (none, 94, (t.2.1, t.2.2, xrf))) : Rn L xs (d + 3) 10 0 [some (.ref 36), some (.int x1), none] [] 94 (I, J, xrf) Q := p_X1_addClass_0 x1 I J h hC
/-! X1_isGreatest -/
def c_X1_isGreatest (Q : xO → Prop) (t : Int32 × xI × xJ) : Prop := Q ((some (.int t.1)), 94, (t.2.1, t.2.2, xrf))
def c_X1_isGreatest_1 (L : Nat) (xs : Nat → Int32) (d : Nat) (Q : xO → Prop) (t : (Int32 × Int32 × xI × xJ) ⊕ (Int32 × xI × xJ)) : Prop := match t with
  | .inl s => Rn L xs (d + 1) 12 2 [some (.ref 36), some (.int s.1), some (.int s.2.1)] [] 94 (s.2.2.1, s.2.2.2, xrf) Q
  | .inr t => (c_X1_isGreatest Q) t
def f_X1_isGreatest_6 (x1 : Int32) (x2 : Int32) (I : xI) (J : xJ) : Option (Int32 × xI × xJ) := some (1, I, J)
def f_X1_isGreatest_5 (x1 : Int32) (x2 : Int32) (I : xI) (J : xJ) : Option ((Int32 × Int32 × xI × xJ) ⊕ (Int32 × xI × xJ)) := some (.inl (x1, ((x2 + 1)), I, J))
def f_X1_isGreatest_4 (x1 : Int32) (x2 : Int32) (I : xI) (J : xJ) : Option (Int32 × xI × xJ) := some (0, I, J)
def f_X1_isGreatest_3 (x1 : Int32) (x2 : Int32) (I : xI) (J : xJ) : Option ((Int32 × Int32 × xI × xJ) ⊕ (Int32 × xI × xJ)) := if (x1 ||| (1 <<< (x2 &&& 31))) < 0 ∨ 64 ≤ ((x1 ||| (1 <<< (x2 &&& 31)))).toNatClampNeg then none else if (I 37 ((x1 ||| (1 <<< (x2 &&& 31)))).toNatClampNeg) = 0 then f_X1_isGreatest_5 x1 x2 I J else ((f_X1_isGreatest_4 x1 x2 I J)).map .inr
def f_X1_isGreatest_2 (x1 : Int32) (x2 : Int32) (I : xI) (J : xJ) : Option ((Int32 × Int32 × xI × xJ) ⊕ (Int32 × xI × xJ)) := if ((x1 >>> (x2 &&& 31)) &&& 1) = 0 then f_X1_isGreatest_3 x1 x2 I J else f_X1_isGreatest_5 x1 x2 I J
def b_X1_isGreatest_1 (x1 : Int32) (x2 : Int32) (I : xI) (J : xJ) : Option ((Int32 × Int32 × xI × xJ) ⊕ (Int32 × xI × xJ)) := if (I 1 0) ≤ x2 then ((f_X1_isGreatest_6 x1 x2 I J)).map .inr else f_X1_isGreatest_2 x1 x2 I J
def f_X1_isGreatest_1 (x1 : Int32) (x2 : Int32) (I : xI) (J : xJ) : Option (Int32 × xI × xJ) := xloop (fun s : Int32 × Int32 × xI × xJ => b_X1_isGreatest_1 s.1 s.2.1 s.2.2.1 s.2.2.2) 5000 (x1, x2, I, J)
def f_X1_isGreatest_0 (x1 : Int32) (I : xI) (J : xJ) : Option (Int32 × xI × xJ) := f_X1_isGreatest_1 x1 0 I J
def f_X1_isGreatest (x1 : Int32) (I : xI) (J : xJ) : Option (Int32 × xI × xJ) := f_X1_isGreatest_0 x1 I J
theorem p_X1_isGreatest_6 {L : Nat} {xs : Nat → Int32} {d : Nat} {Q : xO → Prop} (x1 : Int32) (x2 : Int32) (I : xI) (J : xJ) {t : Int32 × xI × xJ} (h : f_X1_isGreatest_6 x1 x2 I J = some t) (hC : (c_X1_isGreatest Q) t) : Rn L xs (d + 1) 12 42 [some (.ref 36), some (.int x1), some (.int x2)] [] 94 (I, J, xrf) Q := by
  unfold f_X1_isGreatest_6 at h
  cases h
  exact Rn.ret 2 (o := ((some (.int 1)), 94, (I, J, xrf))) (fun f => rfl) hC
theorem p_X1_isGreatest_5 {L : Nat} {xs : Nat → Int32} {d : Nat} {Q : xO → Prop} (x1 : Int32) (x2 : Int32) (I : xI) (J : xJ) {t : (Int32 × Int32 × xI × xJ) ⊕ (Int32 × xI × xJ)} (h : f_X1_isGreatest_5 x1 x2 I J = some t) (hC : (c_X1_isGreatest_1 L xs d Q) t) : Rn L xs (d + 1) 12 36 [some (.ref 36), some (.int x1), some (.int x2)] [] 94 (I, J, xrf) Q := by
  unfold f_X1_isGreatest_5 at h
  refine Rn.go 2 (j' := 12) (pc' := 2) (ls' := [some (.ref 36), some (.int x1), some (.int ((x2 + 1)))]) (st' := []) (n' := 94) (M' := (I, J, xrf)) (fun f => rfl) ?_
  cases h; exact hC
theorem p_X1_isGreatest_4 {L : Nat} {xs : Nat → Int32} {d : Nat} {Q : xO → Prop} (x1 : Int32) (x2 : Int32) (I : xI) (J : xJ) {t : Int32 × xI × xJ} (h : f_X1_isGreatest_4 x1 x2 I J = some t) (hC : (c_X1_isGreatest Q) t) : Rn L xs (d + 1) 12 34 [some (.ref 36), some (.int x1), some (.int x2)] [] 94 (I, J, xrf) Q := by
  unfold f_X1_isGreatest_4 at h
  cases h
  exact Rn.ret 2 (o := ((some (.int 0)), 94, (I, J, xrf))) (fun f => rfl) hC
theorem p_X1_isGreatest_3 {L : Nat} {xs : Nat → Int32} {d : Nat} {Q : xO → Prop} (x1 : Int32) (x2 : Int32) (I : xI) (J : xJ) {t : (Int32 × Int32 × xI × xJ) ⊕ (Int32 × xI × xJ)} (h : f_X1_isGreatest_3 x1 x2 I J = some t) (hC : (c_X1_isGreatest_1 L xs d Q) t) : Rn L xs (d + 1) 12 21 [some (.ref 36), some (.int x1), some (.int x2)] [] 94 (I, J, xrf) Q := by
  unfold f_X1_isGreatest_3 at h
  obtain ⟨hc, h⟩ := xif h
  refine Rn.ok 8 (c := (x1 ||| (1 <<< (x2 &&& 31))) < 0 ∨ 64 ≤ ((x1 ||| (1 <<< (x2 &&& 31)))).toNatClampNeg) (p1 := 31) (l1 := [some (.ref 36), some (.int x1), some (.int x2)]) (s1 := [.int ((I 37 ((x1 ||| (1 <<< (x2 &&& 31)))).toNatClampNeg))]) (n1 := 94) (M1 := (I, J, xrf)) (fun f => rfl) hc ?_
  refine Rn.fi 1 (c := (I 37 ((x1 ||| (1 <<< (x2 &&& 31)))).toNatClampNeg) = 0) (p1 := 36) (l1 := [some (.ref 36), some (.int x1), some (.int x2)]) (s1 := []) (n1 := 94) (M1 := (I, J, xrf)) (p2 := 34) (l2 := [some (.ref 36), some (.int x1), some (.int x2)]) (s2 := []) (n2 := 94) (M2 := (I, J, xrf)) (fun f => rfl) (fun hc => ?_) (fun hc => ?_)
  · rw [if_pos hc] at h
    exact p_X1_isGreatest_5 x1 x2 I J h hC
  · rw [if_neg hc] at h
    obtain ⟨t0, h0, rfl⟩ := Option.map_eq_some_iff.mp h
    exact p_X1_isGreatest_4 x1 x2 I J h0 hC
theorem p_X1_isGreatest_2 {L : Nat} {xs : Nat → Int32} {d : Nat} {Q : xO → Prop} (x1 : Int32) (x2 : Int32) (I : xI) (J : xJ) {t : (Int32 × Int32 × xI × xJ) ⊕ (Int32 × xI × xJ)} (h : f_X1_isGreatest_2 x1 x2 I J = some t) (hC : (c_X1_isGreatest_1 L xs d Q) t) : Rn L xs (d + 1) 12 13 [some (.ref 36), some (.int x1), some (.int x2)] [] 94 (I, J, xrf) Q := by
  unfold f_X1_isGreatest_2 at h
  refine Rn.fi 6 (c := ((x1 >>> (x2 &&& 31)) &&& 1) = 0) (p1 := 21) (l1 := [some (.ref 36), some (.int x1), some (.int x2)]) (s1 := []) (n1 := 94) (M1 := (I, J, xrf)) (p2 := 36) (l2 := [some (.ref 36), some (.int x1), some (.int x2)]) (s2 := []) (n2 := 94) (M2 := (I, J, xrf)) (fun f => rfl) (fun hc => ?_) (fun hc => ?_)
  · rw [if_pos hc] at h
    exact p_X1_isGreatest_3 x1 x2 I J h hC
  · rw [if_neg hc] at h
    exact p_X1_isGreatest_5 x1 x2 I J h hC
theorem q_X1_isGreatest_1 {L : Nat} {xs : Nat → Int32} {d : Nat} {Q : xO → Prop} (x1 : Int32) (x2 : Int32) (I : xI) (J : xJ) {t : (Int32 × Int32 × xI × xJ) ⊕ (Int32 × xI × xJ)} (h : b_X1_isGreatest_1 x1 x2 I J = some t) (hC : (c_X1_isGreatest_1 L xs d Q) t) : Rn L xs (d + 1) 12 2 [some (.ref 36), some (.int x1), some (.int x2)] [] 94 (I, J, xrf) Q := by
  unfold b_X1_isGreatest_1 at h
  refine Rn.fi 5 (c := (I 1 0) ≤ x2) (p1 := 42) (l1 := [some (.ref 36), some (.int x1), some (.int x2)]) (s1 := []) (n1 := 94) (M1 := (I, J, xrf)) (p2 := 13) (l2 := [some (.ref 36), some (.int x1), some (.int x2)]) (s2 := []) (n2 := 94) (M2 := (I, J, xrf)) (fun f => rfl) (fun hc => ?_) (fun hc => ?_)
  · rw [if_pos hc] at h
    obtain ⟨t0, h0, rfl⟩ := Option.map_eq_some_iff.mp h
    exact p_X1_isGreatest_6 x1 x2 I J h0 hC
  · rw [if_neg hc] at h
    exact p_X1_isGreatest_2 x1 x2 I J h hC
theorem p_X1_isGreatest_1 {L : Nat} {xs : Nat → Int32} {d : Nat} {Q : xO → Prop} (x1 : Int32) (x2 : Int32) (I : xI) (J : xJ) {t : Int32 × xI × xJ} (h : f_X1_isGreatest_1 x1 x2 I J = some t) (hC : (c_X1_isGreatest Q) t) : Rn L xs (d + 1) 12 2 [some (.ref 36), some (.int x1), some (.int x2)] [] 94 (I, J, xrf) Q := by
  unfold f_X1_isGreatest_1 at h
  exact xloop_some (P := fun s : Int32 × Int32 × xI × xJ => Rn L xs (d + 1) 12 2 [some (.ref 36), some (.int s.1), some (.int s.2.1)] [] 94 (s.2.2.1, s.2.2.2, xrf) Q) t (fun s ⟨s', hb, hp⟩ => q_X1_isGreatest_1 s.1 s.2.1 s.2.2.1 s.2.2.2 hb hp) (fun s hb => q_X1_isGreatest_1 s.1 s.2.1 s.2.2.1 s.2.2.2 hb hC) _ _ h
theorem p_X1_isGreatest_0 {L : Nat} {xs : Nat → Int32} {d : Nat} {Q : xO → Prop} (x1 : Int32) (I : xI) (J : xJ) {t : Int32 × xI × xJ} (h : f_X1_isGreatest_0 x1 I J = some t) (hC : (c_X1_isGreatest Q) t) : Rn L xs (d + 1) 12 0 [some (.ref 36), some (.int x1), none] [] 94 (I, J, xrf) Q := by
  unfold f_X1_isGreatest_0 at h
  refine Rn.go 2 (j' := 12) (pc' := 2) (ls' := [some (.ref 36), some (.int x1), some (.int 0)]) (st' := []) (n' := 94) (M' := (I, J, xrf)) (fun f => rfl) ?_
  exact p_X1_isGreatest_1 x1 0 I J h hC
theorem p_X1_isGreatest {L : Nat} {xs : Nat → Int32} {d : Nat} {Q : xO → Prop} (x1 : Int32) (I : xI) (J : xJ) {t : Int32 × xI × xJ} (h : f_X1_isGreatest x1 I J = some t) (hC : Q ((some (.int t.1)), 94, (t.2.1, t.2.2, xrf))) : Rn L xs (d + 1) 12 0 [some (.ref 36), some (.int x1), none] [] 94 (I, J, xrf) Q := p_X1_isGreatest_0 x1 I J h hC
/-! X1_gatherGreatest -/
def c_X1_gatherGreatest (Q : xO → Prop) (t : Unit × xI × xJ) : Prop := Q (none, 94, (t.2.1, t.2.2, xrf))
def c_X1_gatherGreatest_1 (L : Nat) (xs : Nat → Int32) (d : Nat) (Q : xO → Prop) (t : (Int32 × xI × xJ) ⊕ (Unit × xI × xJ)) : Prop := match t with
  | .inl s => Rn L xs (d + 2) 11 7 [some (.ref 36), some (.int s.1)] [] 94 (s.2.1, s.2.2, xrf) Q
  | .inr t => (c_X1_gatherGreatest Q) t
def f_X1_gatherGreatest_6 (x1 : Int32) (I : xI) (J : xJ) : Option (Unit × xI × xJ) := some ((), I, J)
def f_X1_gatherGreatest_5 (x1 : Int32) (I : xI) (J : xJ) : Option ((Int32 × xI × xJ) ⊕ (Unit × xI × xJ)) := some (.inl (((x1 + 1)), I, J))
def f_X1_gatherGreatest_4 (x1 : Int32) (I : xI) (J : xJ) : Option ((Int32 × xI × xJ) ⊕ (Unit × xI × xJ)) := if x1 < 0 ∨ 64 ≤ x1.toNatClampNeg then none else if (I 36 7) < 0 ∨ 64 ≤ ((I 36 7)).toNatClampNeg then none else f_X1_gatherGreatest_5 x1 ((xup ((xup I 39 ((I 36 7)).toNatClampNeg ((I 38 x1.toNatClampNeg)))) 36 7 (((((xup I 39 ((I 36 7)).toNatClampNeg ((I 38 x1.toNatClampNeg)))) 36 7) + 1)))) J
def f_X1_gatherGreatest_3 (x1 : Int32) (s0 : Int32) (I : xI) (J : xJ) : Option ((Int32 × xI × xJ) ⊕ (Unit × xI × xJ)) := if s0 = 0 then f_X1_gatherGreatest_5 x1 I J else f_X1_gatherGreatest_4 x1 I J
def f_X1_gatherGreatest_2 (x1 : Int32) (I : xI) (J : xJ) : Option ((Int32 × xI × xJ) ⊕ (Unit × xI × xJ)) := if x1 < 0 ∨ 64 ≤ x1.toNatClampNeg then none else (f_X1_isGreatest ((I 38 x1.toNatClampNeg)) I J).bind fun o => f_X1_gatherGreatest_3 x1 o.1 o.2.1 o.2.2
def b_X1_gatherGreatest_1 (x1 : Int32) (I : xI) (J : xJ) : Option ((Int32 × xI × xJ) ⊕ (Unit × xI × xJ)) := if (I 36 4) ≤ x1 then ((f_X1_gatherGreatest_6 x1 I J)).map .inr else f_X1_gatherGreatest_2 x1 I J
def f_X1_gatherGreatest_1 (x1 : Int32) (I : xI) (J : xJ) : Option (Unit × xI × xJ) := xloop (fun s : Int32 × xI × xJ => b_X1_gatherGreatest_1 s.1 s.2.1 s.2.2) 5000 (x1, I, J)
def f_X1_gatherGreatest_0 (I : xI) (J : xJ) : Option (Unit × xI × xJ) := f_X1_gatherGreatest_1 0 ((xup I 36 7 0)) J
def f_X1_gatherGreatest (I : xI) (J : xJ) : Option (Unit × xI × xJ) := f_X1_gatherGreatest_0 I J
theorem p_X1_gatherGreatest_6 {L : Nat} {xs : Nat → Int32} {d : Nat} {Q : xO → Prop} (x1 : Int32) (I : xI) (J : xJ) {t : Unit × xI × xJ} (h : f_X1_gatherGreatest_6 x1 I J = some t) (hC : (c_X1_gatherGreatest Q) t) : Rn L xs (d + 2) 11 59 [some (.ref 36), some (.int x1)] [] 94 (I, J, xrf) Q := by
  unfold f_X1_gatherGreatest_6 at h
  cases h
  exact Rn.ret 1 (o := (none, 94, (I, J, xrf))) (fun f => rfl) hC
theorem p_X1_gatherGreatest_5 {L : Nat} {xs : Nat → Int32} {d : Nat} {Q : xO → Prop} (x1 : Int32) (I : xI) (J : xJ) {t : (Int32 × xI × xJ) ⊕ (Unit × xI × xJ)} (h : f_X1_gatherGreatest_5 x1 I J = some t) (hC : (c_X1_gatherGreatest_1 L xs d Q) t) : Rn L xs (d + 2) 11 53 [some (.ref 36), some (.int x1)] [] 94 (I, J, xrf) Q := by
  unfold f_X1_gatherGreatest_5 at h
  refine Rn.go 2 (j' := 11) (pc' := 7) (ls' := [some (.ref 36), some (.int ((x1 + 1)))]) (st' := []) (n' := 94) (M' := (I, J, xrf)) (fun f => rfl) ?_
  cases h; exact hC
theorem p_X1_gatherGreatest_4 {L : Nat} {xs : Nat → Int32} {d : Nat} {Q : xO → Prop} (x1 : Int32) (I : xI) (J : xJ) {t : (Int32 × xI × xJ) ⊕ (Unit × xI × xJ)} (h : f_X1_gatherGreatest_4 x1 I J = some t) (hC : (c_X1_gatherGreatest_1 L xs d Q) t) : Rn L xs (d + 2) 11 28 [some (.ref 36), some (.int x1)] [] 94 (I, J, xrf) Q := by
  unfold f_X1_gatherGreatest_4 at h
  obtain ⟨hc, h⟩ := xif h
  refine Rn.ok 8 (c := x1 < 0 ∨ 64 ≤ x1.toNatClampNeg) (p1 := 42) (l1 := [some (.ref 36), some (.int x1)]) (s1 := [.int ((I 38 x1.toNatClampNeg)), .int ((I 36 7)), .ref 39]) (n1 := 94) (M1 := (I, J, xrf)) (fun f => rfl) hc ?_
  obtain ⟨hc, h⟩ := xif h
  refine Rn.ok 1 (c := (I 36 7) < 0 ∨ 64 ≤ ((I 36 7)).toNatClampNeg) (p1 := 43) (l1 := [some (.ref 36), some (.int x1)]) (s1 := []) (n1 := 94) (M1 := ((xup I 39 ((I 36 7)).toNatClampNeg ((I 38 x1.toNatClampNeg))), J, xrf)) (fun f => rfl) hc ?_
  refine Rn.go 6 (j' := 11) (pc' := 53) (ls' := [some (.ref 36), some (.int x1)]) (st' := []) (n' := 94) (M' := ((xup ((xup I 39 ((I 36 7)).toNatClampNeg ((I 38 x1.toNatClampNeg)))) 36 7 (((((xup I 39 ((I 36 7)).toNatClampNeg ((I 38 x1.toNatClampNeg)))) 36 7) + 1))), J, xrf)) (fun f => rfl) ?_
  exact p_X1_gatherGreatest_5 x1 ((xup ((xup I 39 ((I 36 7)).toNatClampNeg ((I 38 x1.toNatClampNeg)))) 36 7 (((((xup I 39 ((I 36 7)).toNatClampNeg ((I 38 x1.toNatClampNeg)))) 36 7) + 1)))) J h hC
theorem p_X1_gatherGreatest_3 {L : Nat} {xs : Nat → Int32} {d : Nat} {Q : xO → Prop} (x1 : Int32) (s0 : Int32) (I : xI) (J : xJ) {t : (Int32 × xI × xJ) ⊕ (Unit × xI × xJ)} (h : f_X1_gatherGreatest_3 x1 s0 I J = some t) (hC : (c_X1_gatherGreatest_1 L xs d Q) t) : Rn L xs (d + 2) 11 25 [some (.ref 36), some (.int x1)] [.int s0] 94 (I, J, xrf) Q := by
  unfold f_X1_gatherGreatest_3 at h
  refine Rn.fi 1 (c := s0 = 0) (p1 := 53) (l1 := [some (.ref 36), some (.int x1)]) (s1 := []) (n1 := 94) (M1 := (I, J, xrf)) (p2 := 28) (l2 := [some (.ref 36), some (.int x1)]) (s2 := []) (n2 := 94) (M2 := (I, J, xrf)) (fun f => rfl) (fun hc => ?_) (fun hc => ?_)
  · rw [if_pos hc] at h
    exact p_X1_gatherGreatest_5 x1 I J h hC
  · rw [if_neg hc] at h
    exact p_X1_gatherGreatest_4 x1 I J h hC
theorem p_X1_gatherGreatest_2 {L : Nat} {xs : Nat → Int32} {d : Nat} {Q : xO → Prop} (x1 : Int32) (I : xI) (J : xJ) {t : (Int32 × xI × xJ) ⊕ (Unit × xI × xJ)} (h : f_X1_gatherGreatest_2 x1 I J = some t) (hC : (c_X1_gatherGreatest_1 L xs d Q) t) : Rn L xs (d + 2) 11 15 [some (.ref 36), some (.int x1)] [] 94 (I, J, xrf) Q := by
  unfold f_X1_gatherGreatest_2 at h
  obtain ⟨hc, h⟩ := xif h
  refine Rn.ok 5 (c := x1 < 0 ∨ 64 ≤ x1.toNatClampNeg) (p1 := 22) (l1 := [some (.ref 36), some (.int x1)]) (s1 := [.int ((I 38 x1.toNatClampNeg)), .ref 36]) (n1 := 94) (M1 := (I, J, xrf)) (fun f => rfl) hc ?_
  obtain ⟨o, ho, h⟩ := Option.bind_eq_some_iff.mp h
  refine Rn.call (d1 := d + 1) (j1 := 12) (ls1 := [some (.ref 36), some (.int ((I 38 x1.toNatClampNeg))), none]) (rest := []) (fun f => rfl) ?_
  refine p_X1_isGreatest (d := d + 0) ((I 38 x1.toNatClampNeg)) I J (t := o) ho ?_
  exact p_X1_gatherGreatest_3 x1 o.1 o.2.1 o.2.2 h hC
theorem q_X1_gatherGreatest_1 {L : Nat} {xs : Nat → Int32} {d : Nat} {Q : xO → Prop} (x1 : Int32) (I : xI) (J : xJ) {t : (Int32 × xI × xJ) ⊕ (Unit × xI × xJ)} (h : b_X1_gatherGreatest_1 x1 I J = some t) (hC : (c_X1_gatherGreatest_1 L xs d Q) t) : Rn L xs (d + 2) 11 7 [some (.ref 36), some (.int x1)] [] 94 (I, J, xrf) Q := by
  unfold b_X1_gatherGreatest_1 at h
  refine Rn.fi 4 (c := (I 36 4) ≤ x1) (p1 := 59) (l1 := [some (.ref 36), some (.int x1)]) (s1 := []) (n1 := 94) (M1 := (I, J, xrf)) (p2 := 15) (l2 := [some (.ref 36), some (.int x1)]) (s2 := []) (n2 := 94) (M2 := (I, J, xrf)) (fun f => rfl) (fun hc => ?_) (fun hc => ?_)
  · rw [if_pos hc] at h
    obtain ⟨t0, h0, rfl⟩ := Option.map_eq_some_iff.mp h
    exact p_X1_gatherGreatest_6 x1 I J h0 hC
  · rw [if_neg hc] at h
    exact p_X1_gatherGreatest_2 x1 I J h hC
theorem p_X1_gatherGreatest_1 {L : Nat} {xs : Nat → Int32} {d : Nat} {Q : xO → Prop} (x1 : Int32) (I : xI) (J : xJ) {t : Unit × xI × xJ} (h : f_X1_gatherGreatest_1 x1 I J = some t) (hC : (c_X1_gatherGreatest Q) t) : Rn L xs (d + 2) 11 7 [some (.ref 36), some (.int x1)] [] 94 (I, J, xrf) Q := by
  unfold f_X1_gatherGreatest_1 at h
  exact xloop_some (P := fun s : Int32 × xI × xJ => Rn L xs (d + 2) 11 7 [some (.ref 36), some (.int s.1)] [] 94 (s.2.1, s.2.2, xrf) Q) t (fun s ⟨s', hb, hp⟩ => q_X1_gatherGreatest_1 s.1 s.2.1 s.2.2 hb hp) (fun s hb => q_X1_gatherGreatest_1 s.1 s.2.1 s.2.2 hb hC) _ _ h
theorem p_X1_gatherGreatest_0 {L : Nat} {xs : Nat → Int32} {d : Nat} {Q : xO → Prop} (I : xI) (J : xJ) {t : Unit × xI × xJ} (h : f_X1_gatherGreatest_0 I J = some t) (hC : (c_X1_gatherGreatest Q) t) : Rn L xs (d + 2) 11 0 [some (.ref 36), none] [] 94 (I, J, xrf) Q := by
  unfold f_X1_gatherGreatest_0 at h
  refine Rn.go 5 (j' := 11) (pc' := 7) (ls' := [some (.ref 36), some (.int 0)]) (st' := []) (n' := 94) (M' := ((xup I 36 7 0), J, xrf)) (fun f => rfl) ?_
  exact p_X1_gatherGreatest_1 0 ((xup I 36 7 0)) J h hC
theorem p_X1_gatherGreatest {L : Nat} {xs : Nat → Int32} {d : Nat} {Q : xO → Prop} (I : xI) (J : xJ) {t : Unit × xI × xJ} (h : f_X1_gatherGreatest I J = some t) (hC : Q (none, 94, (t.2.1, t.2.2, xrf))) : Rn L xs (d + 2) 11 0 [some (.ref 36), none] [] 94 (I, J, xrf) Q := p_X1_gatherGreatest_0 I J h hC
/-! X1_refresh -/
def c_X1_refresh (Q : xO → Prop) (t : Unit × xI × xJ) : Prop := Q (none, 94, (t.2.1, t.2.2, xrf))
def c_X1_refresh_3 (L : Nat) (xs : Nat → Int32) (d : Nat) (Q : xO → Prop) (t : (Int32 × Int32 × xI × xJ) ⊕ (Unit × xI × xJ)) : Prop := match t with
  | .inl s => Rn L xs (d + 4) 8 46 [some (.ref 36), some (.int s.1), some (.int s.2.1)] [] 94 (s.2.2.1, s.2.2.2, xrf) Q
  | .inr t => (c_X1_refresh Q) t
def f_X1_refresh_12 (x1 : Int32) (x2 : Int32) (I : xI) (J : xJ) : Option (Unit × xI × xJ) := some ((), I, J)
def f_X1_refresh_11 (x1 : Int32) (x2 : Int32) (I : xI) (J : xJ) : Option (Unit × xI × xJ) := (f_X1_gatherGreatest I J).bind fun o => f_X1_refresh_12 x1 x2 o.2.1 o.2.2
def f_X1_refresh_10 (x1 : Int32) (x2 : Int32) (I : xI) (J : xJ) : Option ((Int32 × Int32 × xI × xJ) ⊕ (Unit × xI × xJ)) := some (.inl (x1, ((x2 + 1)), I, J))
def f_X1_refresh_9 (x1 : Int32) (x2 : Int32) (I : xI) (J : xJ) : Option ((Int32 × Int32 × xI × xJ) ⊕ (Unit × xI × xJ)) := (f_X1_addClass x2 I J).bind fun o => f_X1_refresh_10 x1 x2 o.2.1 o.2.2
def f_X1_refresh_8 (x1 : Int32) (x2 : Int32) (s1 : Int32) (s2 : Int32) (I : xI) (J : xJ) : Option ((Int32 × Int32 × xI × xJ) ⊕ (Unit × xI × xJ)) := if s1 < 0 ∨ 64 ≤ s1.toNatClampNeg then none else if x2 < 0 ∨ 64 ≤ x2.toNatClampNeg then none else if (((xup I 37 s1.toNatClampNeg ((vp_nar .boolean s2)))) 37 x2.toNatClampNeg) = 0 then f_X1_refresh_10 x1 x2 ((xup I 37 s1.toNatClampNeg ((vp_nar .boolean s2)))) J else f_X1_refresh_9 x1 x2 ((xup I 37 s1.toNatClampNeg ((vp_nar .boolean s2)))) J
def f_X1_refresh_7 (x1 : Int32) (x2 : Int32) (s1 : Int32) (I : xI) (J : xJ) : Option ((Int32 × Int32 × xI × xJ) ⊕ (Unit × xI × xJ)) := f_X1_refresh_8 x1 x2 s1 0 I J
def f_X1_refresh_6 (x1 : Int32) (x2 : Int32) (s1 : Int32) (I : xI) (J : xJ) : Option ((Int32 × Int32 × xI × xJ) ⊕ (Unit × xI × xJ)) := f_X1_refresh_8 x1 x2 s1 1 I J
def f_X1_refresh_5 (x1 : Int32) (x2 : Int32) (s1 : Int32) (s2 : Int32) (I : xI) (J : xJ) : Option ((Int32 × Int32 × xI × xJ) ⊕ (Unit × xI × xJ)) := if (s2 &&& x1) = 0 then f_X1_refresh_6 x1 x2 s1 I J else f_X1_refresh_7 x1 x2 s1 I J
def f_X1_refresh_4 (x1 : Int32) (x2 : Int32) (I : xI) (J : xJ) : Option ((Int32 × Int32 × xI × xJ) ⊕ (Unit × xI × xJ)) := (f_X1_pairsIn x2 I J).bind fun o => f_X1_refresh_5 x1 x2 x2 o.1 o.2.1 o.2.2
def b_X1_refresh_3 (x1 : Int32) (x2 : Int32) (I : xI) (J : xJ) : Option ((Int32 × Int32 × xI × xJ) ⊕ (Unit × xI × xJ)) := if (1 <<< ((I 1 0) &&& 31)) ≤ x2 then ((f_X1_refresh_11 x1 x2 I J)).map .inr else f_X1_refresh_4 x1 x2 I J
def f_X1_refresh_3 (x1 : Int32) (x2 : Int32) (I : xI) (J : xJ) : Option (Unit × xI × xJ) := xloop (fun s : Int32 × Int32 × xI × xJ => b_X1_refresh_3 s.1 s.2.1 s.2.2.1 s.2.2.2) 5000 (x1, x2, I, J)
def f_X1_refresh_2 (I : xI) (J : xJ) : Option (Unit × xI × xJ) := f_X1_refresh_3 ((((xup ((xup ((xup I 36 8 ((I 1 2)))) 36 4 0)) 36 5 0)) 32 3)) 1 ((xup ((xup ((xup I 36 8 ((I 1 2)))) 36 4 0)) 36 5 0)) J
def f_X1_refresh_1 (I : xI) (J : xJ) : Option (Unit × xI × xJ) := some ((), I, J)
def f_X1_refresh_0 (I : xI) (J : xJ) : Option (Unit × xI × xJ) := if (I 36 8) = (I 1 2) then f_X1_refresh_1 I J else f_X1_refresh_2 I J
def f_X1_refresh (I : xI) (J : xJ) : Option (Unit × xI × xJ) := f_X1_refresh_0 I J
theorem p_X1_refresh_12 {L : Nat} {xs : Nat → Int32} {d : Nat} {Q : xO → Prop} (x1 : Int32) (x2 : Int32) (I : xI) (J : xJ) {t : Unit × xI × xJ} (h : f_X1_refresh_12 x1 x2 I J = some t) (hC : (c_X1_refresh Q) t) : Rn L xs (d + 4) 8 104 [some (.ref 36), some (.int x1), some (.int x2)] [] 94 (I, J, xrf) Q := by
  unfold f_X1_refresh_12 at h
  cases h
  exact Rn.ret 1 (o := (none, 94, (I, J, xrf))) (fun f => rfl) hC
theorem p_X1_refresh_11 {L : Nat} {xs : Nat → Int32} {d : Nat} {Q : xO → Prop} (x1 : Int32) (x2 : Int32) (I : xI) (J : xJ) {t : Unit × xI × xJ} (h : f_X1_refresh_11 x1 x2 I J = some t) (hC : (c_X1_refresh Q) t) : Rn L xs (d + 4) 8 100 [some (.ref 36), some (.int x1), some (.int x2)] [] 94 (I, J, xrf) Q := by
  unfold f_X1_refresh_11 at h
  refine Rn.go 1 (j' := 8) (pc' := 101) (ls' := [some (.ref 36), some (.int x1), some (.int x2)]) (st' := [.ref 36]) (n' := 94) (M' := (I, J, xrf)) (fun f => rfl) ?_
  obtain ⟨o, ho, h⟩ := Option.bind_eq_some_iff.mp h
  refine Rn.call (d1 := d + 3) (j1 := 11) (ls1 := [some (.ref 36), none]) (rest := []) (fun f => rfl) ?_
  refine p_X1_gatherGreatest (d := d + 1) I J (t := o) ho ?_
  exact p_X1_refresh_12 x1 x2 o.2.1 o.2.2 h hC
theorem p_X1_refresh_10 {L : Nat} {xs : Nat → Int32} {d : Nat} {Q : xO → Prop} (x1 : Int32) (x2 : Int32) (I : xI) (J : xJ) {t : (Int32 × Int32 × xI × xJ) ⊕ (Unit × xI × xJ)} (h : f_X1_refresh_10 x1 x2 I J = some t) (hC : (c_X1_refresh_3 L xs d Q) t) : Rn L xs (d + 4) 8 94 [some (.ref 36), some (.int x1), some (.int x2)] [] 94 (I, J, xrf) Q := by
  unfold f_X1_refresh_10 at h
  refine Rn.go 2 (j' := 8) (pc' := 46) (ls' := [some (.ref 36), some (.int x1), some (.int ((x2 + 1)))]) (st' := []) (n' := 94) (M' := (I, J, xrf)) (fun f => rfl) ?_
  cases h; exact hC
theorem p_X1_refresh_9 {L : Nat} {xs : Nat → Int32} {d : Nat} {Q : xO → Prop} (x1 : Int32) (x2 : Int32) (I : xI) (J : xJ) {t : (Int32 × Int32 × xI × xJ) ⊕ (Unit × xI × xJ)} (h : f_X1_refresh_9 x1 x2 I J = some t) (hC : (c_X1_refresh_3 L xs d Q) t) : Rn L xs (d + 4) 8 89 [some (.ref 36), some (.int x1), some (.int x2)] [] 94 (I, J, xrf) Q := by
  unfold f_X1_refresh_9 at h
  refine Rn.go 2 (j' := 8) (pc' := 91) (ls' := [some (.ref 36), some (.int x1), some (.int x2)]) (st' := [.int x2, .ref 36]) (n' := 94) (M' := (I, J, xrf)) (fun f => rfl) ?_
  obtain ⟨o, ho, h⟩ := Option.bind_eq_some_iff.mp h
  refine Rn.call (d1 := d + 3) (j1 := 10) (ls1 := [some (.ref 36), some (.int x2), none]) (rest := []) (fun f => rfl) ?_
  refine p_X1_addClass (d := d + 0) x2 I J (t := o) ho ?_
  exact p_X1_refresh_10 x1 x2 o.2.1 o.2.2 h hC
theorem p_X1_refresh_8 {L : Nat} {xs : Nat → Int32} {d : Nat} {Q : xO → Prop} (x1 : Int32) (x2 : Int32) (s1 : Int32) (s2 : Int32) (I : xI) (J : xJ) {t : (Int32 × Int32 × xI × xJ) ⊕ (Unit × xI × xJ)} (h : f_X1_refresh_8 x1 x2 s1 s2 I J = some t) (hC : (c_X1_refresh_3 L xs d Q) t) : Rn L xs (d + 4) 8 79 [some (.ref 36), some (.int x1), some (.int x2)] [.int s2, .int s1, .ref 37] 94 (I, J, xrf) Q := by
  unfold f_X1_refresh_8 at h
  obtain ⟨hc, h⟩ := xif h
  refine Rn.ok 1 (c := s1 < 0 ∨ 64 ≤ s1.toNatClampNeg) (p1 := 80) (l1 := [some (.ref 36), some (.int x1), some (.int x2)]) (s1 := []) (n1 := 94) (M1 := ((xup I 37 s1.toNatClampNeg ((vp_nar .boolean s2))), J, xrf)) (fun f => rfl) hc ?_
  obtain ⟨hc, h⟩ := xif h
  refine Rn.ok 4 (c := x2 < 0 ∨ 64 ≤ x2.toNatClampNeg) (p1 := 86) (l1 := [some (.ref 36), some (.int x1), some (.int x2)]) (s1 := [.int ((((xup I 37 s1.toNatClampNeg ((vp_nar .boolean s2)))) 37 x2.toNatClampNeg))]) (n1 := 94) (M1 := ((xup I 37 s1.toNatClampNeg ((vp_nar .boolean s2))), J, xrf)) (fun f => rfl) hc ?_
  refine Rn.fi 1 (c := (((xup I 37 s1.toNatClampNeg ((vp_nar .boolean s2)))) 37 x2.toNatClampNeg) = 0) (p1 := 94) (l1 := [some (.ref 36), some (.int x1), some (.int x2)]) (s1 := []) (n1 := 94) (M1 := ((xup I 37 s1.toNatClampNeg ((vp_nar .boolean s2))), J, xrf)) (p2 := 89) (l2 := [some (.ref 36), some (.int x1), some (.int x2)]) (s2 := []) (n2 := 94) (M2 := ((xup I 37 s1.toNatClampNeg ((vp_nar .boolean s2))), J, xrf)) (fun f => rfl) (fun hc => ?_) (fun hc => ?_)
  · rw [if_pos hc] at h
    exact p_X1_refresh_10 x1 x2 ((xup I 37 s1.toNatClampNeg ((vp_nar .boolean s2)))) J h hC
  · rw [if_neg hc] at h
    exact p_X1_refresh_9 x1 x2 ((xup I 37 s1.toNatClampNeg ((vp_nar .boolean s2)))) J h hC
theorem p_X1_refresh_7 {L : Nat} {xs : Nat → Int32} {d : Nat} {Q : xO → Prop} (x1 : Int32) (x2 : Int32) (s1 : Int32) (I : xI) (J : xJ) {t : (Int32 × Int32 × xI × xJ) ⊕ (Unit × xI × xJ)} (h : f_X1_refresh_7 x1 x2 s1 I J = some t) (hC : (c_X1_refresh_3 L xs d Q) t) : Rn L xs (d + 4) 8 78 [some (.ref 36), some (.int x1), some (.int x2)] [.int s1, .ref 37] 94 (I, J, xrf) Q := by
  unfold f_X1_refresh_7 at h
  refine Rn.go 1 (j' := 8) (pc' := 79) (ls' := [some (.ref 36), some (.int x1), some (.int x2)]) (st' := [.int 0, .int s1, .ref 37]) (n' := 94) (M' := (I, J, xrf)) (fun f => rfl) ?_
  exact p_X1_refresh_8 x1 x2 s1 0 I J h hC
theorem p_X1_refresh_6 {L : Nat} {xs : Nat → Int32} {d : Nat} {Q : xO → Prop} (x1 : Int32) (x2 : Int32) (s1 : Int32) (I : xI) (J : xJ) {t : (Int32 × Int32 × xI × xJ) ⊕ (Unit × xI × xJ)} (h : f_X1_refresh_6 x1 x2 s1 I J = some t) (hC : (c_X1_refresh_3 L xs d Q) t) : Rn L xs (d + 4) 8 74 [some (.ref 36), some (.int x1), some (.int x2)] [.int s1, .ref 37] 94 (I, J, xrf) Q := by
  unfold f_X1_refresh_6 at h
  refine Rn.go 2 (j' := 8) (pc' := 79) (ls' := [some (.ref 36), some (.int x1), some (.int x2)]) (st' := [.int 1, .int s1, .ref 37]) (n' := 94) (M' := (I, J, xrf)) (fun f => rfl) ?_
  exact p_X1_refresh_8 x1 x2 s1 1 I J h hC
theorem p_X1_refresh_5 {L : Nat} {xs : Nat → Int32} {d : Nat} {Q : xO → Prop} (x1 : Int32) (x2 : Int32) (s1 : Int32) (s2 : Int32) (I : xI) (J : xJ) {t : (Int32 × Int32 × xI × xJ) ⊕ (Unit × xI × xJ)} (h : f_X1_refresh_5 x1 x2 s1 s2 I J = some t) (hC : (c_X1_refresh_3 L xs d Q) t) : Rn L xs (d + 4) 8 69 [some (.ref 36), some (.int x1), some (.int x2)] [.int s2, .int s1, .ref 37] 94 (I, J, xrf) Q := by
  unfold f_X1_refresh_5 at h
  refine Rn.fi 3 (c := (s2 &&& x1) = 0) (p1 := 74) (l1 := [some (.ref 36), some (.int x1), some (.int x2)]) (s1 := [.int s1, .ref 37]) (n1 := 94) (M1 := (I, J, xrf)) (p2 := 78) (l2 := [some (.ref 36), some (.int x1), some (.int x2)]) (s2 := [.int s1, .ref 37]) (n2 := 94) (M2 := (I, J, xrf)) (fun f => rfl) (fun hc => ?_) (fun hc => ?_)
  · rw [if_pos hc] at h
    exact p_X1_refresh_6 x1 x2 s1 I J h hC
  · rw [if_neg hc] at h
    exact p_X1_refresh_7 x1 x2 s1 I J h hC
theorem p_X1_refresh_4 {L : Nat} {xs : Nat → Int32} {d : Nat} {Q : xO → Prop} (x1 : Int32) (x2 : Int32) (I : xI) (J : xJ) {t : (Int32 × Int32 × xI × xJ) ⊕ (Unit × xI × xJ)} (h : f_X1_refresh_4 x1 x2 I J = some t) (hC : (c_X1_refresh_3 L xs d Q) t) : Rn L xs (d + 4) 8 59 [some (.ref 36), some (.int x1), some (.int x2)] [] 94 (I, J, xrf) Q := by
  unfold f_X1_refresh_4 at h
  refine Rn.go 5 (j' := 8) (pc' := 66) (ls' := [some (.ref 36), some (.int x1), some (.int x2)]) (st' := [.int x2, .ref 36, .int x2, .ref 37]) (n' := 94) (M' := (I, J, xrf)) (fun f => rfl) ?_
  obtain ⟨o, ho, h⟩ := Option.bind_eq_some_iff.mp h
  refine Rn.call (d1 := d + 3) (j1 := 9) (ls1 := [some (.ref 36), some (.int x2), none, none, none]) (rest := [.int x2, .ref 37]) (fun f => rfl) ?_
  refine p_X1_pairsIn (d := d + 1) x2 I J (t := o) ho ?_
  exact p_X1_refresh_5 x1 x2 x2 o.1 o.2.1 o.2.2 h hC
theorem q_X1_refresh_3 {L : Nat} {xs : Nat → Int32} {d : Nat} {Q : xO → Prop} (x1 : Int32) (x2 : Int32) (I : xI) (J : xJ) {t : (Int32 × Int32 × xI × xJ) ⊕ (Unit × xI × xJ)} (h : b_X1_refresh_3 x1 x2 I J = some t) (hC : (c_X1_refresh_3 L xs d Q) t) : Rn L xs (d + 4) 8 46 [some (.ref 36), some (.int x1), some (.int x2)] [] 94 (I, J, xrf) Q := by
  unfold b_X1_refresh_3 at h
  refine Rn.fi 7 (c := (1 <<< ((I 1 0) &&& 31)) ≤ x2) (p1 := 100) (l1 := [some (.ref 36), some (.int x1), some (.int x2)]) (s1 := []) (n1 := 94) (M1 := (I, J, xrf)) (p2 := 59) (l2 := [some (.ref 36), some (.int x1), some (.int x2)]) (s2 := []) (n2 := 94) (M2 := (I, J, xrf)) (fun f => rfl) (fun hc => ?_) (fun hc => ?_)
  · rw [if_pos hc] at h
    obtain ⟨t0, h0, rfl⟩ := Option.map_eq_some_iff.mp h
    exact p_X1_refresh_11 x1 x2 I J h0 hC
  · rw [if_neg hc] at h
    exact p_X1_refresh_4 x1 x2 I J h hC
theorem p_X1_refresh_3 {L : Nat} {xs : Nat → Int32} {d : Nat} {Q : xO → Prop} (x1 : Int32) (x2 : Int32) (I : xI) (J : xJ) {t : Unit × xI × xJ} (h : f_X1_refresh_3 x1 x2 I J = some t) (hC : (c_X1_refresh Q) t) : Rn L xs (d + 4) 8 46 [some (.ref 36), some (.int x1), some (.int x2)] [] 94 (I, J, xrf) Q := by
  unfold f_X1_refresh_3 at h
  exact xloop_some (P := fun s : Int32 × Int32 × xI × xJ => Rn L xs (d + 4) 8 46 [some (.ref 36), some (.int s.1), some (.int s.2.1)] [] 94 (s.2.2.1, s.2.2.2, xrf) Q) t (fun s ⟨s', hb, hp⟩ => q_X1_refresh_3 s.1 s.2.1 s.2.2.1 s.2.2.2 hb hp) (fun s hb => q_X1_refresh_3 s.1 s.2.1 s.2.2.1 s.2.2.2 hb hC) _ _ h
theorem p_X1_refresh_2 {L : Nat} {xs : Nat → Int32} {d : Nat} {Q : xO → Prop} (I : xI) (J : xJ) {t : Unit × xI × xJ} (h : f_X1_refresh_2 I J = some t) (hC : (c_X1_refresh Q) t) : Rn L xs (d + 4) 8 15 [some (.ref 36), none, none] [] 94 (I, J, xrf) Q := by
  unfold f_X1_refresh_2 at h
  refine Rn.go 17 (j' := 8) (pc' := 46) (ls' := [some (.ref 36), some (.int ((((xup ((xup ((xup I 36 8 ((I 1 2)))) 36 4 0)) 36 5 0)) 32 3))), some (.int 1)]) (st' := []) (n' := 94) (M' := ((xup ((xup ((xup I 36 8 ((I 1 2)))) 36 4 0)) 36 5 0), J, xrf)) (fun f => rfl) ?_
  exact p_X1_refresh_3 ((((xup ((xup ((xup I 36 8 ((I 1 2)))) 36 4 0)) 36 5 0)) 32 3)) 1 ((xup ((xup ((xup I 36 8 ((I 1 2)))) 36 4 0)) 36 5 0)) J h hC
theorem p_X1_refresh_1 {L : Nat} {xs : Nat → Int32} {d : Nat} {Q : xO → Prop} (I : xI) (J : xJ) {t : Unit × xI × xJ} (h : f_X1_refresh_1 I J = some t) (hC : (c_X1_refresh Q) t) : Rn L xs (d + 4) 8 14 [some (.ref 36), none, none] [] 94 (I, J, xrf) Q := by
  unfold f_X1_refresh_1 at h
  cases h
  exact Rn.ret 1 (o := (none, 94, (I, J, xrf))) (fun f => rfl) hC
theorem p_X1_refresh_0 {L : Nat} {xs : Nat → Int32} {d : Nat} {Q : xO → Prop} (I : xI) (J : xJ) {t : Unit × xI × xJ} (h : f_X1_refresh_0 I J = some t) (hC : (c_X1_refresh Q) t) : Rn L xs (d + 4) 8 0 [some (.ref 36), none, none] [] 94 (I, J, xrf) Q := by
  unfold f_X1_refresh_0 at h
  refine Rn.fi 6 (c := (I 36 8) = (I 1 2)) (p1 := 14) (l1 := [some (.ref 36), none, none]) (s1 := []) (n1 := 94) (M1 := (I, J, xrf)) (p2 := 15) (l2 := [some (.ref 36), none, none]) (s2 := []) (n2 := 94) (M2 := (I, J, xrf)) (fun f => rfl) (fun hc => ?_) (fun hc => ?_)
  · rw [if_pos hc] at h
    exact p_X1_refresh_1 I J h hC
  · rw [if_neg hc] at h
    exact p_X1_refresh_2 I J h hC
theorem p_X1_refresh {L : Nat} {xs : Nat → Int32} {d : Nat} {Q : xO → Prop} (I : xI) (J : xJ) {t : Unit × xI × xJ} (h : f_X1_refresh I J = some t) (hC : Q (none, 94, (t.2.1, t.2.2, xrf))) : Rn L xs (d + 4) 8 0 [some (.ref 36), none, none] [] 94 (I, J, xrf) Q := p_X1_refresh_0 I J h hC
/-! X11_coverNow -/
def c_X11_coverNow (Q : xO → Prop) (t : Unit × xI × xJ) : Prop := Q ((some (.ref 36)), 94, (t.2.1, t.2.2, xrf))
def f_X11_coverNow_2 (I : xI) (J : xJ) : Option (Unit × xI × xJ) := some ((), I, J)
def f_X11_coverNow_1 (I : xI) (J : xJ) : Option (Unit × xI × xJ) := (f_X1_refresh I J).bind fun o => f_X11_coverNow_2 o.2.1 o.2.2
def f_X11_coverNow_0 (I : xI) (J : xJ) : Option (Unit × xI × xJ) := (f_X6_refresh I J).bind fun o => f_X11_coverNow_1 o.2.1 o.2.2
def f_X11_coverNow (I : xI) (J : xJ) : Option (Unit × xI × xJ) := f_X11_coverNow_0 I J
theorem p_X11_coverNow_2 {L : Nat} {xs : Nat → Int32} {d : Nat} {Q : xO → Prop} (I : xI) (J : xJ) {t : Unit × xI × xJ} (h : f_X11_coverNow_2 I J = some t) (hC : (c_X11_coverNow Q) t) : Rn L xs (d + 5) 177 14 [some (.ref 0)] [] 94 (I, J, xrf) Q := by
  unfold f_X11_coverNow_2 at h
  cases h
  exact Rn.ret 3 (o := ((some (.ref 36)), 94, (I, J, xrf))) (fun f => rfl) hC
theorem p_X11_coverNow_1 {L : Nat} {xs : Nat → Int32} {d : Nat} {Q : xO → Prop} (I : xI) (J : xJ) {t : Unit × xI × xJ} (h : f_X11_coverNow_1 I J = some t) (hC : (c_X11_coverNow Q) t) : Rn L xs (d + 5) 177 7 [some (.ref 0)] [] 94 (I, J, xrf) Q := by
  unfold f_X11_coverNow_1 at h
  refine Rn.go 2 (j' := 177) (pc' := 11) (ls' := [some (.ref 0)]) (st' := [.ref 36]) (n' := 94) (M' := (I, J, xrf)) (fun f => rfl) ?_
  obtain ⟨o, ho, h⟩ := Option.bind_eq_some_iff.mp h
  refine Rn.call (d1 := d + 4) (j1 := 8) (ls1 := [some (.ref 36), none, none]) (rest := []) (fun f => rfl) ?_
  refine p_X1_refresh (d := d + 0) I J (t := o) ho ?_
  exact p_X11_coverNow_2 o.2.1 o.2.2 h hC
theorem p_X11_coverNow_0 {L : Nat} {xs : Nat → Int32} {d : Nat} {Q : xO → Prop} (I : xI) (J : xJ) {t : Unit × xI × xJ} (h : f_X11_coverNow_0 I J = some t) (hC : (c_X11_coverNow Q) t) : Rn L xs (d + 5) 177 0 [some (.ref 0)] [] 94 (I, J, xrf) Q := by
  unfold f_X11_coverNow_0 at h
  refine Rn.go 2 (j' := 177) (pc' := 4) (ls' := [some (.ref 0)]) (st' := [.ref 32]) (n' := 94) (M' := (I, J, xrf)) (fun f => rfl) ?_
  obtain ⟨o, ho, h⟩ := Option.bind_eq_some_iff.mp h
  refine Rn.call (d1 := d + 4) (j1 := 69) (ls1 := [some (.ref 32), none, none]) (rest := []) (fun f => rfl) ?_
  refine p_X6_refresh (d := d + 0) I J (t := o) ho ?_
  exact p_X11_coverNow_1 o.2.1 o.2.2 h hC
theorem p_X11_coverNow {L : Nat} {xs : Nat → Int32} {d : Nat} {Q : xO → Prop} (I : xI) (J : xJ) {t : Unit × xI × xJ} (h : f_X11_coverNow I J = some t) (hC : Q ((some (.ref 36)), 94, (t.2.1, t.2.2, xrf))) : Rn L xs (d + 5) 177 0 [some (.ref 0)] [] 94 (I, J, xrf) Q := p_X11_coverNow_0 I J h hC
/-! X11_classes -/
def c_X11_classes (Q : xO → Prop) (t : Int32 × xI × xJ) : Prop := Q ((some (.int t.1)), 94, (t.2.1, t.2.2, xrf))
def f_X11_classes_1 (I : xI) (J : xJ) : Option (Int32 × xI × xJ) := some ((I 36 4), I, J)
def f_X11_classes_0 (I : xI) (J : xJ) : Option (Int32 × xI × xJ) := (f_X11_coverNow I J).bind fun o => f_X11_classes_1 o.2.1 o.2.2
def f_X11_classes (I : xI) (J : xJ) : Option (Int32 × xI × xJ) := f_X11_classes_0 I J
theorem p_X11_classes_1 {L : Nat} {xs : Nat → Int32} {d : Nat} {Q : xO → Prop} (I : xI) (J : xJ) {t : Int32 × xI × xJ} (h : f_X11_classes_1 I J = some t) (hC : (c_X11_classes Q) t) : Rn L xs (d + 6) 149 4 [some (.ref 0)] [.ref 36] 94 (I, J, xrf) Q := by
  unfold f_X11_classes_1 at h
  cases h
  exact Rn.ret 2 (o := ((some (.int ((I 36 4)))), 94, (I, J, xrf))) (fun f => rfl) hC
theorem p_X11_classes_0 {L : Nat} {xs : Nat → Int32} {d : Nat} {Q : xO → Prop} (I : xI) (J : xJ) {t : Int32 × xI × xJ} (h : f_X11_classes_0 I J = some t) (hC : (c_X11_classes Q) t) : Rn L xs (d + 6) 149 0 [some (.ref 0)] [] 94 (I, J, xrf) Q := by
  unfold f_X11_classes_0 at h
  refine Rn.go 1 (j' := 149) (pc' := 1) (ls' := [some (.ref 0)]) (st' := [.ref 0]) (n' := 94) (M' := (I, J, xrf)) (fun f => rfl) ?_
  obtain ⟨o, ho, h⟩ := Option.bind_eq_some_iff.mp h
  refine Rn.call (d1 := d + 5) (j1 := 177) (ls1 := [some (.ref 0)]) (rest := []) (fun f => rfl) ?_
  refine p_X11_coverNow (d := d + 0) I J (t := o) ho ?_
  exact p_X11_classes_1 o.2.1 o.2.2 h hC
theorem p_X11_classes {L : Nat} {xs : Nat → Int32} {d : Nat} {Q : xO → Prop} (I : xI) (J : xJ) {t : Int32 × xI × xJ} (h : f_X11_classes I J = some t) (hC : Q ((some (.int t.1)), 94, (t.2.1, t.2.2, xrf))) : Rn L xs (d + 6) 149 0 [some (.ref 0)] [] 94 (I, J, xrf) Q := p_X11_classes_0 I J h hC
/-! X11_greatest -/
def c_X11_greatest (Q : xO → Prop) (t : Int32 × xI × xJ) : Prop := Q ((some (.int t.1)), 94, (t.2.1, t.2.2, xrf))
def f_X11_greatest_7 (x1 : Int32) (x2 : Int32) (s0 : Int32) (I : xI) (J : xJ) : Option (Int32 × xI × xJ) := some (s0, I, J)
def f_X11_greatest_6 (x1 : Int32) (x2 : Int32) (I : xI) (J : xJ) : Option (Int32 × xI × xJ) := f_X11_greatest_7 x1 x2 ((-1)) I J
def f_X11_greatest_5 (x1 : Int32) (x2 : Int32) (I : xI) (J : xJ) : Option (Int32 × xI × xJ) := if x1 < 0 ∨ 64 ≤ x1.toNatClampNeg then none else f_X11_greatest_7 x1 x2 ((I 39 x1.toNatClampNeg)) I J
def f_X11_greatest_4 (x1 : Int32) (x2 : Int32) (I : xI) (J : xJ) : Option (Int32 × xI × xJ) := if x2 ≤ x1 then f_X11_greatest_6 x1 x2 I J else f_X11_greatest_5 x1 x2 I J
def f_X11_greatest_3 (x1 : Int32) (x2 : Int32) (I : xI) (J : xJ) : Option (Int32 × xI × xJ) := if x1 < 0 then f_X11_greatest_6 x1 x2 I J else f_X11_greatest_4 x1 x2 I J
def f_X11_greatest_2 (x1 : Int32) (x2 : Int32) (I : xI) (J : xJ) : Option (Int32 × xI × xJ) := some (x2, I, J)
def f_X11_greatest_1 (x1 : Int32) (I : xI) (J : xJ) : Option (Int32 × xI × xJ) := if x1 = (-1) then f_X11_greatest_2 x1 ((I 36 7)) I J else f_X11_greatest_3 x1 ((I 36 7)) I J
def f_X11_greatest_0 (x1 : Int32) (I : xI) (J : xJ) : Option (Int32 × xI × xJ) := (f_X11_coverNow I J).bind fun o => f_X11_greatest_1 x1 o.2.1 o.2.2
def f_X11_greatest (x1 : Int32) (I : xI) (J : xJ) : Option (Int32 × xI × xJ) := f_X11_greatest_0 x1 I J
theorem p_X11_greatest_7 {L : Nat} {xs : Nat → Int32} {d : Nat} {Q : xO → Prop} (x1 : Int32) (x2 : Int32) (s0 : Int32) (I : xI) (J : xJ) {t : Int32 × xI × xJ} (h : f_X11_greatest_7 x1 x2 s0 I J = some t) (hC : (c_X11_greatest Q) t) : Rn L xs (d + 6) 150 37 [some (.ref 0), some (.int x1), some (.int x2)] [.int s0] 94 (I, J, xrf) Q := by
  unfold f_X11_greatest_7 at h
  cases h
  exact Rn.ret 1 (o := ((some (.int s0)), 94, (I, J, xrf))) (fun f => rfl) hC
theorem p_X11_greatest_6 {L : Nat} {xs : Nat → Int32} {d : Nat} {Q : xO → Prop} (x1 : Int32) (x2 : Int32) (I : xI) (J : xJ) {t : Int32 × xI × xJ} (h : f_X11_greatest_6 x1 x2 I J = some t) (hC : (c_X11_greatest Q) t) : Rn L xs (d + 6) 150 36 [some (.ref 0), some (.int x1), some (.int x2)] [] 94 (I, J, xrf) Q := by
  unfold f_X11_greatest_6 at h
  refine Rn.go 1 (j' := 150) (pc' := 37) (ls' := [some (.ref 0), some (.int x1), some (.int x2)]) (st' := [.int ((-1))]) (n' := 94) (M' := (I, J, xrf)) (fun f => rfl) ?_
  exact p_X11_greatest_7 x1 x2 ((-1)) I J h hC
theorem p_X11_greatest_5 {L : Nat} {xs : Nat → Int32} {d : Nat} {Q : xO → Prop} (x1 : Int32) (x2 : Int32) (I : xI) (J : xJ) {t : Int32 × xI × xJ} (h : f_X11_greatest_5 x1 x2 I J = some t) (hC : (c_X11_greatest Q) t) : Rn L xs (d + 6) 150 24 [some (.ref 0), some (.int x1), some (.int x2)] [] 94 (I, J, xrf) Q := by
  unfold f_X11_greatest_5 at h
  obtain ⟨hc, h⟩ := xif h
  refine Rn.ok 5 (c := x1 < 0 ∨ 64 ≤ x1.toNatClampNeg) (p1 := 33) (l1 := [some (.ref 0), some (.int x1), some (.int x2)]) (s1 := [.int ((I 39 x1.toNatClampNeg))]) (n1 := 94) (M1 := (I, J, xrf)) (fun f => rfl) hc ?_
  refine Rn.go 1 (j' := 150) (pc' := 37) (ls' := [some (.ref 0), some (.int x1), some (.int x2)]) (st' := [.int ((I 39 x1.toNatClampNeg))]) (n' := 94) (M' := (I, J, xrf)) (fun f => rfl) ?_
  exact p_X11_greatest_7 x1 x2 ((I 39 x1.toNatClampNeg)) I J h hC
theorem p_X11_greatest_4 {L : Nat} {xs : Nat → Int32} {d : Nat} {Q : xO → Prop} (x1 : Int32) (x2 : Int32) (I : xI) (J : xJ) {t : Int32 × xI × xJ} (h : f_X11_greatest_4 x1 x2 I J = some t) (hC : (c_X11_greatest Q) t) : Rn L xs (d + 6) 150 19 [some (.ref 0), some (.int x1), some (.int x2)] [] 94 (I, J, xrf) Q := by
  unfold f_X11_greatest_4 at h
  refine Rn.fi 3 (c := x2 ≤ x1) (p1 := 36) (l1 := [some (.ref 0), some (.int x1), some (.int x2)]) (s1 := []) (n1 := 94) (M1 := (I, J, xrf)) (p2 := 24) (l2 := [some (.ref 0), some (.int x1), some (.int x2)]) (s2 := []) (n2 := 94) (M2 := (I, J, xrf)) (fun f => rfl) (fun hc => ?_) (fun hc => ?_)
  · rw [if_pos hc] at h
    exact p_X11_greatest_6 x1 x2 I J h hC
  · rw [if_neg hc] at h
    exact p_X11_greatest_5 x1 x2 I J h hC
theorem p_X11_greatest_3 {L : Nat} {xs : Nat → Int32} {d : Nat} {Q : xO → Prop} (x1 : Int32) (x2 : Int32) (I : xI) (J : xJ) {t : Int32 × xI × xJ} (h : f_X11_greatest_3 x1 x2 I J = some t) (hC : (c_X11_greatest Q) t) : Rn L xs (d + 6) 150 15 [some (.ref 0), some (.int x1), some (.int x2)] [] 94 (I, J, xrf) Q := by
  unfold f_X11_greatest_3 at h
  refine Rn.fi 2 (c := x1 < 0) (p1 := 36) (l1 := [some (.ref 0), some (.int x1), some (.int x2)]) (s1 := []) (n1 := 94) (M1 := (I, J, xrf)) (p2 := 19) (l2 := [some (.ref 0), some (.int x1), some (.int x2)]) (s2 := []) (n2 := 94) (M2 := (I, J, xrf)) (fun f => rfl) (fun hc => ?_) (fun hc => ?_)
  · rw [if_pos hc] at h
    exact p_X11_greatest_6 x1 x2 I J h hC
  · rw [if_neg hc] at h
    exact p_X11_greatest_4 x1 x2 I J h hC
theorem p_X11_greatest_2 {L : Nat} {xs : Nat → Int32} {d : Nat} {Q : xO → Prop} (x1 : Int32) (x2 : Int32) (I : xI) (J : xJ) {t : Int32 × xI × xJ} (h : f_X11_greatest_2 x1 x2 I J = some t) (hC : (c_X11_greatest Q) t) : Rn L xs (d + 6) 150 13 [some (.ref 0), some (.int x1), some (.int x2)] [] 94 (I, J, xrf) Q := by
  unfold f_X11_greatest_2 at h
  cases h
  exact Rn.ret 2 (o := ((some (.int x2)), 94, (I, J, xrf))) (fun f => rfl) hC
theorem p_X11_greatest_1 {L : Nat} {xs : Nat → Int32} {d : Nat} {Q : xO → Prop} (x1 : Int32) (I : xI) (J : xJ) {t : Int32 × xI × xJ} (h : f_X11_greatest_1 x1 I J = some t) (hC : (c_X11_greatest Q) t) : Rn L xs (d + 6) 150 4 [some (.ref 0), some (.int x1), none] [.ref 36] 94 (I, J, xrf) Q := by
  unfold f_X11_greatest_1 at h
  refine Rn.fi 5 (c := x1 = (-1)) (p1 := 13) (l1 := [some (.ref 0), some (.int x1), some (.int ((I 36 7)))]) (s1 := []) (n1 := 94) (M1 := (I, J, xrf)) (p2 := 15) (l2 := [some (.ref 0), some (.int x1), some (.int ((I 36 7)))]) (s2 := []) (n2 := 94) (M2 := (I, J, xrf)) (fun f => rfl) (fun hc => ?_) (fun hc => ?_)
  · rw [if_pos hc] at h
    exact p_X11_greatest_2 x1 ((I 36 7)) I J h hC
  · rw [if_neg hc] at h
    exact p_X11_greatest_3 x1 ((I 36 7)) I J h hC
theorem p_X11_greatest_0 {L : Nat} {xs : Nat → Int32} {d : Nat} {Q : xO → Prop} (x1 : Int32) (I : xI) (J : xJ) {t : Int32 × xI × xJ} (h : f_X11_greatest_0 x1 I J = some t) (hC : (c_X11_greatest Q) t) : Rn L xs (d + 6) 150 0 [some (.ref 0), some (.int x1), none] [] 94 (I, J, xrf) Q := by
  unfold f_X11_greatest_0 at h
  refine Rn.go 1 (j' := 150) (pc' := 1) (ls' := [some (.ref 0), some (.int x1), none]) (st' := [.ref 0]) (n' := 94) (M' := (I, J, xrf)) (fun f => rfl) ?_
  obtain ⟨o, ho, h⟩ := Option.bind_eq_some_iff.mp h
  refine Rn.call (d1 := d + 5) (j1 := 177) (ls1 := [some (.ref 0)]) (rest := []) (fun f => rfl) ?_
  refine p_X11_coverNow (d := d + 0) I J (t := o) ho ?_
  exact p_X11_greatest_1 x1 o.2.1 o.2.2 h hC
theorem p_X11_greatest {L : Nat} {xs : Nat → Int32} {d : Nat} {Q : xO → Prop} (x1 : Int32) (I : xI) (J : xJ) {t : Int32 × xI × xJ} (h : f_X11_greatest x1 I J = some t) (hC : Q ((some (.int t.1)), 94, (t.2.1, t.2.2, xrf))) : Rn L xs (d + 6) 150 0 [some (.ref 0), some (.int x1), none] [] 94 (I, J, xrf) Q := p_X11_greatest_0 x1 I J h hC
/-! X1_isInChosen -/
def c_X1_isInChosen (Q : xO → Prop) (t : Int32 × xI × xJ) : Prop := Q ((some (.int t.1)), 94, (t.2.1, t.2.2, xrf))
def c_X1_isInChosen_1 (L : Nat) (xs : Nat → Int32) (d : Nat) (Q : xO → Prop) (t : (Int32 × Int32 × Int32 × xI × xJ) ⊕ (Int32 × xI × xJ)) : Prop := match t with
  | .inl s => Rn L xs (d + 1) 16 2 [some (.ref 36), some (.int s.1), some (.int s.2.1), some (.int s.2.2.1)] [] 94 (s.2.2.2.1, s.2.2.2.2, xrf) Q
  | .inr t => (c_X1_isInChosen Q) t
def f_X1_isInChosen_5 (x1 : Int32) (x2 : Int32) (x3 : Int32) (I : xI) (J : xJ) : Option (Int32 × xI × xJ) := some (0, I, J)
def f_X1_isInChosen_4 (x1 : Int32) (x2 : Int32) (x3 : Int32) (I : xI) (J : xJ) : Option ((Int32 × Int32 × Int32 × xI × xJ) ⊕ (Int32 × xI × xJ)) := some (.inl (x1, x2, ((x3 + 1)), I, J))
def f_X1_isInChosen_3 (x1 : Int32) (x2 : Int32) (x3 : Int32) (I : xI) (J : xJ) : Option (Int32 × xI × xJ) := some (1, I, J)
def f_X1_isInChosen_2 (x1 : Int32) (x2 : Int32) (x3 : Int32) (I : xI) (J : xJ) : Option ((Int32 × Int32 × Int32 × xI × xJ) ⊕ (Int32 × xI × xJ)) := if x3 < 0 ∨ 6 ≤ x3.toNatClampNeg then none else if (I 41 x3.toNatClampNeg) < 0 ∨ 64 ≤ ((I 41 x3.toNatClampNeg)).toNatClampNeg then none else if (x1 &&& ((I 38 ((I 41 x3.toNatClampNeg)).toNatClampNeg) ^^^ (-1))) = 0 then ((f_X1_isInChosen_3 x1 x2 x3 I J)).map .inr else f_X1_isInChosen_4 x1 x2 x3 I J
def b_X1_isInChosen_1 (x1 : Int32) (x2 : Int32) (x3 : Int32) (I : xI) (J : xJ) : Option ((Int32 × Int32 × Int32 × xI × xJ) ⊕ (Int32 × xI × xJ)) := if x2 ≤ x3 then ((f_X1_isInChosen_5 x1 x2 x3 I J)).map .inr else f_X1_isInChosen_2 x1 x2 x3 I J
def f_X1_isInChosen_1 (x1 : Int32) (x2 : Int32) (x3 : Int32) (I : xI) (J : xJ) : Option (Int32 × xI × xJ) := xloop (fun s : Int32 × Int32 × Int32 × xI × xJ => b_X1_isInChosen_1 s.1 s.2.1 s.2.2.1 s.2.2.2.1 s.2.2.2.2) 5000 (x1, x2, x3, I, J)
def f_X1_isInChosen_0 (x1 : Int32) (x2 : Int32) (I : xI) (J : xJ) : Option (Int32 × xI × xJ) := f_X1_isInChosen_1 x1 x2 0 I J
def f_X1_isInChosen (x1 : Int32) (x2 : Int32) (I : xI) (J : xJ) : Option (Int32 × xI × xJ) := f_X1_isInChosen_0 x1 x2 I J
theorem p_X1_isInChosen_5 {L : Nat} {xs : Nat → Int32} {d : Nat} {Q : xO → Prop} (x1 : Int32) (x2 : Int32) (x3 : Int32) (I : xI) (J : xJ) {t : Int32 × xI × xJ} (h : f_X1_isInChosen_5 x1 x2 x3 I J = some t) (hC : (c_X1_isInChosen Q) t) : Rn L xs (d + 1) 16 33 [some (.ref 36), some (.int x1), some (.int x2), some (.int x3)] [] 94 (I, J, xrf) Q := by
  unfold f_X1_isInChosen_5 at h
  cases h
  exact Rn.ret 2 (o := ((some (.int 0)), 94, (I, J, xrf))) (fun f => rfl) hC
theorem p_X1_isInChosen_4 {L : Nat} {xs : Nat → Int32} {d : Nat} {Q : xO → Prop} (x1 : Int32) (x2 : Int32) (x3 : Int32) (I : xI) (J : xJ) {t : (Int32 × Int32 × Int32 × xI × xJ) ⊕ (Int32 × xI × xJ)} (h : f_X1_isInChosen_4 x1 x2 x3 I J = some t) (hC : (c_X1_isInChosen_1 L xs d Q) t) : Rn L xs (d + 1) 16 27 [some (.ref 36), some (.int x1), some (.int x2), some (.int x3)] [] 94 (I, J, xrf) Q := by
  unfold f_X1_isInChosen_4 at h
  refine Rn.go 2 (j' := 16) (pc' := 2) (ls' := [some (.ref 36), some (.int x1), some (.int x2), some (.int ((x3 + 1)))]) (st' := []) (n' := 94) (M' := (I, J, xrf)) (fun f => rfl) ?_
  cases h; exact hC
theorem p_X1_isInChosen_3 {L : Nat} {xs : Nat → Int32} {d : Nat} {Q : xO → Prop} (x1 : Int32) (x2 : Int32) (x3 : Int32) (I : xI) (J : xJ) {t : Int32 × xI × xJ} (h : f_X1_isInChosen_3 x1 x2 x3 I J = some t) (hC : (c_X1_isInChosen Q) t) : Rn L xs (d + 1) 16 25 [some (.ref 36), some (.int x1), some (.int x2), some (.int x3)] [] 94 (I, J, xrf) Q := by
  unfold f_X1_isInChosen_3 at h
  cases h
  exact Rn.ret 2 (o := ((some (.int 1)), 94, (I, J, xrf))) (fun f => rfl) hC
theorem p_X1_isInChosen_2 {L : Nat} {xs : Nat → Int32} {d : Nat} {Q : xO → Prop} (x1 : Int32) (x2 : Int32) (x3 : Int32) (I : xI) (J : xJ) {t : (Int32 × Int32 × Int32 × xI × xJ) ⊕ (Int32 × xI × xJ)} (h : f_X1_isInChosen_2 x1 x2 x3 I J = some t) (hC : (c_X1_isInChosen_1 L xs d Q) t) : Rn L xs (d + 1) 16 7 [some (.ref 36), some (.int x1), some (.int x2), some (.int x3)] [] 94 (I, J, xrf) Q := by
  unfold f_X1_isInChosen_2 at h
  obtain ⟨hc, h⟩ := xif h
  refine Rn.ok 7 (c := x3 < 0 ∨ 6 ≤ x3.toNatClampNeg) (p1 := 18) (l1 := [some (.ref 36), some (.int x1), some (.int x2), some (.int x3)]) (s1 := [.int ((I 41 x3.toNatClampNeg)), .ref 38, .int x1]) (n1 := 94) (M1 := (I, J, xrf)) (fun f => rfl) hc ?_
  obtain ⟨hc, h⟩ := xif h
  refine Rn.ok 1 (c := (I 41 x3.toNatClampNeg) < 0 ∨ 64 ≤ ((I 41 x3.toNatClampNeg)).toNatClampNeg) (p1 := 19) (l1 := [some (.ref 36), some (.int x1), some (.int x2), some (.int x3)]) (s1 := [.int ((I 38 ((I 41 x3.toNatClampNeg)).toNatClampNeg)), .int x1]) (n1 := 94) (M1 := (I, J, xrf)) (fun f => rfl) hc ?_
  refine Rn.fi 4 (c := (x1 &&& ((I 38 ((I 41 x3.toNatClampNeg)).toNatClampNeg) ^^^ (-1))) = 0) (p1 := 25) (l1 := [some (.ref 36), some (.int x1), some (.int x2), some (.int x3)]) (s1 := []) (n1 := 94) (M1 := (I, J, xrf)) (p2 := 27) (l2 := [some (.ref 36), some (.int x1), some (.int x2), some (.int x3)]) (s2 := []) (n2 := 94) (M2 := (I, J, xrf)) (fun f => rfl) (fun hc => ?_) (fun hc => ?_)
  · rw [if_pos hc] at h
    obtain ⟨t0, h0, rfl⟩ := Option.map_eq_some_iff.mp h
    exact p_X1_isInChosen_3 x1 x2 x3 I J h0 hC
  · rw [if_neg hc] at h
    exact p_X1_isInChosen_4 x1 x2 x3 I J h hC
theorem q_X1_isInChosen_1 {L : Nat} {xs : Nat → Int32} {d : Nat} {Q : xO → Prop} (x1 : Int32) (x2 : Int32) (x3 : Int32) (I : xI) (J : xJ) {t : (Int32 × Int32 × Int32 × xI × xJ) ⊕ (Int32 × xI × xJ)} (h : b_X1_isInChosen_1 x1 x2 x3 I J = some t) (hC : (c_X1_isInChosen_1 L xs d Q) t) : Rn L xs (d + 1) 16 2 [some (.ref 36), some (.int x1), some (.int x2), some (.int x3)] [] 94 (I, J, xrf) Q := by
  unfold b_X1_isInChosen_1 at h
  refine Rn.fi 3 (c := x2 ≤ x3) (p1 := 33) (l1 := [some (.ref 36), some (.int x1), some (.int x2), some (.int x3)]) (s1 := []) (n1 := 94) (M1 := (I, J, xrf)) (p2 := 7) (l2 := [some (.ref 36), some (.int x1), some (.int x2), some (.int x3)]) (s2 := []) (n2 := 94) (M2 := (I, J, xrf)) (fun f => rfl) (fun hc => ?_) (fun hc => ?_)
  · rw [if_pos hc] at h
    obtain ⟨t0, h0, rfl⟩ := Option.map_eq_some_iff.mp h
    exact p_X1_isInChosen_5 x1 x2 x3 I J h0 hC
  · rw [if_neg hc] at h
    exact p_X1_isInChosen_2 x1 x2 x3 I J h hC
theorem p_X1_isInChosen_1 {L : Nat} {xs : Nat → Int32} {d : Nat} {Q : xO → Prop} (x1 : Int32) (x2 : Int32) (x3 : Int32) (I : xI) (J : xJ) {t : Int32 × xI × xJ} (h : f_X1_isInChosen_1 x1 x2 x3 I J = some t) (hC : (c_X1_isInChosen Q) t) : Rn L xs (d + 1) 16 2 [some (.ref 36), some (.int x1), some (.int x2), some (.int x3)] [] 94 (I, J, xrf) Q := by
  unfold f_X1_isInChosen_1 at h
  exact xloop_some (P := fun s : Int32 × Int32 × Int32 × xI × xJ => Rn L xs (d + 1) 16 2 [some (.ref 36), some (.int s.1), some (.int s.2.1), some (.int s.2.2.1)] [] 94 (s.2.2.2.1, s.2.2.2.2, xrf) Q) t (fun s ⟨s', hb, hp⟩ => q_X1_isInChosen_1 s.1 s.2.1 s.2.2.1 s.2.2.2.1 s.2.2.2.2 hb hp) (fun s hb => q_X1_isInChosen_1 s.1 s.2.1 s.2.2.1 s.2.2.2.1 s.2.2.2.2 hb hC) _ _ h
theorem p_X1_isInChosen_0 {L : Nat} {xs : Nat → Int32} {d : Nat} {Q : xO → Prop} (x1 : Int32) (x2 : Int32) (I : xI) (J : xJ) {t : Int32 × xI × xJ} (h : f_X1_isInChosen_0 x1 x2 I J = some t) (hC : (c_X1_isInChosen Q) t) : Rn L xs (d + 1) 16 0 [some (.ref 36), some (.int x1), some (.int x2), none] [] 94 (I, J, xrf) Q := by
  unfold f_X1_isInChosen_0 at h
  refine Rn.go 2 (j' := 16) (pc' := 2) (ls' := [some (.ref 36), some (.int x1), some (.int x2), some (.int 0)]) (st' := []) (n' := 94) (M' := (I, J, xrf)) (fun f => rfl) ?_
  exact p_X1_isInChosen_1 x1 x2 0 I J h hC
theorem p_X1_isInChosen {L : Nat} {xs : Nat → Int32} {d : Nat} {Q : xO → Prop} (x1 : Int32) (x2 : Int32) (I : xI) (J : xJ) {t : Int32 × xI × xJ} (h : f_X1_isInChosen x1 x2 I J = some t) (hC : Q ((some (.int t.1)), 94, (t.2.1, t.2.2, xrf))) : Rn L xs (d + 1) 16 0 [some (.ref 36), some (.int x1), some (.int x2), none] [] 94 (I, J, xrf) Q := p_X1_isInChosen_0 x1 x2 I J h hC
/-! X1_isClosed -/
def c_X1_isClosed (Q : xO → Prop) (t : Int32 × xI × xJ) : Prop := Q ((some (.int t.1)), 94, (t.2.1, t.2.2, xrf))
def c_X1_isClosed_1 (L : Nat) (xs : Nat → Int32) (d : Nat) (Q : xO → Prop) (t : (Int32 × Int32 × (Option Value) × (Option Value) × xI × xJ) ⊕ (Int32 × xI × xJ)) : Prop := match t with
  | .inl s => Rn L xs (d + 2) 15 2 [some (.ref 36), some (.int s.1), some (.int s.2.1), s.2.2.1, s.2.2.2.1] [] 94 (s.2.2.2.2.1, s.2.2.2.2.2, xrf) Q
  | .inr t => (c_X1_isClosed Q) t
def c_X1_isClosed_3 (L : Nat) (xs : Nat → Int32) (d : Nat) (Q : xO → Prop) (t : (Int32 × Int32 × Int32 × (Option Value) × xI × xJ) ⊕ ((Int32 × Int32 × (Option Value) × (Option Value) × xI × xJ) ⊕ (Int32 × xI × xJ))) : Prop := match t with
  | .inl s => Rn L xs (d + 2) 15 9 [some (.ref 36), some (.int s.1), some (.int s.2.1), some (.int s.2.2.1), s.2.2.2.1] [] 94 (s.2.2.2.2.1, s.2.2.2.2.2, xrf) Q
  | .inr t => (c_X1_isClosed_1 L xs d Q) t
def f_X1_isClosed_10 (x1 : Int32) (x2 : Int32) (z3 : Option Value) (z4 : Option Value) (I : xI) (J : xJ) : Option (Int32 × xI × xJ) := some (1, I, J)
def f_X1_isClosed_9 (x1 : Int32) (x2 : Int32) (x3 : Int32) (z4 : Option Value) (I : xI) (J : xJ) : Option ((Int32 × Int32 × (Option Value) × (Option Value) × xI × xJ) ⊕ (Int32 × xI × xJ)) := some (.inl (x1, ((x2 + 1)), (some (.int x3)), z4, I, J))
def f_X1_isClosed_8 (x1 : Int32) (x2 : Int32) (x3 : Int32) (x4 : Int32) (I : xI) (J : xJ) : Option ((Int32 × Int32 × Int32 × (Option Value) × xI × xJ) ⊕ ((Int32 × Int32 × (Option Value) × (Option Value) × xI × xJ) ⊕ (Int32 × xI × xJ))) := some (.inl (x1, x2, ((x3 + 1)), (some (.int x4)), I, J))
def f_X1_isClosed_7 (x1 : Int32) (x2 : Int32) (x3 : Int32) (x4 : Int32) (I : xI) (J : xJ) : Option (Int32 × xI × xJ) := some (0, I, J)
def f_X1_isClosed_6 (x1 : Int32) (x2 : Int32) (x3 : Int32) (x4 : Int32) (s0 : Int32) (I : xI) (J : xJ) : Option ((Int32 × Int32 × Int32 × (Option Value) × xI × xJ) ⊕ ((Int32 × Int32 × (Option Value) × (Option Value) × xI × xJ) ⊕ (Int32 × xI × xJ))) := if s0 = 0 then (((f_X1_isClosed_7 x1 x2 x3 x4 I J)).map .inr).map .inr else f_X1_isClosed_8 x1 x2 x3 x4 I J
def f_X1_isClosed_5 (x1 : Int32) (x2 : Int32) (x3 : Int32) (x4 : Int32) (I : xI) (J : xJ) : Option ((Int32 × Int32 × Int32 × (Option Value) × xI × xJ) ⊕ ((Int32 × Int32 × (Option Value) × (Option Value) × xI × xJ) ⊕ (Int32 × xI × xJ))) := (f_X1_isInChosen x4 x1 I J).bind fun o => f_X1_isClosed_6 x1 x2 x3 x4 o.1 o.2.1 o.2.2
def f_X1_isClosed_4 (x1 : Int32) (x2 : Int32) (x3 : Int32) (z4 : Option Value) (I : xI) (J : xJ) : Option ((Int32 × Int32 × Int32 × (Option Value) × xI × xJ) ⊕ ((Int32 × Int32 × (Option Value) × (Option Value) × xI × xJ) ⊕ (Int32 × xI × xJ))) := if x2 < 0 ∨ 6 ≤ x2.toNatClampNeg then none else if (((I 41 x2.toNatClampNeg) * 4) + x3) < 0 ∨ 256 ≤ ((((I 41 x2.toNatClampNeg) * 4) + x3)).toNatClampNeg then none else if (I 40 ((((I 41 x2.toNatClampNeg) * 4) + x3)).toNatClampNeg) = 0 then f_X1_isClosed_8 x1 x2 x3 ((I 40 ((((I 41 x2.toNatClampNeg) * 4) + x3)).toNatClampNeg)) I J else f_X1_isClosed_5 x1 x2 x3 ((I 40 ((((I 41 x2.toNatClampNeg) * 4) + x3)).toNatClampNeg)) I J
def b_X1_isClosed_3 (x1 : Int32) (x2 : Int32) (x3 : Int32) (z4 : Option Value) (I : xI) (J : xJ) : Option ((Int32 × Int32 × Int32 × (Option Value) × xI × xJ) ⊕ ((Int32 × Int32 × (Option Value) × (Option Value) × xI × xJ) ⊕ (Int32 × xI × xJ))) := if (I 1 1) ≤ x3 then ((f_X1_isClosed_9 x1 x2 x3 z4 I J)).map .inr else f_X1_isClosed_4 x1 x2 x3 z4 I J
def f_X1_isClosed_3 (x1 : Int32) (x2 : Int32) (x3 : Int32) (z4 : Option Value) (I : xI) (J : xJ) : Option ((Int32 × Int32 × (Option Value) × (Option Value) × xI × xJ) ⊕ (Int32 × xI × xJ)) := xloop (fun s : Int32 × Int32 × Int32 × (Option Value) × xI × xJ => b_X1_isClosed_3 s.1 s.2.1 s.2.2.1 s.2.2.2.1 s.2.2.2.2.1 s.2.2.2.2.2) 5000 (x1, x2, x3, z4, I, J)
def f_X1_isClosed_2 (x1 : Int32) (x2 : Int32) (z3 : Option Value) (z4 : Option Value) (I : xI) (J : xJ) : Option ((Int32 × Int32 × (Option Value) × (Option Value) × xI × xJ) ⊕ (Int32 × xI × xJ)) := f_X1_isClosed_3 x1 x2 0 z4 I J
def b_X1_isClosed_1 (x1 : Int32) (x2 : Int32) (z3 : Option Value) (z4 : Option Value) (I : xI) (J : xJ) : Option ((Int32 × Int32 × (Option Value) × (Option Value) × xI × xJ) ⊕ (Int32 × xI × xJ)) := if x1 ≤ x2 then ((f_X1_isClosed_10 x1 x2 z3 z4 I J)).map .inr else f_X1_isClosed_2 x1 x2 z3 z4 I J
def f_X1_isClosed_1 (x1 : Int32) (x2 : Int32) (z3 : Option Value) (z4 : Option Value) (I : xI) (J : xJ) : Option (Int32 × xI × xJ) := xloop (fun s : Int32 × Int32 × (Option Value) × (Option Value) × xI × xJ => b_X1_isClosed_1 s.1 s.2.1 s.2.2.1 s.2.2.2.1 s.2.2.2.2.1 s.2.2.2.2.2) 5000 (x1, x2, z3, z4, I, J)
def f_X1_isClosed_0 (x1 : Int32) (I : xI) (J : xJ) : Option (Int32 × xI × xJ) := f_X1_isClosed_1 x1 0 none none I J
def f_X1_isClosed (x1 : Int32) (I : xI) (J : xJ) : Option (Int32 × xI × xJ) := f_X1_isClosed_0 x1 I J
theorem p_X1_isClosed_10 {L : Nat} {xs : Nat → Int32} {d : Nat} {Q : xO → Prop} (x1 : Int32) (x2 : Int32) (z3 : Option Value) (z4 : Option Value) (I : xI) (J : xJ) {t : Int32 × xI × xJ} (h : f_X1_isClosed_10 x1 x2 z3 z4 I J = some t) (hC : (c_X1_isClosed Q) t) : Rn L xs (d + 2) 15 66 [some (.ref 36), some (.int x1), some (.int x2), z3, z4] [] 94 (I, J, xrf) Q := by
  unfold f_X1_isClosed_10 at h
  cases h
  exact Rn.ret 2 (o := ((some (.int 1)), 94, (I, J, xrf))) (fun f => rfl) hC
theorem p_X1_isClosed_9 {L : Nat} {xs : Nat → Int32} {d : Nat} {Q : xO → Prop} (x1 : Int32) (x2 : Int32) (x3 : Int32) (z4 : Option Value) (I : xI) (J : xJ) {t : (Int32 × Int32 × (Option Value) × (Option Value) × xI × xJ) ⊕ (Int32 × xI × xJ)} (h : f_X1_isClosed_9 x1 x2 x3 z4 I J = some t) (hC : (c_X1_isClosed_1 L xs d Q) t) : Rn L xs (d + 2) 15 60 [some (.ref 36), some (.int x1), some (.int x2), some (.int x3), z4] [] 94 (I, J, xrf) Q := by
  unfold f_X1_isClosed_9 at h
  refine Rn.go 2 (j' := 15) (pc' := 2) (ls' := [some (.ref 36), some (.int x1), some (.int ((x2 + 1))), some (.int x3), z4]) (st' := []) (n' := 94) (M' := (I, J, xrf)) (fun f => rfl) ?_
  cases h; exact hC
theorem p_X1_isClosed_8 {L : Nat} {xs : Nat → Int32} {d : Nat} {Q : xO → Prop} (x1 : Int32) (x2 : Int32) (x3 : Int32) (x4 : Int32) (I : xI) (J : xJ) {t : (Int32 × Int32 × Int32 × (Option Value) × xI × xJ) ⊕ ((Int32 × Int32 × (Option Value) × (Option Value) × xI × xJ) ⊕ (Int32 × xI × xJ))} (h : f_X1_isClosed_8 x1 x2 x3 x4 I J = some t) (hC : (c_X1_isClosed_3 L xs d Q) t) : Rn L xs (d + 2) 15 54 [some (.ref 36), some (.int x1), some (.int x2), some (.int x3), some (.int x4)] [] 94 (I, J, xrf) Q := by
  unfold f_X1_isClosed_8 at h
  refine Rn.go 2 (j' := 15) (pc' := 9) (ls' := [some (.ref 36), some (.int x1), some (.int x2), some (.int ((x3 + 1))), some (.int x4)]) (st' := []) (n' := 94) (M' := (I, J, xrf)) (fun f => rfl) ?_
  cases h; exact hC
theorem p_X1_isClosed_7 {L : Nat} {xs : Nat → Int32} {d : Nat} {Q : xO → Prop} (x1 : Int32) (x2 : Int32) (x3 : Int32) (x4 : Int32) (I : xI) (J : xJ) {t : Int32 × xI × xJ} (h : f_X1_isClosed_7 x1 x2 x3 x4 I J = some t) (hC : (c_X1_isClosed Q) t) : Rn L xs (d + 2) 15 52 [some (.ref 36), some (.int x1), some (.int x2), some (.int x3), some (.int x4)] [] 94 (I, J, xrf) Q := by
  unfold f_X1_isClosed_7 at h
  cases h
  exact Rn.ret 2 (o := ((some (.int 0)), 94, (I, J, xrf))) (fun f => rfl) hC
theorem p_X1_isClosed_6 {L : Nat} {xs : Nat → Int32} {d : Nat} {Q : xO → Prop} (x1 : Int32) (x2 : Int32) (x3 : Int32) (x4 : Int32) (s0 : Int32) (I : xI) (J : xJ) {t : (Int32 × Int32 × Int32 × (Option Value) × xI × xJ) ⊕ ((Int32 × Int32 × (Option Value) × (Option Value) × xI × xJ) ⊕ (Int32 × xI × xJ))} (h : f_X1_isClosed_6 x1 x2 x3 x4 s0 I J = some t) (hC : (c_X1_isClosed_3 L xs d Q) t) : Rn L xs (d + 2) 15 49 [some (.ref 36), some (.int x1), some (.int x2), some (.int x3), some (.int x4)] [.int s0] 94 (I, J, xrf) Q := by
  unfold f_X1_isClosed_6 at h
  refine Rn.fi 1 (c := s0 = 0) (p1 := 52) (l1 := [some (.ref 36), some (.int x1), some (.int x2), some (.int x3), some (.int x4)]) (s1 := []) (n1 := 94) (M1 := (I, J, xrf)) (p2 := 54) (l2 := [some (.ref 36), some (.int x1), some (.int x2), some (.int x3), some (.int x4)]) (s2 := []) (n2 := 94) (M2 := (I, J, xrf)) (fun f => rfl) (fun hc => ?_) (fun hc => ?_)
  · rw [if_pos hc] at h
    obtain ⟨t0, h0, rfl⟩ := Option.map_eq_some_iff.mp h
    obtain ⟨t1, h1, rfl⟩ := Option.map_eq_some_iff.mp h0
    exact p_X1_isClosed_7 x1 x2 x3 x4 I J h1 hC
  · rw [if_neg hc] at h
    exact p_X1_isClosed_8 x1 x2 x3 x4 I J h hC
theorem p_X1_isClosed_5 {L : Nat} {xs : Nat → Int32} {d : Nat} {Q : xO → Prop} (x1 : Int32) (x2 : Int32) (x3 : Int32) (x4 : Int32) (I : xI) (J : xJ) {t : (Int32 × Int32 × Int32 × (Option Value) × xI × xJ) ⊕ ((Int32 × Int32 × (Option Value) × (Option Value) × xI × xJ) ⊕ (Int32 × xI × xJ))} (h : f_X1_isClosed_5 x1 x2 x3 x4 I J = some t) (hC : (c_X1_isClosed_3 L xs d Q) t) : Rn L xs (d + 2) 15 42 [some (.ref 36), some (.int x1), some (.int x2), some (.int x3), some (.int x4)] [] 94 (I, J, xrf) Q := by
  unfold f_X1_isClosed_5 at h
  refine Rn.go 3 (j' := 15) (pc' := 46) (ls' := [some (.ref 36), some (.int x1), some (.int x2), some (.int x3), some (.int x4)]) (st' := [.int x1, .int x4, .ref 36]) (n' := 94) (M' := (I, J, xrf)) (fun f => rfl) ?_
  obtain ⟨o, ho, h⟩ := Option.bind_eq_some_iff.mp h
  refine Rn.call (d1 := d + 1) (j1 := 16) (ls1 := [some (.ref 36), some (.int x4), some (.int x1), none]) (rest := []) (fun f => rfl) ?_
  refine p_X1_isInChosen (d := d + 0) x4 x1 I J (t := o) ho ?_
  exact p_X1_isClosed_6 x1 x2 x3 x4 o.1 o.2.1 o.2.2 h hC
theorem p_X1_isClosed_4 {L : Nat} {xs : Nat → Int32} {d : Nat} {Q : xO → Prop} (x1 : Int32) (x2 : Int32) (x3 : Int32) (z4 : Option Value) (I : xI) (J : xJ) {t : (Int32 × Int32 × Int32 × (Option Value) × xI × xJ) ⊕ ((Int32 × Int32 × (Option Value) × (Option Value) × xI × xJ) ⊕ (Int32 × xI × xJ))} (h : f_X1_isClosed_4 x1 x2 x3 z4 I J = some t) (hC : (c_X1_isClosed_3 L xs d Q) t) : Rn L xs (d + 2) 15 20 [some (.ref 36), some (.int x1), some (.int x2), some (.int x3), z4] [] 94 (I, J, xrf) Q := by
  unfold f_X1_isClosed_4 at h
  obtain ⟨hc, h⟩ := xif h
  refine Rn.ok 6 (c := x2 < 0 ∨ 6 ≤ x2.toNatClampNeg) (p1 := 30) (l1 := [some (.ref 36), some (.int x1), some (.int x2), some (.int x3), z4]) (s1 := [.int ((I 41 x2.toNatClampNeg)), .ref 40]) (n1 := 94) (M1 := (I, J, xrf)) (fun f => rfl) hc ?_
  obtain ⟨hc, h⟩ := xif h
  refine Rn.ok 5 (c := (((I 41 x2.toNatClampNeg) * 4) + x3) < 0 ∨ 256 ≤ ((((I 41 x2.toNatClampNeg) * 4) + x3)).toNatClampNeg) (p1 := 35) (l1 := [some (.ref 36), some (.int x1), some (.int x2), some (.int x3), z4]) (s1 := [.int ((I 40 ((((I 41 x2.toNatClampNeg) * 4) + x3)).toNatClampNeg))]) (n1 := 94) (M1 := (I, J, xrf)) (fun f => rfl) hc ?_
  refine Rn.fi 3 (c := (I 40 ((((I 41 x2.toNatClampNeg) * 4) + x3)).toNatClampNeg) = 0) (p1 := 54) (l1 := [some (.ref 36), some (.int x1), some (.int x2), some (.int x3), some (.int ((I 40 ((((I 41 x2.toNatClampNeg) * 4) + x3)).toNatClampNeg)))]) (s1 := []) (n1 := 94) (M1 := (I, J, xrf)) (p2 := 42) (l2 := [some (.ref 36), some (.int x1), some (.int x2), some (.int x3), some (.int ((I 40 ((((I 41 x2.toNatClampNeg) * 4) + x3)).toNatClampNeg)))]) (s2 := []) (n2 := 94) (M2 := (I, J, xrf)) (fun f => rfl) (fun hc => ?_) (fun hc => ?_)
  · rw [if_pos hc] at h
    exact p_X1_isClosed_8 x1 x2 x3 ((I 40 ((((I 41 x2.toNatClampNeg) * 4) + x3)).toNatClampNeg)) I J h hC
  · rw [if_neg hc] at h
    exact p_X1_isClosed_5 x1 x2 x3 ((I 40 ((((I 41 x2.toNatClampNeg) * 4) + x3)).toNatClampNeg)) I J h hC
theorem q_X1_isClosed_3 {L : Nat} {xs : Nat → Int32} {d : Nat} {Q : xO → Prop} (x1 : Int32) (x2 : Int32) (x3 : Int32) (z4 : Option Value) (I : xI) (J : xJ) {t : (Int32 × Int32 × Int32 × (Option Value) × xI × xJ) ⊕ ((Int32 × Int32 × (Option Value) × (Option Value) × xI × xJ) ⊕ (Int32 × xI × xJ))} (h : b_X1_isClosed_3 x1 x2 x3 z4 I J = some t) (hC : (c_X1_isClosed_3 L xs d Q) t) : Rn L xs (d + 2) 15 9 [some (.ref 36), some (.int x1), some (.int x2), some (.int x3), z4] [] 94 (I, J, xrf) Q := by
  unfold b_X1_isClosed_3 at h
  refine Rn.fi 5 (c := (I 1 1) ≤ x3) (p1 := 60) (l1 := [some (.ref 36), some (.int x1), some (.int x2), some (.int x3), z4]) (s1 := []) (n1 := 94) (M1 := (I, J, xrf)) (p2 := 20) (l2 := [some (.ref 36), some (.int x1), some (.int x2), some (.int x3), z4]) (s2 := []) (n2 := 94) (M2 := (I, J, xrf)) (fun f => rfl) (fun hc => ?_) (fun hc => ?_)
  · rw [if_pos hc] at h
    obtain ⟨t0, h0, rfl⟩ := Option.map_eq_some_iff.mp h
    exact p_X1_isClosed_9 x1 x2 x3 z4 I J h0 hC
  · rw [if_neg hc] at h
    exact p_X1_isClosed_4 x1 x2 x3 z4 I J h hC
theorem p_X1_isClosed_3 {L : Nat} {xs : Nat → Int32} {d : Nat} {Q : xO → Prop} (x1 : Int32) (x2 : Int32) (x3 : Int32) (z4 : Option Value) (I : xI) (J : xJ) {t : (Int32 × Int32 × (Option Value) × (Option Value) × xI × xJ) ⊕ (Int32 × xI × xJ)} (h : f_X1_isClosed_3 x1 x2 x3 z4 I J = some t) (hC : (c_X1_isClosed_1 L xs d Q) t) : Rn L xs (d + 2) 15 9 [some (.ref 36), some (.int x1), some (.int x2), some (.int x3), z4] [] 94 (I, J, xrf) Q := by
  unfold f_X1_isClosed_3 at h
  exact xloop_some (P := fun s : Int32 × Int32 × Int32 × (Option Value) × xI × xJ => Rn L xs (d + 2) 15 9 [some (.ref 36), some (.int s.1), some (.int s.2.1), some (.int s.2.2.1), s.2.2.2.1] [] 94 (s.2.2.2.2.1, s.2.2.2.2.2, xrf) Q) t (fun s ⟨s', hb, hp⟩ => q_X1_isClosed_3 s.1 s.2.1 s.2.2.1 s.2.2.2.1 s.2.2.2.2.1 s.2.2.2.2.2 hb hp) (fun s hb => q_X1_isClosed_3 s.1 s.2.1 s.2.2.1 s.2.2.2.1 s.2.2.2.2.1 s.2.2.2.2.2 hb hC) _ _ h
theorem p_X1_isClosed_2 {L : Nat} {xs : Nat → Int32} {d : Nat} {Q : xO → Prop} (x1 : Int32) (x2 : Int32) (z3 : Option Value) (z4 : Option Value) (I : xI) (J : xJ) {t : (Int32 × Int32 × (Option Value) × (Option Value) × xI × xJ) ⊕ (Int32 × xI × xJ)} (h : f_X1_isClosed_2 x1 x2 z3 z4 I J = some t) (hC : (c_X1_isClosed_1 L xs d Q) t) : Rn L xs (d + 2) 15 7 [some (.ref 36), some (.int x1), some (.int x2), z3, z4] [] 94 (I, J, xrf) Q := by
  unfold f_X1_isClosed_2 at h
  refine Rn.go 2 (j' := 15) (pc' := 9) (ls' := [some (.ref 36), some (.int x1), some (.int x2), some (.int 0), z4]) (st' := []) (n' := 94) (M' := (I, J, xrf)) (fun f => rfl) ?_
  exact p_X1_isClosed_3 x1 x2 0 z4 I J h hC
theorem q_X1_isClosed_1 {L : Nat} {xs : Nat → Int32} {d : Nat} {Q : xO → Prop} (x1 : Int32) (x2 : Int32) (z3 : Option Value) (z4 : Option Value) (I : xI) (J : xJ) {t : (Int32 × Int32 × (Option Value) × (Option Value) × xI × xJ) ⊕ (Int32 × xI × xJ)} (h : b_X1_isClosed_1 x1 x2 z3 z4 I J = some t) (hC : (c_X1_isClosed_1 L xs d Q) t) : Rn L xs (d + 2) 15 2 [some (.ref 36), some (.int x1), some (.int x2), z3, z4] [] 94 (I, J, xrf) Q := by
  unfold b_X1_isClosed_1 at h
  refine Rn.fi 3 (c := x1 ≤ x2) (p1 := 66) (l1 := [some (.ref 36), some (.int x1), some (.int x2), z3, z4]) (s1 := []) (n1 := 94) (M1 := (I, J, xrf)) (p2 := 7) (l2 := [some (.ref 36), some (.int x1), some (.int x2), z3, z4]) (s2 := []) (n2 := 94) (M2 := (I, J, xrf)) (fun f => rfl) (fun hc => ?_) (fun hc => ?_)
  · rw [if_pos hc] at h
    obtain ⟨t0, h0, rfl⟩ := Option.map_eq_some_iff.mp h
    exact p_X1_isClosed_10 x1 x2 z3 z4 I J h0 hC
  · rw [if_neg hc] at h
    exact p_X1_isClosed_2 x1 x2 z3 z4 I J h hC
theorem p_X1_isClosed_1 {L : Nat} {xs : Nat → Int32} {d : Nat} {Q : xO → Prop} (x1 : Int32) (x2 : Int32) (z3 : Option Value) (z4 : Option Value) (I : xI) (J : xJ) {t : Int32 × xI × xJ} (h : f_X1_isClosed_1 x1 x2 z3 z4 I J = some t) (hC : (c_X1_isClosed Q) t) : Rn L xs (d + 2) 15 2 [some (.ref 36), some (.int x1), some (.int x2), z3, z4] [] 94 (I, J, xrf) Q := by
  unfold f_X1_isClosed_1 at h
  exact xloop_some (P := fun s : Int32 × Int32 × (Option Value) × (Option Value) × xI × xJ => Rn L xs (d + 2) 15 2 [some (.ref 36), some (.int s.1), some (.int s.2.1), s.2.2.1, s.2.2.2.1] [] 94 (s.2.2.2.2.1, s.2.2.2.2.2, xrf) Q) t (fun s ⟨s', hb, hp⟩ => q_X1_isClosed_1 s.1 s.2.1 s.2.2.1 s.2.2.2.1 s.2.2.2.2.1 s.2.2.2.2.2 hb hp) (fun s hb => q_X1_isClosed_1 s.1 s.2.1 s.2.2.1 s.2.2.2.1 s.2.2.2.2.1 s.2.2.2.2.2 hb hC) _ _ h
theorem p_X1_isClosed_0 {L : Nat} {xs : Nat → Int32} {d : Nat} {Q : xO → Prop} (x1 : Int32) (I : xI) (J : xJ) {t : Int32 × xI × xJ} (h : f_X1_isClosed_0 x1 I J = some t) (hC : (c_X1_isClosed Q) t) : Rn L xs (d + 2) 15 0 [some (.ref 36), some (.int x1), none, none, none] [] 94 (I, J, xrf) Q := by
  unfold f_X1_isClosed_0 at h
  refine Rn.go 2 (j' := 15) (pc' := 2) (ls' := [some (.ref 36), some (.int x1), some (.int 0), none, none]) (st' := []) (n' := 94) (M' := (I, J, xrf)) (fun f => rfl) ?_
  exact p_X1_isClosed_1 x1 0 none none I J h hC
theorem p_X1_isClosed {L : Nat} {xs : Nat → Int32} {d : Nat} {Q : xO → Prop} (x1 : Int32) (I : xI) (J : xJ) {t : Int32 × xI × xJ} (h : f_X1_isClosed x1 I J = some t) (hC : Q ((some (.int t.1)), 94, (t.2.1, t.2.2, xrf))) : Rn L xs (d + 2) 15 0 [some (.ref 36), some (.int x1), none, none, none] [] 94 (I, J, xrf) Q := p_X1_isClosed_0 x1 I J h hC
/-! X1_choose -/
def c_X1_choose (Q : xO → Prop) (t : Int32 × xI × xJ) : Prop := Q ((some (.int t.1)), 94, (t.2.1, t.2.2, xrf))
def c_X1_choose_11 (L : Nat) (xs : Nat → Int32) (d r : Nat) (Q : xO → Prop) (t : (Int32 × Int32 × Int32 × Int32 × Int32 × Int32 × Int32 × xI × xJ) ⊕ (Int32 × xI × xJ)) : Prop := match t with
  | .inl s => Rn L xs (d + r + 3) 14 67 [some (.ref 36), some (.int s.1), some (.int s.2.1), some (.int s.2.2.1), some (.int s.2.2.2.1), some (.int s.2.2.2.2.1), some (.int s.2.2.2.2.2.1), some (.int s.2.2.2.2.2.2.1)] [] 94 (s.2.2.2.2.2.2.2.1, s.2.2.2.2.2.2.2.2, xrf) Q
  | .inr t => (c_X1_choose Q) t
def f_X1_choose_16 (self : Int32 → Int32 → Int32 → Int32 → xI → xJ → Option (Int32 × xI × xJ)) (x1 : Int32) (x2 : Int32) (x3 : Int32) (x4 : Int32) (x5 : Int32) (x6 : Int32) (x7 : Int32) (I : xI) (J : xJ) : Option (Int32 × xI × xJ) := some (0, I, J)
def f_X1_choose_15 (self : Int32 → Int32 → Int32 → Int32 → xI → xJ → Option (Int32 × xI × xJ)) (x1 : Int32) (x2 : Int32) (x3 : Int32) (x4 : Int32) (x5 : Int32) (x6 : Int32) (x7 : Int32) (I : xI) (J : xJ) : Option ((Int32 × Int32 × Int32 × Int32 × Int32 × Int32 × Int32 × xI × xJ) ⊕ (Int32 × xI × xJ)) := some (.inl (x1, x2, x3, x4, x5, x6, ((x7 + 1)), I, J))
def f_X1_choose_14 (self : Int32 → Int32 → Int32 → Int32 → xI → xJ → Option (Int32 × xI × xJ)) (x1 : Int32) (x2 : Int32) (x3 : Int32) (x4 : Int32) (x5 : Int32) (x6 : Int32) (x7 : Int32) (I : xI) (J : xJ) : Option (Int32 × xI × xJ) := some (1, I, J)
def f_X1_choose_13 (self : Int32 → Int32 → Int32 → Int32 → xI → xJ → Option (Int32 × xI × xJ)) (x1 : Int32) (x2 : Int32) (x3 : Int32) (x4 : Int32) (x5 : Int32) (x6 : Int32) (x7 : Int32) (s0 : Int32) (I : xI) (J : xJ) : Option ((Int32 × Int32 × Int32 × Int32 × Int32 × Int32 × Int32 × xI × xJ) ⊕ (Int32 × xI × xJ)) := if s0 = 0 then f_X1_choose_15 self x1 x2 x3 x4 x5 x6 x7 I J else ((f_X1_choose_14 self x1 x2 x3 x4 x5 x6 x7 I J)).map .inr
def f_X1_choose_12 (self : Int32 → Int32 → Int32 → Int32 → xI → xJ → Option (Int32 × xI × xJ)) (x1 : Int32) (x2 : Int32) (x3 : Int32) (x4 : Int32) (x5 : Int32) (x6 : Int32) (x7 : Int32) (I : xI) (J : xJ) : Option ((Int32 × Int32 × Int32 × Int32 × Int32 × Int32 × Int32 × xI × xJ) ⊕ (Int32 × xI × xJ)) := if x2 < 0 ∨ 6 ≤ x2.toNatClampNeg then none else if x7 < 0 ∨ 64 ≤ x7.toNatClampNeg then none else (self ((x7 + 1)) ((x2 + 1)) x3 ((x4 ||| (((xup I 41 x2.toNatClampNeg x7)) 38 x7.toNatClampNeg))) ((xup I 41 x2.toNatClampNeg x7)) J).bind fun o => f_X1_choose_13 self x1 x2 x3 x4 x5 x6 x7 o.1 o.2.1 o.2.2
def b_X1_choose_11 (self : Int32 → Int32 → Int32 → Int32 → xI → xJ → Option (Int32 × xI × xJ)) (x1 : Int32) (x2 : Int32) (x3 : Int32) (x4 : Int32) (x5 : Int32) (x6 : Int32) (x7 : Int32) (I : xI) (J : xJ) : Option ((Int32 × Int32 × Int32 × Int32 × Int32 × Int32 × Int32 × xI × xJ) ⊕ (Int32 × xI × xJ)) := if ((I 36 4) - x6) < x7 then ((f_X1_choose_16 self x1 x2 x3 x4 x5 x6 x7 I J)).map .inr else f_X1_choose_12 self x1 x2 x3 x4 x5 x6 x7 I J
def f_X1_choose_11 (self : Int32 → Int32 → Int32 → Int32 → xI → xJ → Option (Int32 × xI × xJ)) (x1 : Int32) (x2 : Int32) (x3 : Int32) (x4 : Int32) (x5 : Int32) (x6 : Int32) (x7 : Int32) (I : xI) (J : xJ) : Option (Int32 × xI × xJ) := xloop (fun s : Int32 × Int32 × Int32 × Int32 × Int32 × Int32 × Int32 × xI × xJ => b_X1_choose_11 self s.1 s.2.1 s.2.2.1 s.2.2.2.1 s.2.2.2.2.1 s.2.2.2.2.2.1 s.2.2.2.2.2.2.1 s.2.2.2.2.2.2.2.1 s.2.2.2.2.2.2.2.2) 5000 (x1, x2, x3, x4, x5, x6, x7, I, J)
def f_X1_choose_10 (self : Int32 → Int32 → Int32 → Int32 → xI → xJ → Option (Int32 × xI × xJ)) (x1 : Int32) (x2 : Int32) (x3 : Int32) (x4 : Int32) (x5 : Int32) (x6 : Int32) (I : xI) (J : xJ) : Option (Int32 × xI × xJ) := f_X1_choose_11 self x1 x2 x3 x4 x5 x6 x1 I J
def f_X1_choose_9 (self : Int32 → Int32 → Int32 → Int32 → xI → xJ → Option (Int32 × xI × xJ)) (x1 : Int32) (x2 : Int32) (x3 : Int32) (x4 : Int32) (x5 : Int32) (x6 : Int32) (I : xI) (J : xJ) : Option (Int32 × xI × xJ) := some (0, I, J)
def f_X1_choose_8 (self : Int32 → Int32 → Int32 → Int32 → xI → xJ → Option (Int32 × xI × xJ)) (x1 : Int32) (x2 : Int32) (x3 : Int32) (x4 : Int32) (x5 : Int32) (x6 : Int32) (s0 : Int32) (I : xI) (J : xJ) : Option (Int32 × xI × xJ) := if s0 ≤ (x6 * (I 36 5)) then f_X1_choose_10 self x1 x2 x3 x4 x5 x6 I J else f_X1_choose_9 self x1 x2 x3 x4 x5 x6 I J
def f_X1_choose_7 (self : Int32 → Int32 → Int32 → Int32 → xI → xJ → Option (Int32 × xI × xJ)) (x1 : Int32) (x2 : Int32) (x3 : Int32) (x4 : Int32) (x5 : Int32) (x6 : Int32) (I : xI) (J : xJ) : Option (Int32 × xI × xJ) := (f_J6_bitCount_0f7a4 x5 I J).bind fun o => f_X1_choose_8 self x1 x2 x3 x4 x5 x6 o.1 o.2.1 o.2.2
def f_X1_choose_6 (self : Int32 → Int32 → Int32 → Int32 → xI → xJ → Option (Int32 × xI × xJ)) (x1 : Int32) (x2 : Int32) (x3 : Int32) (x4 : Int32) (x5 : Int32) (x6 : Int32) (s0 : Int32) (I : xI) (J : xJ) : Option (Int32 × xI × xJ) := if s0 = 0 ∨ s0 = 1 then some (s0, I, J) else none
def f_X1_choose_5 (self : Int32 → Int32 → Int32 → Int32 → xI → xJ → Option (Int32 × xI × xJ)) (x1 : Int32) (x2 : Int32) (x3 : Int32) (x4 : Int32) (x5 : Int32) (x6 : Int32) (I : xI) (J : xJ) : Option (Int32 × xI × xJ) := f_X1_choose_6 self x1 x2 x3 x4 x5 x6 0 I J
def f_X1_choose_4 (self : Int32 → Int32 → Int32 → Int32 → xI → xJ → Option (Int32 × xI × xJ)) (x1 : Int32) (x2 : Int32) (x3 : Int32) (x4 : Int32) (x5 : Int32) (x6 : Int32) (I : xI) (J : xJ) : Option (Int32 × xI × xJ) := f_X1_choose_6 self x1 x2 x3 x4 x5 x6 1 I J
def f_X1_choose_3 (self : Int32 → Int32 → Int32 → Int32 → xI → xJ → Option (Int32 × xI × xJ)) (x1 : Int32) (x2 : Int32) (x3 : Int32) (x4 : Int32) (x5 : Int32) (x6 : Int32) (s0 : Int32) (I : xI) (J : xJ) : Option (Int32 × xI × xJ) := if s0 = 0 then f_X1_choose_5 self x1 x2 x3 x4 x5 x6 I J else f_X1_choose_4 self x1 x2 x3 x4 x5 x6 I J
def f_X1_choose_2 (self : Int32 → Int32 → Int32 → Int32 → xI → xJ → Option (Int32 × xI × xJ)) (x1 : Int32) (x2 : Int32) (x3 : Int32) (x4 : Int32) (x5 : Int32) (x6 : Int32) (I : xI) (J : xJ) : Option (Int32 × xI × xJ) := (f_X1_isClosed x3 I J).bind fun o => f_X1_choose_3 self x1 x2 x3 x4 x5 x6 o.1 o.2.1 o.2.2
def f_X1_choose_1 (self : Int32 → Int32 → Int32 → Int32 → xI → xJ → Option (Int32 × xI × xJ)) (x1 : Int32) (x2 : Int32) (x3 : Int32) (x4 : Int32) (x5 : Int32) (x6 : Int32) (I : xI) (J : xJ) : Option (Int32 × xI × xJ) := if x5 = 0 then f_X1_choose_2 self x1 x2 x3 x4 x5 x6 I J else f_X1_choose_5 self x1 x2 x3 x4 x5 x6 I J
def f_X1_choose_0 (self : Int32 → Int32 → Int32 → Int32 → xI → xJ → Option (Int32 × xI × xJ)) (x1 : Int32) (x2 : Int32) (x3 : Int32) (x4 : Int32) (I : xI) (J : xJ) : Option (Int32 × xI × xJ) := if 0 < (x3 - x2) then f_X1_choose_7 self x1 x2 x3 x4 ((((1 <<< ((I 1 0) &&& 31)) - 1) &&& (x4 ^^^ (-1)))) ((x3 - x2)) I J else f_X1_choose_1 self x1 x2 x3 x4 ((((1 <<< ((I 1 0) &&& 31)) - 1) &&& (x4 ^^^ (-1)))) ((x3 - x2)) I J
def f_X1_choose : Nat → Int32 → Int32 → Int32 → Int32 → xI → xJ → Option (Int32 × xI × xJ)
  | 0, _, _, _, _, _, _ => none
  | r + 1, x1, x2, x3, x4, I, J => f_X1_choose_0 (f_X1_choose r) x1 x2 x3 x4 I J
theorem p_X1_choose_16 {L : Nat} {xs : Nat → Int32} {d r : Nat} {Q : xO → Prop} {self : Int32 → Int32 → Int32 → Int32 → xI → xJ → Option (Int32 × xI × xJ)} (hself : ∀ (a1 : Int32) (a2 : Int32) (a3 : Int32) (a4 : Int32) (I : xI) (J : xJ) (o : Int32 × xI × xJ), self a1 a2 a3 a4 I J = some o → ∀ Q : xO → Prop, Q ((some (.int o.1)), 94, (o.2.1, o.2.2, xrf)) → Rn L xs (d + r + 2) 14 0 [some (.ref 36), some (.int a1), some (.int a2), some (.int a3), some (.int a4), none, none, none] [] 94 (I, J, xrf) Q) (x1 : Int32) (x2 : Int32) (x3 : Int32) (x4 : Int32) (x5 : Int32) (x6 : Int32) (x7 : Int32) (I : xI) (J : xJ) {t : Int32 × xI × xJ} (h : f_X1_choose_16 self x1 x2 x3 x4 x5 x6 x7 I J = some t) (hC : (c_X1_choose Q) t) : Rn L xs (d + r + 3) 14 120 [some (.ref 36), some (.int x1), some (.int x2), some (.int x3), some (.int x4), some (.int x5), some (.int x6), some (.int x7)] [] 94 (I, J, xrf) Q := by
  unfold f_X1_choose_16 at h
  cases h
  exact Rn.ret 2 (o := ((some (.int 0)), 94, (I, J, xrf))) (fun f => rfl) hC
theorem p_X1_choose_15 {L : Nat} {xs : Nat → Int32} {d r : Nat} {Q : xO → Prop} {self : Int32 → Int32 → Int32 → Int32 → xI → xJ → Option (Int32 × xI × xJ)} (hself : ∀ (a1 : Int32) (a2 : Int32) (a3 : Int32) (a4 : Int32) (I : xI) (J : xJ) (o : Int32 × xI × xJ), self a1 a2 a3 a4 I J = some o → ∀ Q : xO → Prop, Q ((some (.int o.1)), 94, (o.2.1, o.2.2, xrf)) → Rn L xs (d + r + 2) 14 0 [some (.ref 36), some (.int a1), some (.int a2), some (.int a3), some (.int a4), none, none, none] [] 94 (I, J, xrf) Q) (x1 : Int32) (x2 : Int32) (x3 : Int32) (x4 : Int32) (x5 : Int32) (x6 : Int32) (x7 : Int32) (I : xI) (J : xJ) {t : (Int32 × Int32 × Int32 × Int32 × Int32 × Int32 × Int32 × xI × xJ) ⊕ (Int32 × xI × xJ)} (h : f_X1_choose_15 self x1 x2 x3 x4 x5 x6 x7 I J = some t) (hC : (c_X1_choose_11 L xs d r Q) t) : Rn L xs (d + r + 3) 14 114 [some (.ref 36), some (.int x1), some (.int x2), some (.int x3), some (.int x4), some (.int x5), some (.int x6), some (.int x7)] [] 94 (I, J, xrf) Q := by
  unfold f_X1_choose_15 at h
  refine Rn.go 2 (j' := 14) (pc' := 67) (ls' := [some (.ref 36), some (.int x1), some (.int x2), some (.int x3), some (.int x4), some (.int x5), some (.int x6), some (.int ((x7 + 1)))]) (st' := []) (n' := 94) (M' := (I, J, xrf)) (fun f => rfl) ?_
  cases h; exact hC
theorem p_X1_choose_14 {L : Nat} {xs : Nat → Int32} {d r : Nat} {Q : xO → Prop} {self : Int32 → Int32 → Int32 → Int32 → xI → xJ → Option (Int32 × xI × xJ)} (hself : ∀ (a1 : Int32) (a2 : Int32) (a3 : Int32) (a4 : Int32) (I : xI) (J : xJ) (o : Int32 × xI × xJ), self a1 a2 a3 a4 I J = some o → ∀ Q : xO → Prop, Q ((some (.int o.1)), 94, (o.2.1, o.2.2, xrf)) → Rn L xs (d + r + 2) 14 0 [some (.ref 36), some (.int a1), some (.int a2), some (.int a3), some (.int a4), none, none, none] [] 94 (I, J, xrf) Q) (x1 : Int32) (x2 : Int32) (x3 : Int32) (x4 : Int32) (x5 : Int32) (x6 : Int32) (x7 : Int32) (I : xI) (J : xJ) {t : Int32 × xI × xJ} (h : f_X1_choose_14 self x1 x2 x3 x4 x5 x6 x7 I J = some t) (hC : (c_X1_choose Q) t) : Rn L xs (d + r + 3) 14 112 [some (.ref 36), some (.int x1), some (.int x2), some (.int x3), some (.int x4), some (.int x5), some (.int x6), some (.int x7)] [] 94 (I, J, xrf) Q := by
  unfold f_X1_choose_14 at h
  cases h
  exact Rn.ret 2 (o := ((some (.int 1)), 94, (I, J, xrf))) (fun f => rfl) hC
theorem p_X1_choose_13 {L : Nat} {xs : Nat → Int32} {d r : Nat} {Q : xO → Prop} {self : Int32 → Int32 → Int32 → Int32 → xI → xJ → Option (Int32 × xI × xJ)} (hself : ∀ (a1 : Int32) (a2 : Int32) (a3 : Int32) (a4 : Int32) (I : xI) (J : xJ) (o : Int32 × xI × xJ), self a1 a2 a3 a4 I J = some o → ∀ Q : xO → Prop, Q ((some (.int o.1)), 94, (o.2.1, o.2.2, xrf)) → Rn L xs (d + r + 2) 14 0 [some (.ref 36), some (.int a1), some (.int a2), some (.int a3), some (.int a4), none, none, none] [] 94 (I, J, xrf) Q) (x1 : Int32) (x2 : Int32) (x3 : Int32) (x4 : Int32) (x5 : Int32) (x6 : Int32) (x7 : Int32) (s0 : Int32) (I : xI) (J : xJ) {t : (Int32 × Int32 × Int32 × Int32 × Int32 × Int32 × Int32 × xI × xJ) ⊕ (Int32 × xI × xJ)} (h : f_X1_choose_13 self x1 x2 x3 x4 x5 x6 x7 s0 I J = some t) (hC : (c_X1_choose_11 L xs d r Q) t) : Rn L xs (d + r + 3) 14 109 [some (.ref 36), some (.int x1), some (.int x2), some (.int x3), some (.int x4), some (.int x5), some (.int x6), some (.int x7)] [.int s0] 94 (I, J, xrf) Q := by
  unfold f_X1_choose_13 at h
  refine Rn.fi 1 (c := s0 = 0) (p1 := 114) (l1 := [some (.ref 36), some (.int x1), some (.int x2), some (.int x3), some (.int x4), some (.int x5), some (.int x6), some (.int x7)]) (s1 := []) (n1 := 94) (M1 := (I, J, xrf)) (p2 := 112) (l2 := [some (.ref 36), some (.int x1), some (.int x2), some (.int x3), some (.int x4), some (.int x5), some (.int x6), some (.int x7)]) (s2 := []) (n2 := 94) (M2 := (I, J, xrf)) (fun f => rfl) (fun hc => ?_) (fun hc => ?_)
  · rw [if_pos hc] at h
    exact p_X1_choose_15 hself x1 x2 x3 x4 x5 x6 x7 I J h hC
  · rw [if_neg hc] at h
    obtain ⟨t0, h0, rfl⟩ := Option.map_eq_some_iff.mp h
    exact p_X1_choose_14 hself x1 x2 x3 x4 x5 x6 x7 I J h0 hC
theorem p_X1_choose_12 {L : Nat} {xs : Nat → Int32} {d r : Nat} {Q : xO → Prop} {self : Int32 → Int32 → Int32 → Int32 → xI → xJ → Option (Int32 × xI × xJ)} (hself : ∀ (a1 : Int32) (a2 : Int32) (a3 : Int32) (a4 : Int32) (I : xI) (J : xJ) (o : Int32 × xI × xJ), self a1 a2 a3 a4 I J = some o → ∀ Q : xO → Prop, Q ((some (.int o.1)), 94, (o.2.1, o.2.2, xrf)) → Rn L xs (d + r + 2) 14 0 [some (.ref 36), some (.int a1), some (.int a2), some (.int a3), some (.int a4), none, none, none] [] 94 (I, J, xrf) Q) (x1 : Int32) (x2 : Int32) (x3 : Int32) (x4 : Int32) (x5 : Int32) (x6 : Int32) (x7 : Int32) (I : xI) (J : xJ) {t : (Int32 × Int32 × Int32 × Int32 × Int32 × Int32 × Int32 × xI × xJ) ⊕ (Int32 × xI × xJ)} (h : f_X1_choose_12 self x1 x2 x3 x4 x5 x6 x7 I J = some t) (hC : (c_X1_choose_11 L xs d r Q) t) : Rn L xs (d + r + 3) 14 79 [some (.ref 36), some (.int x1), some (.int x2), some (.int x3), some (.int x4), some (.int x5), some (.int x6), some (.int x7)] [] 94 (I, J, xrf) Q := by
  unfold f_X1_choose_12 at h
  obtain ⟨hc, h⟩ := xif h
  refine Rn.ok 5 (c := x2 < 0 ∨ 6 ≤ x2.toNatClampNeg) (p1 := 87) (l1 := [some (.ref 36), some (.int x1), some (.int x2), some (.int x3), some (.int x4), some (.int x5), some (.int x6), some (.int x7)]) (s1 := []) (n1 := 94) (M1 := ((xup I 41 x2.toNatClampNeg x7), J, xrf)) (fun f => rfl) hc ?_
  obtain ⟨hc, h⟩ := xif h
  refine Rn.ok 13 (c := x7 < 0 ∨ 64 ≤ x7.toNatClampNeg) (p1 := 105) (l1 := [some (.ref 36), some (.int x1), some (.int x2), some (.int x3), some (.int x4), some (.int x5), some (.int x6), some (.int x7)]) (s1 := [.int ((((xup I 41 x2.toNatClampNeg x7)) 38 x7.toNatClampNeg)), .int x4, .int x3, .int ((x2 + 1)), .int ((x7 + 1)), .ref 36]) (n1 := 94) (M1 := ((xup I 41 x2.toNatClampNeg x7), J, xrf)) (fun f => rfl) hc ?_
  refine Rn.go 1 (j' := 14) (pc' := 106) (ls' := [some (.ref 36), some (.int x1), some (.int x2), some (.int x3), some (.int x4), some (.int x5), some (.int x6), some (.int x7)]) (st' := [.int ((x4 ||| (((xup I 41 x2.toNatClampNeg x7)) 38 x7.toNatClampNeg))), .int x3, .int ((x2 + 1)), .int ((x7 + 1)), .ref 36]) (n' := 94) (M' := ((xup I 41 x2.toNatClampNeg x7), J, xrf)) (fun f => rfl) ?_
  obtain ⟨o, ho, h⟩ := Option.bind_eq_some_iff.mp h
  refine Rn.call (d1 := d + r + 2) (j1 := 14) (ls1 := [some (.ref 36), some (.int ((x7 + 1))), some (.int ((x2 + 1))), some (.int x3), some (.int ((x4 ||| (((xup I 41 x2.toNatClampNeg x7)) 38 x7.toNatClampNeg)))), none, none, none]) (rest := []) (fun f => rfl) ?_
  refine hself ((x7 + 1)) ((x2 + 1)) x3 ((x4 ||| (((xup I 41 x2.toNatClampNeg x7)) 38 x7.toNatClampNeg))) ((xup I 41 x2.toNatClampNeg x7)) (J) o ho _ ?_
  exact p_X1_choose_13 hself x1 x2 x3 x4 x5 x6 x7 o.1 o.2.1 o.2.2 h hC
theorem q_X1_choose_11 {L : Nat} {xs : Nat → Int32} {d r : Nat} {Q : xO → Prop} {self : Int32 → Int32 → Int32 → Int32 → xI → xJ → Option (Int32 × xI × xJ)} (hself : ∀ (a1 : Int32) (a2 : Int32) (a3 : Int32) (a4 : Int32) (I : xI) (J : xJ) (o : Int32 × xI × xJ), self a1 a2 a3 a4 I J = some o → ∀ Q : xO → Prop, Q ((some (.int o.1)), 94, (o.2.1, o.2.2, xrf)) → Rn L xs (d + r + 2) 14 0 [some (.ref 36), some (.int a1), some (.int a2), some (.int a3), some (.int a4), none, none, none] [] 94 (I, J, xrf) Q) (x1 : Int32) (x2 : Int32) (x3 : Int32) (x4 : Int32) (x5 : Int32) (x6 : Int32) (x7 : Int32) (I : xI) (J : xJ) {t : (Int32 × Int32 × Int32 × Int32 × Int32 × Int32 × Int32 × xI × xJ) ⊕ (Int32 × xI × xJ)} (h : b_X1_choose_11 self x1 x2 x3 x4 x5 x6 x7 I J = some t) (hC : (c_X1_choose_11 L xs d r Q) t) : Rn L xs (d + r + 3) 14 67 [some (.ref 36), some (.int x1), some (.int x2), some (.int x3), some (.int x4), some (.int x5), some (.int x6), some (.int x7)] [] 94 (I, J, xrf) Q := by
  unfold b_X1_choose_11 at h
  refine Rn.fi 6 (c := ((I 36 4) - x6) < x7) (p1 := 120) (l1 := [some (.ref 36), some (.int x1), some (.int x2), some (.int x3), some (.int x4), some (.int x5), some (.int x6), some (.int x7)]) (s1 := []) (n1 := 94) (M1 := (I, J, xrf)) (p2 := 79) (l2 := [some (.ref 36), some (.int x1), some (.int x2), some (.int x3), some (.int x4), some (.int x5), some (.int x6), some (.int x7)]) (s2 := []) (n2 := 94) (M2 := (I, J, xrf)) (fun f => rfl) (fun hc => ?_) (fun hc => ?_)
  · rw [if_pos hc] at h
    obtain ⟨t0, h0, rfl⟩ := Option.map_eq_some_iff.mp h
    exact p_X1_choose_16 hself x1 x2 x3 x4 x5 x6 x7 I J h0 hC
  · rw [if_neg hc] at h
    exact p_X1_choose_12 hself x1 x2 x3 x4 x5 x6 x7 I J h hC
theorem p_X1_choose_11 {L : Nat} {xs : Nat → Int32} {d r : Nat} {Q : xO → Prop} {self : Int32 → Int32 → Int32 → Int32 → xI → xJ → Option (Int32 × xI × xJ)} (hself : ∀ (a1 : Int32) (a2 : Int32) (a3 : Int32) (a4 : Int32) (I : xI) (J : xJ) (o : Int32 × xI × xJ), self a1 a2 a3 a4 I J = some o → ∀ Q : xO → Prop, Q ((some (.int o.1)), 94, (o.2.1, o.2.2, xrf)) → Rn L xs (d + r + 2) 14 0 [some (.ref 36), some (.int a1), some (.int a2), some (.int a3), some (.int a4), none, none, none] [] 94 (I, J, xrf) Q) (x1 : Int32) (x2 : Int32) (x3 : Int32) (x4 : Int32) (x5 : Int32) (x6 : Int32) (x7 : Int32) (I : xI) (J : xJ) {t : Int32 × xI × xJ} (h : f_X1_choose_11 self x1 x2 x3 x4 x5 x6 x7 I J = some t) (hC : (c_X1_choose Q) t) : Rn L xs (d + r + 3) 14 67 [some (.ref 36), some (.int x1), some (.int x2), some (.int x3), some (.int x4), some (.int x5), some (.int x6), some (.int x7)] [] 94 (I, J, xrf) Q := by
  unfold f_X1_choose_11 at h
  exact xloop_some (P := fun s : Int32 × Int32 × Int32 × Int32 × Int32 × Int32 × Int32 × xI × xJ => Rn L xs (d + r + 3) 14 67 [some (.ref 36), some (.int s.1), some (.int s.2.1), some (.int s.2.2.1), some (.int s.2.2.2.1), some (.int s.2.2.2.2.1), some (.int s.2.2.2.2.2.1), some (.int s.2.2.2.2.2.2.1)] [] 94 (s.2.2.2.2.2.2.2.1, s.2.2.2.2.2.2.2.2, xrf) Q) t (fun s ⟨s', hb, hp⟩ => q_X1_choose_11 hself s.1 s.2.1 s.2.2.1 s.2.2.2.1 s.2.2.2.2.1 s.2.2.2.2.2.1 s.2.2.2.2.2.2.1 s.2.2.2.2.2.2.2.1 s.2.2.2.2.2.2.2.2 hb hp) (fun s hb => q_X1_choose_11 hself s.1 s.2.1 s.2.2.1 s.2.2.2.1 s.2.2.2.2.1 s.2.2.2.2.2.1 s.2.2.2.2.2.2.1 s.2.2.2.2.2.2.2.1 s.2.2.2.2.2.2.2.2 hb hC) _ _ h
theorem p_X1_choose_10 {L : Nat} {xs : Nat → Int32} {d r : Nat} {Q : xO → Prop} {self : Int32 → Int32 → Int32 → Int32 → xI → xJ → Option (Int32 × xI × xJ)} (hself : ∀ (a1 : Int32) (a2 : Int32) (a3 : Int32) (a4 : Int32) (I : xI) (J : xJ) (o : Int32 × xI × xJ), self a1 a2 a3 a4 I J = some o → ∀ Q : xO → Prop, Q ((some (.int o.1)), 94, (o.2.1, o.2.2, xrf)) → Rn L xs (d + r + 2) 14 0 [some (.ref 36), some (.int a1), some (.int a2), some (.int a3), some (.int a4), none, none, none] [] 94 (I, J, xrf) Q) (x1 : Int32) (x2 : Int32) (x3 : Int32) (x4 : Int32) (x5 : Int32) (x6 : Int32) (I : xI) (J : xJ) {t : Int32 × xI × xJ} (h : f_X1_choose_10 self x1 x2 x3 x4 x5 x6 I J = some t) (hC : (c_X1_choose Q) t) : Rn L xs (d + r + 3) 14 64 [some (.ref 36), some (.int x1), some (.int x2), some (.int x3), some (.int x4), some (.int x5), some (.int x6), none] [] 94 (I, J, xrf) Q := by
  unfold f_X1_choose_10 at h
  refine Rn.go 2 (j' := 14) (pc' := 67) (ls' := [some (.ref 36), some (.int x1), some (.int x2), some (.int x3), some (.int x4), some (.int x5), some (.int x6), some (.int x1)]) (st' := []) (n' := 94) (M' := (I, J, xrf)) (fun f => rfl) ?_
  exact p_X1_choose_11 hself x1 x2 x3 x4 x5 x6 x1 I J h hC
theorem p_X1_choose_9 {L : Nat} {xs : Nat → Int32} {d r : Nat} {Q : xO → Prop} {self : Int32 → Int32 → Int32 → Int32 → xI → xJ → Option (Int32 × xI × xJ)} (hself : ∀ (a1 : Int32) (a2 : Int32) (a3 : Int32) (a4 : Int32) (I : xI) (J : xJ) (o : Int32 × xI × xJ), self a1 a2 a3 a4 I J = some o → ∀ Q : xO → Prop, Q ((some (.int o.1)), 94, (o.2.1, o.2.2, xrf)) → Rn L xs (d + r + 2) 14 0 [some (.ref 36), some (.int a1), some (.int a2), some (.int a3), some (.int a4), none, none, none] [] 94 (I, J, xrf) Q) (x1 : Int32) (x2 : Int32) (x3 : Int32) (x4 : Int32) (x5 : Int32) (x6 : Int32) (I : xI) (J : xJ) {t : Int32 × xI × xJ} (h : f_X1_choose_9 self x1 x2 x3 x4 x5 x6 I J = some t) (hC : (c_X1_choose Q) t) : Rn L xs (d + r + 3) 14 62 [some (.ref 36), some (.int x1), some (.int x2), some (.int x3), some (.int x4), some (.int x5), some (.int x6), none] [] 94 (I, J, xrf) Q := by
  unfold f_X1_choose_9 at h
  cases h
  exact Rn.ret 2 (o := ((some (.int 0)), 94, (I, J, xrf))) (fun f => rfl) hC
theorem p_X1_choose_8 {L : Nat} {xs : Nat → Int32} {d r : Nat} {Q : xO → Prop} {self : Int32 → Int32 → Int32 → Int32 → xI → xJ → Option (Int32 × xI × xJ)} (hself : ∀ (a1 : Int32) (a2 : Int32) (a3 : Int32) (a4 : Int32) (I : xI) (J : xJ) (o : Int32 × xI × xJ), self a1 a2 a3 a4 I J = some o → ∀ Q : xO → Prop, Q ((some (.int o.1)), 94, (o.2.1, o.2.2, xrf)) → Rn L xs (d + r + 2) 14 0 [some (.ref 36), some (.int a1), some (.int a2), some (.int a3), some (.int a4), none, none, none] [] 94 (I, J, xrf) Q) (x1 : Int32) (x2 : Int32) (x3 : Int32) (x4 : Int32) (x5 : Int32) (x6 : Int32) (s0 : Int32) (I : xI) (J : xJ) {t : Int32 × xI × xJ} (h : f_X1_choose_8 self x1 x2 x3 x4 x5 x6 s0 I J = some t) (hC : (c_X1_choose Q) t) : Rn L xs (d + r + 3) 14 52 [some (.ref 36), some (.int x1), some (.int x2), some (.int x3), some (.int x4), some (.int x5), some (.int x6), none] [.int s0] 94 (I, J, xrf) Q := by
  unfold f_X1_choose_8 at h
  refine Rn.fi 5 (c := s0 ≤ (x6 * (I 36 5))) (p1 := 64) (l1 := [some (.ref 36), some (.int x1), some (.int x2), some (.int x3), some (.int x4), some (.int x5), some (.int x6), none]) (s1 := []) (n1 := 94) (M1 := (I, J, xrf)) (p2 := 62) (l2 := [some (.ref 36), some (.int x1), some (.int x2), some (.int x3), some (.int x4), some (.int x5), some (.int x6), none]) (s2 := []) (n2 := 94) (M2 := (I, J, xrf)) (fun f => rfl) (fun hc => ?_) (fun hc => ?_)
  · rw [if_pos hc] at h
    exact p_X1_choose_10 hself x1 x2 x3 x4 x5 x6 I J h hC
  · rw [if_neg hc] at h
    exact p_X1_choose_9 hself x1 x2 x3 x4 x5 x6 I J h hC
theorem p_X1_choose_7 {L : Nat} {xs : Nat → Int32} {d r : Nat} {Q : xO → Prop} {self : Int32 → Int32 → Int32 → Int32 → xI → xJ → Option (Int32 × xI × xJ)} (hself : ∀ (a1 : Int32) (a2 : Int32) (a3 : Int32) (a4 : Int32) (I : xI) (J : xJ) (o : Int32 × xI × xJ), self a1 a2 a3 a4 I J = some o → ∀ Q : xO → Prop, Q ((some (.int o.1)), 94, (o.2.1, o.2.2, xrf)) → Rn L xs (d + r + 2) 14 0 [some (.ref 36), some (.int a1), some (.int a2), some (.int a3), some (.int a4), none, none, none] [] 94 (I, J, xrf) Q) (x1 : Int32) (x2 : Int32) (x3 : Int32) (x4 : Int32) (x5 : Int32) (x6 : Int32) (I : xI) (J : xJ) {t : Int32 × xI × xJ} (h : f_X1_choose_7 self x1 x2 x3 x4 x5 x6 I J = some t) (hC : (c_X1_choose Q) t) : Rn L xs (d + r + 3) 14 47 [some (.ref 36), some (.int x1), some (.int x2), some (.int x3), some (.int x4), some (.int x5), some (.int x6), none] [] 94 (I, J, xrf) Q := by
  unfold f_X1_choose_7 at h
  refine Rn.go 1 (j' := 14) (pc' := 49) (ls' := [some (.ref 36), some (.int x1), some (.int x2), some (.int x3), some (.int x4), some (.int x5), some (.int x6), none]) (st' := [.int x5]) (n' := 94) (M' := (I, J, xrf)) (fun f => rfl) ?_
  obtain ⟨o, ho, h⟩ := Option.bind_eq_some_iff.mp h
  refine Rn.call (d1 := d + r + 2) (j1 := 299) (ls1 := [some (.int x5)]) (rest := []) (fun f => rfl) ?_
  refine p_J6_bitCount_0f7a4 (d := d + r + 1) x5 I J (t := o) ho ?_
  exact p_X1_choose_8 hself x1 x2 x3 x4 x5 x6 o.1 o.2.1 o.2.2 h hC
theorem p_X1_choose_6 {L : Nat} {xs : Nat → Int32} {d r : Nat} {Q : xO → Prop} {self : Int32 → Int32 → Int32 → Int32 → xI → xJ → Option (Int32 × xI × xJ)} (hself : ∀ (a1 : Int32) (a2 : Int32) (a3 : Int32) (a4 : Int32) (I : xI) (J : xJ) (o : Int32 × xI × xJ), self a1 a2 a3 a4 I J = some o → ∀ Q : xO → Prop, Q ((some (.int o.1)), 94, (o.2.1, o.2.2, xrf)) → Rn L xs (d + r + 2) 14 0 [some (.ref 36), some (.int a1), some (.int a2), some (.int a3), some (.int a4), none, none, none] [] 94 (I, J, xrf) Q) (x1 : Int32) (x2 : Int32) (x3 : Int32) (x4 : Int32) (x5 : Int32) (x6 : Int32) (s0 : Int32) (I : xI) (J : xJ) {t : Int32 × xI × xJ} (h : f_X1_choose_6 self x1 x2 x3 x4 x5 x6 s0 I J = some t) (hC : (c_X1_choose Q) t) : Rn L xs (d + r + 3) 14 46 [some (.ref 36), some (.int x1), some (.int x2), some (.int x3), some (.int x4), some (.int x5), some (.int x6), none] [.int s0] 94 (I, J, xrf) Q := by
  unfold f_X1_choose_6 at h
  obtain ⟨hc, h⟩ := xifT h
  cases h
  exact Rn.retT 1 (c := s0 = 0 ∨ s0 = 1) (o := ((some (.int s0)), 94, (I, J, xrf))) (fun f => rfl) hc hC
theorem p_X1_choose_5 {L : Nat} {xs : Nat → Int32} {d r : Nat} {Q : xO → Prop} {self : Int32 → Int32 → Int32 → Int32 → xI → xJ → Option (Int32 × xI × xJ)} (hself : ∀ (a1 : Int32) (a2 : Int32) (a3 : Int32) (a4 : Int32) (I : xI) (J : xJ) (o : Int32 × xI × xJ), self a1 a2 a3 a4 I J = some o → ∀ Q : xO → Prop, Q ((some (.int o.1)), 94, (o.2.1, o.2.2, xrf)) → Rn L xs (d + r + 2) 14 0 [some (.ref 36), some (.int a1), some (.int a2), some (.int a3), some (.int a4), none, none, none] [] 94 (I, J, xrf) Q) (x1 : Int32) (x2 : Int32) (x3 : Int32) (x4 : Int32) (x5 : Int32) (x6 : Int32) (I : xI) (J : xJ) {t : Int32 × xI × xJ} (h : f_X1_choose_5 self x1 x2 x3 x4 x5 x6 I J = some t) (hC : (c_X1_choose Q) t) : Rn L xs (d + r + 3) 14 45 [some (.ref 36), some (.int x1), some (.int x2), some (.int x3), some (.int x4), some (.int x5), some (.int x6), none] [] 94 (I, J, xrf) Q := by
  unfold f_X1_choose_5 at h
  refine Rn.go 1 (j' := 14) (pc' := 46) (ls' := [some (.ref 36), some (.int x1), some (.int x2), some (.int x3), some (.int x4), some (.int x5), some (.int x6), none]) (st' := [.int 0]) (n' := 94) (M' := (I, J, xrf)) (fun f => rfl) ?_
  exact p_X1_choose_6 hself x1 x2 x3 x4 x5 x6 0 I J h hC
theorem p_X1_choose_4 {L : Nat} {xs : Nat → Int32} {d r : Nat} {Q : xO → Prop} {self : Int32 → Int32 → Int32 → Int32 → xI → xJ → Option (Int32 × xI × xJ)} (hself : ∀ (a1 : Int32) (a2 : Int32) (a3 : Int32) (a4 : Int32) (I : xI) (J : xJ) (o : Int32 × xI × xJ), self a1 a2 a3 a4 I J = some o → ∀ Q : xO → Prop, Q ((some (.int o.1)), 94, (o.2.1, o.2.2, xrf)) → Rn L xs (d + r + 2) 14 0 [some (.ref 36), some (.int a1), some (.int a2), some (.int a3), some (.int a4), none, none, none] [] 94 (I, J, xrf) Q) (x1 : Int32) (x2 : Int32) (x3 : Int32) (x4 : Int32) (x5 : Int32) (x6 : Int32) (I : xI) (J : xJ) {t : Int32 × xI × xJ} (h : f_X1_choose_4 self x1 x2 x3 x4 x5 x6 I J = some t) (hC : (c_X1_choose Q) t) : Rn L xs (d + r + 3) 14 41 [some (.ref 36), some (.int x1), some (.int x2), some (.int x3), some (.int x4), some (.int x5), some (.int x6), none] [] 94 (I, J, xrf) Q := by
  unfold f_X1_choose_4 at h
  refine Rn.go 2 (j' := 14) (pc' := 46) (ls' := [some (.ref 36), some (.int x1), some (.int x2), some (.int x3), some (.int x4), some (.int x5), some (.int x6), none]) (st' := [.int 1]) (n' := 94) (M' := (I, J, xrf)) (fun f => rfl) ?_
  exact p_X1_choose_6 hself x1 x2 x3 x4 x5 x6 1 I J h hC
theorem p_X1_choose_3 {L : Nat} {xs : Nat → Int32} {d r : Nat} {Q : xO → Prop} {self : Int32 → Int32 → Int32 → Int32 → xI → xJ → Option (Int32 × xI × xJ)} (hself : ∀ (a1 : Int32) (a2 : Int32) (a3 : Int32) (a4 : Int32) (I : xI) (J : xJ) (o : Int32 × xI × xJ), self a1 a2 a3 a4 I J = some o → ∀ Q : xO → Prop, Q ((some (.int o.1)), 94, (o.2.1, o.2.2, xrf)) → Rn L xs (d + r + 2) 14 0 [some (.ref 36), some (.int a1), some (.int a2), some (.int a3), some (.int a4), none, none, none] [] 94 (I, J, xrf) Q) (x1 : Int32) (x2 : Int32) (x3 : Int32) (x4 : Int32) (x5 : Int32) (x6 : Int32) (s0 : Int32) (I : xI) (J : xJ) {t : Int32 × xI × xJ} (h : f_X1_choose_3 self x1 x2 x3 x4 x5 x6 s0 I J = some t) (hC : (c_X1_choose Q) t) : Rn L xs (d + r + 3) 14 38 [some (.ref 36), some (.int x1), some (.int x2), some (.int x3), some (.int x4), some (.int x5), some (.int x6), none] [.int s0] 94 (I, J, xrf) Q := by
  unfold f_X1_choose_3 at h
  refine Rn.fi 1 (c := s0 = 0) (p1 := 45) (l1 := [some (.ref 36), some (.int x1), some (.int x2), some (.int x3), some (.int x4), some (.int x5), some (.int x6), none]) (s1 := []) (n1 := 94) (M1 := (I, J, xrf)) (p2 := 41) (l2 := [some (.ref 36), some (.int x1), some (.int x2), some (.int x3), some (.int x4), some (.int x5), some (.int x6), none]) (s2 := []) (n2 := 94) (M2 := (I, J, xrf)) (fun f => rfl) (fun hc => ?_) (fun hc => ?_)
  · rw [if_pos hc] at h
    exact p_X1_choose_5 hself x1 x2 x3 x4 x5 x6 I J h hC
  · rw [if_neg hc] at h
    exact p_X1_choose_4 hself x1 x2 x3 x4 x5 x6 I J h hC
theorem p_X1_choose_2 {L : Nat} {xs : Nat → Int32} {d r : Nat} {Q : xO → Prop} {self : Int32 → Int32 → Int32 → Int32 → xI → xJ → Option (Int32 × xI × xJ)} (hself : ∀ (a1 : Int32) (a2 : Int32) (a3 : Int32) (a4 : Int32) (I : xI) (J : xJ) (o : Int32 × xI × xJ), self a1 a2 a3 a4 I J = some o → ∀ Q : xO → Prop, Q ((some (.int o.1)), 94, (o.2.1, o.2.2, xrf)) → Rn L xs (d + r + 2) 14 0 [some (.ref 36), some (.int a1), some (.int a2), some (.int a3), some (.int a4), none, none, none] [] 94 (I, J, xrf) Q) (x1 : Int32) (x2 : Int32) (x3 : Int32) (x4 : Int32) (x5 : Int32) (x6 : Int32) (I : xI) (J : xJ) {t : Int32 × xI × xJ} (h : f_X1_choose_2 self x1 x2 x3 x4 x5 x6 I J = some t) (hC : (c_X1_choose Q) t) : Rn L xs (d + r + 3) 14 33 [some (.ref 36), some (.int x1), some (.int x2), some (.int x3), some (.int x4), some (.int x5), some (.int x6), none] [] 94 (I, J, xrf) Q := by
  unfold f_X1_choose_2 at h
  refine Rn.go 2 (j' := 14) (pc' := 35) (ls' := [some (.ref 36), some (.int x1), some (.int x2), some (.int x3), some (.int x4), some (.int x5), some (.int x6), none]) (st' := [.int x3, .ref 36]) (n' := 94) (M' := (I, J, xrf)) (fun f => rfl) ?_
  obtain ⟨o, ho, h⟩ := Option.bind_eq_some_iff.mp h
  refine Rn.call (d1 := d + r + 2) (j1 := 15) (ls1 := [some (.ref 36), some (.int x3), none, none, none]) (rest := []) (fun f => rfl) ?_
  refine p_X1_isClosed (d := d + r + 0) x3 I J (t := o) ho ?_
  exact p_X1_choose_3 hself x1 x2 x3 x4 x5 x6 o.1 o.2.1 o.2.2 h hC
theorem p_X1_choose_1 {L : Nat} {xs : Nat → Int32} {d r : Nat} {Q : xO → Prop} {self : Int32 → Int32 → Int32 → Int32 → xI → xJ → Option (Int32 × xI × xJ)} (hself : ∀ (a1 : Int32) (a2 : Int32) (a3 : Int32) (a4 : Int32) (I : xI) (J : xJ) (o : Int32 × xI × xJ), self a1 a2 a3 a4 I J = some o → ∀ Q : xO → Prop, Q ((some (.int o.1)), 94, (o.2.1, o.2.2, xrf)) → Rn L xs (d + r + 2) 14 0 [some (.ref 36), some (.int a1), some (.int a2), some (.int a3), some (.int a4), none, none, none] [] 94 (I, J, xrf) Q) (x1 : Int32) (x2 : Int32) (x3 : Int32) (x4 : Int32) (x5 : Int32) (x6 : Int32) (I : xI) (J : xJ) {t : Int32 × xI × xJ} (h : f_X1_choose_1 self x1 x2 x3 x4 x5 x6 I J = some t) (hC : (c_X1_choose Q) t) : Rn L xs (d + r + 3) 14 28 [some (.ref 36), some (.int x1), some (.int x2), some (.int x3), some (.int x4), some (.int x5), some (.int x6), none] [] 94 (I, J, xrf) Q := by
  unfold f_X1_choose_1 at h
  refine Rn.fi 2 (c := x5 = 0) (p1 := 33) (l1 := [some (.ref 36), some (.int x1), some (.int x2), some (.int x3), some (.int x4), some (.int x5), some (.int x6), none]) (s1 := []) (n1 := 94) (M1 := (I, J, xrf)) (p2 := 45) (l2 := [some (.ref 36), some (.int x1), some (.int x2), some (.int x3), some (.int x4), some (.int x5), some (.int x6), none]) (s2 := []) (n2 := 94) (M2 := (I, J, xrf)) (fun f => rfl) (fun hc => ?_) (fun hc => ?_)
  · rw [if_pos hc] at h
    exact p_X1_choose_2 hself x1 x2 x3 x4 x5 x6 I J h hC
  · rw [if_neg hc] at h
    exact p_X1_choose_5 hself x1 x2 x3 x4 x5 x6 I J h hC
theorem p_X1_choose_0 {L : Nat} {xs : Nat → Int32} {d r : Nat} {Q : xO → Prop} {self : Int32 → Int32 → Int32 → Int32 → xI → xJ → Option (Int32 × xI × xJ)} (hself : ∀ (a1 : Int32) (a2 : Int32) (a3 : Int32) (a4 : Int32) (I : xI) (J : xJ) (o : Int32 × xI × xJ), self a1 a2 a3 a4 I J = some o → ∀ Q : xO → Prop, Q ((some (.int o.1)), 94, (o.2.1, o.2.2, xrf)) → Rn L xs (d + r + 2) 14 0 [some (.ref 36), some (.int a1), some (.int a2), some (.int a3), some (.int a4), none, none, none] [] 94 (I, J, xrf) Q) (x1 : Int32) (x2 : Int32) (x3 : Int32) (x4 : Int32) (I : xI) (J : xJ) {t : Int32 × xI × xJ} (h : f_X1_choose_0 self x1 x2 x3 x4 I J = some t) (hC : (c_X1_choose Q) t) : Rn L xs (d + r + 3) 14 0 [some (.ref 36), some (.int x1), some (.int x2), some (.int x3), some (.int x4), none, none, none] [] 94 (I, J, xrf) Q := by
  unfold f_X1_choose_0 at h
  refine Rn.fi 18 (c := 0 < (x3 - x2)) (p1 := 47) (l1 := [some (.ref 36), some (.int x1), some (.int x2), some (.int x3), some (.int x4), some (.int ((((1 <<< ((I 1 0) &&& 31)) - 1) &&& (x4 ^^^ (-1))))), some (.int ((x3 - x2))), none]) (s1 := []) (n1 := 94) (M1 := (I, J, xrf)) (p2 := 28) (l2 := [some (.ref 36), some (.int x1), some (.int x2), some (.int x3), some (.int x4), some (.int ((((1 <<< ((I 1 0) &&& 31)) - 1) &&& (x4 ^^^ (-1))))), some (.int ((x3 - x2))), none]) (s2 := []) (n2 := 94) (M2 := (I, J, xrf)) (fun f => rfl) (fun hc => ?_) (fun hc => ?_)
  · rw [if_pos hc] at h
    exact p_X1_choose_7 hself x1 x2 x3 x4 ((((1 <<< ((I 1 0) &&& 31)) - 1) &&& (x4 ^^^ (-1)))) ((x3 - x2)) I J h hC
  · rw [if_neg hc] at h
    exact p_X1_choose_1 hself x1 x2 x3 x4 ((((1 <<< ((I 1 0) &&& 31)) - 1) &&& (x4 ^^^ (-1)))) ((x3 - x2)) I J h hC
theorem p_X1_choose {L : Nat} {xs : Nat → Int32} {d : Nat} {Q : xO → Prop} (r : Nat) (x1 : Int32) (x2 : Int32) (x3 : Int32) (x4 : Int32) (I : xI) (J : xJ) {t : Int32 × xI × xJ} (h : f_X1_choose r x1 x2 x3 x4 I J = some t) (hC : Q ((some (.int t.1)), 94, (t.2.1, t.2.2, xrf))) : Rn L xs (d + r + 3) 14 0 [some (.ref 36), some (.int x1), some (.int x2), some (.int x3), some (.int x4), none, none, none] [] 94 (I, J, xrf) Q := by
  induction r generalizing Q t x1 x2 x3 x4 I J with
  | zero => exact absurd h (by simp [f_X1_choose])
  | succ r ih =>
    have q := p_X1_choose_0 (L := L) (xs := xs) (Q := Q) (d := d + 1) (r := r) (self := f_X1_choose r) (fun a1 a2 a3 a4 I J o ho Q hQ => by have := ih a1 a2 a3 a4 I J ho hQ; rw [show d + 1 + r + 2 = d + r + 3 by omega]; exact this) x1 x2 x3 x4 I J h hC
    rw [show d + 1 + r + 3 = d + (r + 1) + 3 by omega] at q
    exact q
/-! X1_refreshFewest -/
def c_X1_refreshFewest (Q : xO → Prop) (t : Unit × xI × xJ) : Prop := Q (none, 94, (t.2.1, t.2.2, xrf))
def c_X1_refreshFewest_3 (L : Nat) (xs : Nat → Int32) (d : Nat) (Q : xO → Prop) (t : (Int32 × xI × xJ) ⊕ (Unit × xI × xJ)) : Prop := match t with
  | .inl s => Rn L xs (d + 16) 13 33 [some (.ref 36), some (.int s.1)] [] 94 (s.2.1, s.2.2, xrf) Q
  | .inr t => (c_X1_refreshFewest Q) t
def c_X1_refreshFewest_9 (L : Nat) (xs : Nat → Int32) (d : Nat) (Q : xO → Prop) (t : (Int32 × xI × xJ) ⊕ (Unit × xI × xJ)) : Prop := match t with
  | .inl s => Rn L xs (d + 16) 13 71 [some (.ref 36), some (.int s.1)] [] 94 (s.2.1, s.2.2, xrf) Q
  | .inr t => (c_X1_refreshFewest Q) t
def f_X1_refreshFewest_11 (x1 : Int32) (I : xI) (J : xJ) : Option (Unit × xI × xJ) := some ((), I, J)
def f_X1_refreshFewest_10 (x1 : Int32) (I : xI) (J : xJ) : Option ((Int32 × xI × xJ) ⊕ (Unit × xI × xJ)) := if x1 < 0 ∨ 6 ≤ x1.toNatClampNeg then none else if (I 41 x1.toNatClampNeg) < 0 ∨ 64 ≤ ((I 41 x1.toNatClampNeg)).toNatClampNeg then none else if x1 < 0 ∨ 6 ≤ x1.toNatClampNeg then none else some (.inl (((x1 + 1)), ((xup I 42 x1.toNatClampNeg ((I 38 ((I 41 x1.toNatClampNeg)).toNatClampNeg)))), J))
def b_X1_refreshFewest_9 (x1 : Int32) (I : xI) (J : xJ) : Option ((Int32 × xI × xJ) ⊕ (Unit × xI × xJ)) := if (I 36 12) ≤ x1 then ((f_X1_refreshFewest_11 x1 I J)).map .inr else f_X1_refreshFewest_10 x1 I J
def f_X1_refreshFewest_9 (x1 : Int32) (I : xI) (J : xJ) : Option (Unit × xI × xJ) := xloop (fun s : Int32 × xI × xJ => b_X1_refreshFewest_9 s.1 s.2.1 s.2.2) 5000 (x1, I, J)
def f_X1_refreshFewest_8 (x1 : Int32) (I : xI) (J : xJ) : Option (Unit × xI × xJ) := f_X1_refreshFewest_9 0 I J
def f_X1_refreshFewest_7 (x1 : Int32) (I : xI) (J : xJ) : Option ((Int32 × xI × xJ) ⊕ (Unit × xI × xJ)) := some (.inl (((x1 + 1)), I, J))
def f_X1_refreshFewest_6 (x1 : Int32) (I : xI) (J : xJ) : Option (Unit × xI × xJ) := f_X1_refreshFewest_8 x1 ((xup I 36 12 x1)) J
def f_X1_refreshFewest_5 (x1 : Int32) (s0 : Int32) (I : xI) (J : xJ) : Option ((Int32 × xI × xJ) ⊕ (Unit × xI × xJ)) := if s0 = 0 then f_X1_refreshFewest_7 x1 I J else ((f_X1_refreshFewest_6 x1 I J)).map .inr
def f_X1_refreshFewest_4 (x1 : Int32) (I : xI) (J : xJ) : Option ((Int32 × xI × xJ) ⊕ (Unit × xI × xJ)) := (f_X1_choose 12 0 0 x1 0 I J).bind fun o => f_X1_refreshFewest_5 x1 o.1 o.2.1 o.2.2
def b_X1_refreshFewest_3 (x1 : Int32) (I : xI) (J : xJ) : Option ((Int32 × xI × xJ) ⊕ (Unit × xI × xJ)) := if (I 1 0) < x1 then ((f_X1_refreshFewest_8 x1 I J)).map .inr else f_X1_refreshFewest_4 x1 I J
def f_X1_refreshFewest_3 (x1 : Int32) (I : xI) (J : xJ) : Option (Unit × xI × xJ) := xloop (fun s : Int32 × xI × xJ => b_X1_refreshFewest_3 s.1 s.2.1 s.2.2) 5000 (x1, I, J)
def f_X1_refreshFewest_2 (I : xI) (J : xJ) : Option (Unit × xI × xJ) := f_X1_refreshFewest_3 0 ((xup ((xup I 36 13 ((I 1 2)))) 36 12 0)) J
def f_X1_refreshFewest_1 (I : xI) (J : xJ) : Option (Unit × xI × xJ) := some ((), I, J)
def f_X1_refreshFewest_0 (I : xI) (J : xJ) : Option (Unit × xI × xJ) := if (I 36 13) = (I 1 2) then f_X1_refreshFewest_1 I J else f_X1_refreshFewest_2 I J
def f_X1_refreshFewest (I : xI) (J : xJ) : Option (Unit × xI × xJ) := f_X1_refreshFewest_0 I J
theorem p_X1_refreshFewest_11 {L : Nat} {xs : Nat → Int32} {d : Nat} {Q : xO → Prop} (x1 : Int32) (I : xI) (J : xJ) {t : Unit × xI × xJ} (h : f_X1_refreshFewest_11 x1 I J = some t) (hC : (c_X1_refreshFewest Q) t) : Rn L xs (d + 16) 13 102 [some (.ref 36), some (.int x1)] [] 94 (I, J, xrf) Q := by
  unfold f_X1_refreshFewest_11 at h
  cases h
  exact Rn.ret 1 (o := (none, 94, (I, J, xrf))) (fun f => rfl) hC
theorem p_X1_refreshFewest_10 {L : Nat} {xs : Nat → Int32} {d : Nat} {Q : xO → Prop} (x1 : Int32) (I : xI) (J : xJ) {t : (Int32 × xI × xJ) ⊕ (Unit × xI × xJ)} (h : f_X1_refreshFewest_10 x1 I J = some t) (hC : (c_X1_refreshFewest_9 L xs d Q) t) : Rn L xs (d + 16) 13 79 [some (.ref 36), some (.int x1)] [] 94 (I, J, xrf) Q := by
  unfold f_X1_refreshFewest_10 at h
  obtain ⟨hc, h⟩ := xif h
  refine Rn.ok 9 (c := x1 < 0 ∨ 6 ≤ x1.toNatClampNeg) (p1 := 94) (l1 := [some (.ref 36), some (.int x1)]) (s1 := [.int ((I 41 x1.toNatClampNeg)), .ref 38, .int x1, .ref 42]) (n1 := 94) (M1 := (I, J, xrf)) (fun f => rfl) hc ?_
  obtain ⟨hc, h⟩ := xif h
  refine Rn.ok 1 (c := (I 41 x1.toNatClampNeg) < 0 ∨ 64 ≤ ((I 41 x1.toNatClampNeg)).toNatClampNeg) (p1 := 95) (l1 := [some (.ref 36), some (.int x1)]) (s1 := [.int ((I 38 ((I 41 x1.toNatClampNeg)).toNatClampNeg)), .int x1, .ref 42]) (n1 := 94) (M1 := (I, J, xrf)) (fun f => rfl) hc ?_
  obtain ⟨hc, h⟩ := xif h
  refine Rn.ok 1 (c := x1 < 0 ∨ 6 ≤ x1.toNatClampNeg) (p1 := 96) (l1 := [some (.ref 36), some (.int x1)]) (s1 := []) (n1 := 94) (M1 := ((xup I 42 x1.toNatClampNeg ((I 38 ((I 41 x1.toNatClampNeg)).toNatClampNeg))), J, xrf)) (fun f => rfl) hc ?_
  refine Rn.go 2 (j' := 13) (pc' := 71) (ls' := [some (.ref 36), some (.int ((x1 + 1)))]) (st' := []) (n' := 94) (M' := ((xup I 42 x1.toNatClampNeg ((I 38 ((I 41 x1.toNatClampNeg)).toNatClampNeg))), J, xrf)) (fun f => rfl) ?_
  cases h; exact hC
theorem q_X1_refreshFewest_9 {L : Nat} {xs : Nat → Int32} {d : Nat} {Q : xO → Prop} (x1 : Int32) (I : xI) (J : xJ) {t : (Int32 × xI × xJ) ⊕ (Unit × xI × xJ)} (h : b_X1_refreshFewest_9 x1 I J = some t) (hC : (c_X1_refreshFewest_9 L xs d Q) t) : Rn L xs (d + 16) 13 71 [some (.ref 36), some (.int x1)] [] 94 (I, J, xrf) Q := by
  unfold b_X1_refreshFewest_9 at h
  refine Rn.fi 4 (c := (I 36 12) ≤ x1) (p1 := 102) (l1 := [some (.ref 36), some (.int x1)]) (s1 := []) (n1 := 94) (M1 := (I, J, xrf)) (p2 := 79) (l2 := [some (.ref 36), some (.int x1)]) (s2 := []) (n2 := 94) (M2 := (I, J, xrf)) (fun f => rfl) (fun hc => ?_) (fun hc => ?_)
  · rw [if_pos hc] at h
    obtain ⟨t0, h0, rfl⟩ := Option.map_eq_some_iff.mp h
    exact p_X1_refreshFewest_11 x1 I J h0 hC
  · rw [if_neg hc] at h
    exact p_X1_refreshFewest_10 x1 I J h hC
theorem p_X1_refreshFewest_9 {L : Nat} {xs : Nat → Int32} {d : Nat} {Q : xO → Prop} (x1 : Int32) (I : xI) (J : xJ) {t : Unit × xI × xJ} (h : f_X1_refreshFewest_9 x1 I J = some t) (hC : (c_X1_refreshFewest Q) t) : Rn L xs (d + 16) 13 71 [some (.ref 36), some (.int x1)] [] 94 (I, J, xrf) Q := by
  unfold f_X1_refreshFewest_9 at h
  exact xloop_some (P := fun s : Int32 × xI × xJ => Rn L xs (d + 16) 13 71 [some (.ref 36), some (.int s.1)] [] 94 (s.2.1, s.2.2, xrf) Q) t (fun s ⟨s', hb, hp⟩ => q_X1_refreshFewest_9 s.1 s.2.1 s.2.2 hb hp) (fun s hb => q_X1_refreshFewest_9 s.1 s.2.1 s.2.2 hb hC) _ _ h
theorem p_X1_refreshFewest_8 {L : Nat} {xs : Nat → Int32} {d : Nat} {Q : xO → Prop} (x1 : Int32) (I : xI) (J : xJ) {t : Unit × xI × xJ} (h : f_X1_refreshFewest_8 x1 I J = some t) (hC : (c_X1_refreshFewest Q) t) : Rn L xs (d + 16) 13 69 [some (.ref 36), some (.int x1)] [] 94 (I, J, xrf) Q := by
  unfold f_X1_refreshFewest_8 at h
  refine Rn.go 2 (j' := 13) (pc' := 71) (ls' := [some (.ref 36), some (.int 0)]) (st' := []) (n' := 94) (M' := (I, J, xrf)) (fun f => rfl) ?_
  exact p_X1_refreshFewest_9 0 I J h hC
theorem p_X1_refreshFewest_7 {L : Nat} {xs : Nat → Int32} {d : Nat} {Q : xO → Prop} (x1 : Int32) (I : xI) (J : xJ) {t : (Int32 × xI × xJ) ⊕ (Unit × xI × xJ)} (h : f_X1_refreshFewest_7 x1 I J = some t) (hC : (c_X1_refreshFewest_3 L xs d Q) t) : Rn L xs (d + 16) 13 63 [some (.ref 36), some (.int x1)] [] 94 (I, J, xrf) Q := by
  unfold f_X1_refreshFewest_7 at h
  refine Rn.go 2 (j' := 13) (pc' := 33) (ls' := [some (.ref 36), some (.int ((x1 + 1)))]) (st' := []) (n' := 94) (M' := (I, J, xrf)) (fun f => rfl) ?_
  cases h; exact hC
theorem p_X1_refreshFewest_6 {L : Nat} {xs : Nat → Int32} {d : Nat} {Q : xO → Prop} (x1 : Int32) (I : xI) (J : xJ) {t : Unit × xI × xJ} (h : f_X1_refreshFewest_6 x1 I J = some t) (hC : (c_X1_refreshFewest Q) t) : Rn L xs (d + 16) 13 55 [some (.ref 36), some (.int x1)] [] 94 (I, J, xrf) Q := by
  unfold f_X1_refreshFewest_6 at h
  refine Rn.go 4 (j' := 13) (pc' := 69) (ls' := [some (.ref 36), some (.int x1)]) (st' := []) (n' := 94) (M' := ((xup I 36 12 x1), J, xrf)) (fun f => rfl) ?_
  exact p_X1_refreshFewest_8 x1 ((xup I 36 12 x1)) J h hC
theorem p_X1_refreshFewest_5 {L : Nat} {xs : Nat → Int32} {d : Nat} {Q : xO → Prop} (x1 : Int32) (s0 : Int32) (I : xI) (J : xJ) {t : (Int32 × xI × xJ) ⊕ (Unit × xI × xJ)} (h : f_X1_refreshFewest_5 x1 s0 I J = some t) (hC : (c_X1_refreshFewest_3 L xs d Q) t) : Rn L xs (d + 16) 13 52 [some (.ref 36), some (.int x1)] [.int s0] 94 (I, J, xrf) Q := by
  unfold f_X1_refreshFewest_5 at h
  refine Rn.fi 1 (c := s0 = 0) (p1 := 63) (l1 := [some (.ref 36), some (.int x1)]) (s1 := []) (n1 := 94) (M1 := (I, J, xrf)) (p2 := 55) (l2 := [some (.ref 36), some (.int x1)]) (s2 := []) (n2 := 94) (M2 := (I, J, xrf)) (fun f => rfl) (fun hc => ?_) (fun hc => ?_)
  · rw [if_pos hc] at h
    exact p_X1_refreshFewest_7 x1 I J h hC
  · rw [if_neg hc] at h
    obtain ⟨t0, h0, rfl⟩ := Option.map_eq_some_iff.mp h
    exact p_X1_refreshFewest_6 x1 I J h0 hC
theorem p_X1_refreshFewest_4 {L : Nat} {xs : Nat → Int32} {d : Nat} {Q : xO → Prop} (x1 : Int32) (I : xI) (J : xJ) {t : (Int32 × xI × xJ) ⊕ (Unit × xI × xJ)} (h : f_X1_refreshFewest_4 x1 I J = some t) (hC : (c_X1_refreshFewest_3 L xs d Q) t) : Rn L xs (d + 16) 13 44 [some (.ref 36), some (.int x1)] [] 94 (I, J, xrf) Q := by
  unfold f_X1_refreshFewest_4 at h
  refine Rn.go 5 (j' := 13) (pc' := 49) (ls' := [some (.ref 36), some (.int x1)]) (st' := [.int 0, .int x1, .int 0, .int 0, .ref 36]) (n' := 94) (M' := (I, J, xrf)) (fun f => rfl) ?_
  obtain ⟨o, ho, h⟩ := Option.bind_eq_some_iff.mp h
  refine Rn.call (d1 := d + 15) (j1 := 14) (ls1 := [some (.ref 36), some (.int 0), some (.int 0), some (.int x1), some (.int 0), none, none, none]) (rest := []) (fun f => rfl) ?_
  refine p_X1_choose (d := d + 0) 12 0 0 x1 0 I J (t := o) ho ?_
  exact p_X1_refreshFewest_5 x1 o.1 o.2.1 o.2.2 h hC
theorem q_X1_refreshFewest_3 {L : Nat} {xs : Nat → Int32} {d : Nat} {Q : xO → Prop} (x1 : Int32) (I : xI) (J : xJ) {t : (Int32 × xI × xJ) ⊕ (Unit × xI × xJ)} (h : b_X1_refreshFewest_3 x1 I J = some t) (hC : (c_X1_refreshFewest_3 L xs d Q) t) : Rn L xs (d + 16) 13 33 [some (.ref 36), some (.int x1)] [] 94 (I, J, xrf) Q := by
  unfold b_X1_refreshFewest_3 at h
  refine Rn.fi 5 (c := (I 1 0) < x1) (p1 := 69) (l1 := [some (.ref 36), some (.int x1)]) (s1 := []) (n1 := 94) (M1 := (I, J, xrf)) (p2 := 44) (l2 := [some (.ref 36), some (.int x1)]) (s2 := []) (n2 := 94) (M2 := (I, J, xrf)) (fun f => rfl) (fun hc => ?_) (fun hc => ?_)
  · rw [if_pos hc] at h
    obtain ⟨t0, h0, rfl⟩ := Option.map_eq_some_iff.mp h
    exact p_X1_refreshFewest_8 x1 I J h0 hC
  · rw [if_neg hc] at h
    exact p_X1_refreshFewest_4 x1 I J h hC
theorem p_X1_refreshFewest_3 {L : Nat} {xs : Nat → Int32} {d : Nat} {Q : xO → Prop} (x1 : Int32) (I : xI) (J : xJ) {t : Unit × xI × xJ} (h : f_X1_refreshFewest_3 x1 I J = some t) (hC : (c_X1_refreshFewest Q) t) : Rn L xs (d + 16) 13 33 [some (.ref 36), some (.int x1)] [] 94 (I, J, xrf) Q := by
  unfold f_X1_refreshFewest_3 at h
  exact xloop_some (P := fun s : Int32 × xI × xJ => Rn L xs (d + 16) 13 33 [some (.ref 36), some (.int s.1)] [] 94 (s.2.1, s.2.2, xrf) Q) t (fun s ⟨s', hb, hp⟩ => q_X1_refreshFewest_3 s.1 s.2.1 s.2.2 hb hp) (fun s hb => q_X1_refreshFewest_3 s.1 s.2.1 s.2.2 hb hC) _ _ h
theorem p_X1_refreshFewest_2 {L : Nat} {xs : Nat → Int32} {d : Nat} {Q : xO → Prop} (I : xI) (J : xJ) {t : Unit × xI × xJ} (h : f_X1_refreshFewest_2 I J = some t) (hC : (c_X1_refreshFewest Q) t) : Rn L xs (d + 16) 13 15 [some (.ref 36), none] [] 94 (I, J, xrf) Q := by
  unfold f_X1_refreshFewest_2 at h
  refine Rn.go 10 (j' := 13) (pc' := 33) (ls' := [some (.ref 36), some (.int 0)]) (st' := []) (n' := 94) (M' := ((xup ((xup I 36 13 ((I 1 2)))) 36 12 0), J, xrf)) (fun f => rfl) ?_
  exact p_X1_refreshFewest_3 0 ((xup ((xup I 36 13 ((I 1 2)))) 36 12 0)) J h hC
theorem p_X1_refreshFewest_1 {L : Nat} {xs : Nat → Int32} {d : Nat} {Q : xO → Prop} (I : xI) (J : xJ) {t : Unit × xI × xJ} (h : f_X1_refreshFewest_1 I J = some t) (hC : (c_X1_refreshFewest Q) t) : Rn L xs (d + 16) 13 14 [some (.ref 36), none] [] 94 (I, J, xrf) Q := by
  unfold f_X1_refreshFewest_1 at h
  cases h
  exact Rn.ret 1 (o := (none, 94, (I, J, xrf))) (fun f => rfl) hC
theorem p_X1_refreshFewest_0 {L : Nat} {xs : Nat → Int32} {d : Nat} {Q : xO → Prop} (I : xI) (J : xJ) {t : Unit × xI × xJ} (h : f_X1_refreshFewest_0 I J = some t) (hC : (c_X1_refreshFewest Q) t) : Rn L xs (d + 16) 13 0 [some (.ref 36), none] [] 94 (I, J, xrf) Q := by
  unfold f_X1_refreshFewest_0 at h
  refine Rn.fi 6 (c := (I 36 13) = (I 1 2)) (p1 := 14) (l1 := [some (.ref 36), none]) (s1 := []) (n1 := 94) (M1 := (I, J, xrf)) (p2 := 15) (l2 := [some (.ref 36), none]) (s2 := []) (n2 := 94) (M2 := (I, J, xrf)) (fun f => rfl) (fun hc => ?_) (fun hc => ?_)
  · rw [if_pos hc] at h
    exact p_X1_refreshFewest_1 I J h hC
  · rw [if_neg hc] at h
    exact p_X1_refreshFewest_2 I J h hC
theorem p_X1_refreshFewest {L : Nat} {xs : Nat → Int32} {d : Nat} {Q : xO → Prop} (I : xI) (J : xJ) {t : Unit × xI × xJ} (h : f_X1_refreshFewest I J = some t) (hC : Q (none, 94, (t.2.1, t.2.2, xrf))) : Rn L xs (d + 16) 13 0 [some (.ref 36), none] [] 94 (I, J, xrf) Q := p_X1_refreshFewest_0 I J h hC
/-! X11_fewestNow -/
def c_X11_fewestNow (Q : xO → Prop) (t : Unit × xI × xJ) : Prop := Q ((some (.ref 36)), 94, (t.2.1, t.2.2, xrf))
def f_X11_fewestNow_3 (I : xI) (J : xJ) : Option (Unit × xI × xJ) := some ((), I, J)
def f_X11_fewestNow_2 (I : xI) (J : xJ) : Option (Unit × xI × xJ) := (f_X1_refreshFewest I J).bind fun o => f_X11_fewestNow_3 o.2.1 o.2.2
def f_X11_fewestNow_1 (I : xI) (J : xJ) : Option (Unit × xI × xJ) := (f_X1_refresh I J).bind fun o => f_X11_fewestNow_2 o.2.1 o.2.2
def f_X11_fewestNow_0 (I : xI) (J : xJ) : Option (Unit × xI × xJ) := (f_X6_refresh I J).bind fun o => f_X11_fewestNow_1 o.2.1 o.2.2
def f_X11_fewestNow (I : xI) (J : xJ) : Option (Unit × xI × xJ) := f_X11_fewestNow_0 I J
theorem p_X11_fewestNow_3 {L : Nat} {xs : Nat → Int32} {d : Nat} {Q : xO → Prop} (I : xI) (J : xJ) {t : Unit × xI × xJ} (h : f_X11_fewestNow_3 I J = some t) (hC : (c_X11_fewestNow Q) t) : Rn L xs (d + 17) 178 21 [some (.ref 0)] [] 94 (I, J, xrf) Q := by
  unfold f_X11_fewestNow_3 at h
  cases h
  exact Rn.ret 3 (o := ((some (.ref 36)), 94, (I, J, xrf))) (fun f => rfl) hC
theorem p_X11_fewestNow_2 {L : Nat} {xs : Nat → Int32} {d : Nat} {Q : xO → Prop} (I : xI) (J : xJ) {t : Unit × xI × xJ} (h : f_X11_fewestNow_2 I J = some t) (hC : (c_X11_fewestNow Q) t) : Rn L xs (d + 17) 178 14 [some (.ref 0)] [] 94 (I, J, xrf) Q := by
  unfold f_X11_fewestNow_2 at h
  refine Rn.go 2 (j' := 178) (pc' := 18) (ls' := [some (.ref 0)]) (st' := [.ref 36]) (n' := 94) (M' := (I, J, xrf)) (fun f => rfl) ?_
  obtain ⟨o, ho, h⟩ := Option.bind_eq_some_iff.mp h
  refine Rn.call (d1 := d + 16) (j1 := 13) (ls1 := [some (.ref 36), none]) (rest := []) (fun f => rfl) ?_
  refine p_X1_refreshFewest (d := d + 0) I J (t := o) ho ?_
  exact p_X11_fewestNow_3 o.2.1 o.2.2 h hC
theorem p_X11_fewestNow_1 {L : Nat} {xs : Nat → Int32} {d : Nat} {Q : xO → Prop} (I : xI) (J : xJ) {t : Unit × xI × xJ} (h : f_X11_fewestNow_1 I J = some t) (hC : (c_X11_fewestNow Q) t) : Rn L xs (d + 17) 178 7 [some (.ref 0)] [] 94 (I, J, xrf) Q := by
  unfold f_X11_fewestNow_1 at h
  refine Rn.go 2 (j' := 178) (pc' := 11) (ls' := [some (.ref 0)]) (st' := [.ref 36]) (n' := 94) (M' := (I, J, xrf)) (fun f => rfl) ?_
  obtain ⟨o, ho, h⟩ := Option.bind_eq_some_iff.mp h
  refine Rn.call (d1 := d + 16) (j1 := 8) (ls1 := [some (.ref 36), none, none]) (rest := []) (fun f => rfl) ?_
  refine p_X1_refresh (d := d + 12) I J (t := o) ho ?_
  exact p_X11_fewestNow_2 o.2.1 o.2.2 h hC
theorem p_X11_fewestNow_0 {L : Nat} {xs : Nat → Int32} {d : Nat} {Q : xO → Prop} (I : xI) (J : xJ) {t : Unit × xI × xJ} (h : f_X11_fewestNow_0 I J = some t) (hC : (c_X11_fewestNow Q) t) : Rn L xs (d + 17) 178 0 [some (.ref 0)] [] 94 (I, J, xrf) Q := by
  unfold f_X11_fewestNow_0 at h
  refine Rn.go 2 (j' := 178) (pc' := 4) (ls' := [some (.ref 0)]) (st' := [.ref 32]) (n' := 94) (M' := (I, J, xrf)) (fun f => rfl) ?_
  obtain ⟨o, ho, h⟩ := Option.bind_eq_some_iff.mp h
  refine Rn.call (d1 := d + 16) (j1 := 69) (ls1 := [some (.ref 32), none, none]) (rest := []) (fun f => rfl) ?_
  refine p_X6_refresh (d := d + 12) I J (t := o) ho ?_
  exact p_X11_fewestNow_1 o.2.1 o.2.2 h hC
theorem p_X11_fewestNow {L : Nat} {xs : Nat → Int32} {d : Nat} {Q : xO → Prop} (I : xI) (J : xJ) {t : Unit × xI × xJ} (h : f_X11_fewestNow I J = some t) (hC : Q ((some (.ref 36)), 94, (t.2.1, t.2.2, xrf))) : Rn L xs (d + 17) 178 0 [some (.ref 0)] [] 94 (I, J, xrf) Q := p_X11_fewestNow_0 I J h hC
/-! X11_fewest -/
def c_X11_fewest (Q : xO → Prop) (t : Int32 × xI × xJ) : Prop := Q ((some (.int t.1)), 94, (t.2.1, t.2.2, xrf))
def f_X11_fewest_7 (x1 : Int32) (x2 : Int32) (s0 : Int32) (I : xI) (J : xJ) : Option (Int32 × xI × xJ) := some (s0, I, J)
def f_X11_fewest_6 (x1 : Int32) (x2 : Int32) (I : xI) (J : xJ) : Option (Int32 × xI × xJ) := f_X11_fewest_7 x1 x2 ((-1)) I J
def f_X11_fewest_5 (x1 : Int32) (x2 : Int32) (I : xI) (J : xJ) : Option (Int32 × xI × xJ) := if x1 < 0 ∨ 6 ≤ x1.toNatClampNeg then none else f_X11_fewest_7 x1 x2 ((I 42 x1.toNatClampNeg)) I J
def f_X11_fewest_4 (x1 : Int32) (x2 : Int32) (I : xI) (J : xJ) : Option (Int32 × xI × xJ) := if x2 ≤ x1 then f_X11_fewest_6 x1 x2 I J else f_X11_fewest_5 x1 x2 I J
def f_X11_fewest_3 (x1 : Int32) (x2 : Int32) (I : xI) (J : xJ) : Option (Int32 × xI × xJ) := if x1 < 0 then f_X11_fewest_6 x1 x2 I J else f_X11_fewest_4 x1 x2 I J
def f_X11_fewest_2 (x1 : Int32) (x2 : Int32) (I : xI) (J : xJ) : Option (Int32 × xI × xJ) := some (x2, I, J)
def f_X11_fewest_1 (x1 : Int32) (I : xI) (J : xJ) : Option (Int32 × xI × xJ) := if x1 = (-1) then f_X11_fewest_2 x1 ((I 36 12)) I J else f_X11_fewest_3 x1 ((I 36 12)) I J
def f_X11_fewest_0 (x1 : Int32) (I : xI) (J : xJ) : Option (Int32 × xI × xJ) := (f_X11_fewestNow I J).bind fun o => f_X11_fewest_1 x1 o.2.1 o.2.2
def f_X11_fewest (x1 : Int32) (I : xI) (J : xJ) : Option (Int32 × xI × xJ) := f_X11_fewest_0 x1 I J
theorem p_X11_fewest_7 {L : Nat} {xs : Nat → Int32} {d : Nat} {Q : xO → Prop} (x1 : Int32) (x2 : Int32) (s0 : Int32) (I : xI) (J : xJ) {t : Int32 × xI × xJ} (h : f_X11_fewest_7 x1 x2 s0 I J = some t) (hC : (c_X11_fewest Q) t) : Rn L xs (d + 18) 151 37 [some (.ref 0), some (.int x1), some (.int x2)] [.int s0] 94 (I, J, xrf) Q := by
  unfold f_X11_fewest_7 at h
  cases h
  exact Rn.ret 1 (o := ((some (.int s0)), 94, (I, J, xrf))) (fun f => rfl) hC
theorem p_X11_fewest_6 {L : Nat} {xs : Nat → Int32} {d : Nat} {Q : xO → Prop} (x1 : Int32) (x2 : Int32) (I : xI) (J : xJ) {t : Int32 × xI × xJ} (h : f_X11_fewest_6 x1 x2 I J = some t) (hC : (c_X11_fewest Q) t) : Rn L xs (d + 18) 151 36 [some (.ref 0), some (.int x1), some (.int x2)] [] 94 (I, J, xrf) Q := by
  unfold f_X11_fewest_6 at h
  refine Rn.go 1 (j' := 151) (pc' := 37) (ls' := [some (.ref 0), some (.int x1), some (.int x2)]) (st' := [.int ((-1))]) (n' := 94) (M' := (I, J, xrf)) (fun f => rfl) ?_
  exact p_X11_fewest_7 x1 x2 ((-1)) I J h hC
theorem p_X11_fewest_5 {L : Nat} {xs : Nat → Int32} {d : Nat} {Q : xO → Prop} (x1 : Int32) (x2 : Int32) (I : xI) (J : xJ) {t : Int32 × xI × xJ} (h : f_X11_fewest_5 x1 x2 I J = some t) (hC : (c_X11_fewest Q) t) : Rn L xs (d + 18) 151 24 [some (.ref 0), some (.int x1), some (.int x2)] [] 94 (I, J, xrf) Q := by
  unfold f_X11_fewest_5 at h
  obtain ⟨hc, h⟩ := xif h
  refine Rn.ok 5 (c := x1 < 0 ∨ 6 ≤ x1.toNatClampNeg) (p1 := 33) (l1 := [some (.ref 0), some (.int x1), some (.int x2)]) (s1 := [.int ((I 42 x1.toNatClampNeg))]) (n1 := 94) (M1 := (I, J, xrf)) (fun f => rfl) hc ?_
  refine Rn.go 1 (j' := 151) (pc' := 37) (ls' := [some (.ref 0), some (.int x1), some (.int x2)]) (st' := [.int ((I 42 x1.toNatClampNeg))]) (n' := 94) (M' := (I, J, xrf)) (fun f => rfl) ?_
  exact p_X11_fewest_7 x1 x2 ((I 42 x1.toNatClampNeg)) I J h hC
theorem p_X11_fewest_4 {L : Nat} {xs : Nat → Int32} {d : Nat} {Q : xO → Prop} (x1 : Int32) (x2 : Int32) (I : xI) (J : xJ) {t : Int32 × xI × xJ} (h : f_X11_fewest_4 x1 x2 I J = some t) (hC : (c_X11_fewest Q) t) : Rn L xs (d + 18) 151 19 [some (.ref 0), some (.int x1), some (.int x2)] [] 94 (I, J, xrf) Q := by
  unfold f_X11_fewest_4 at h
  refine Rn.fi 3 (c := x2 ≤ x1) (p1 := 36) (l1 := [some (.ref 0), some (.int x1), some (.int x2)]) (s1 := []) (n1 := 94) (M1 := (I, J, xrf)) (p2 := 24) (l2 := [some (.ref 0), some (.int x1), some (.int x2)]) (s2 := []) (n2 := 94) (M2 := (I, J, xrf)) (fun f => rfl) (fun hc => ?_) (fun hc => ?_)
  · rw [if_pos hc] at h
    exact p_X11_fewest_6 x1 x2 I J h hC
  · rw [if_neg hc] at h
    exact p_X11_fewest_5 x1 x2 I J h hC
theorem p_X11_fewest_3 {L : Nat} {xs : Nat → Int32} {d : Nat} {Q : xO → Prop} (x1 : Int32) (x2 : Int32) (I : xI) (J : xJ) {t : Int32 × xI × xJ} (h : f_X11_fewest_3 x1 x2 I J = some t) (hC : (c_X11_fewest Q) t) : Rn L xs (d + 18) 151 15 [some (.ref 0), some (.int x1), some (.int x2)] [] 94 (I, J, xrf) Q := by
  unfold f_X11_fewest_3 at h
  refine Rn.fi 2 (c := x1 < 0) (p1 := 36) (l1 := [some (.ref 0), some (.int x1), some (.int x2)]) (s1 := []) (n1 := 94) (M1 := (I, J, xrf)) (p2 := 19) (l2 := [some (.ref 0), some (.int x1), some (.int x2)]) (s2 := []) (n2 := 94) (M2 := (I, J, xrf)) (fun f => rfl) (fun hc => ?_) (fun hc => ?_)
  · rw [if_pos hc] at h
    exact p_X11_fewest_6 x1 x2 I J h hC
  · rw [if_neg hc] at h
    exact p_X11_fewest_4 x1 x2 I J h hC
theorem p_X11_fewest_2 {L : Nat} {xs : Nat → Int32} {d : Nat} {Q : xO → Prop} (x1 : Int32) (x2 : Int32) (I : xI) (J : xJ) {t : Int32 × xI × xJ} (h : f_X11_fewest_2 x1 x2 I J = some t) (hC : (c_X11_fewest Q) t) : Rn L xs (d + 18) 151 13 [some (.ref 0), some (.int x1), some (.int x2)] [] 94 (I, J, xrf) Q := by
  unfold f_X11_fewest_2 at h
  cases h
  exact Rn.ret 2 (o := ((some (.int x2)), 94, (I, J, xrf))) (fun f => rfl) hC
theorem p_X11_fewest_1 {L : Nat} {xs : Nat → Int32} {d : Nat} {Q : xO → Prop} (x1 : Int32) (I : xI) (J : xJ) {t : Int32 × xI × xJ} (h : f_X11_fewest_1 x1 I J = some t) (hC : (c_X11_fewest Q) t) : Rn L xs (d + 18) 151 4 [some (.ref 0), some (.int x1), none] [.ref 36] 94 (I, J, xrf) Q := by
  unfold f_X11_fewest_1 at h
  refine Rn.fi 5 (c := x1 = (-1)) (p1 := 13) (l1 := [some (.ref 0), some (.int x1), some (.int ((I 36 12)))]) (s1 := []) (n1 := 94) (M1 := (I, J, xrf)) (p2 := 15) (l2 := [some (.ref 0), some (.int x1), some (.int ((I 36 12)))]) (s2 := []) (n2 := 94) (M2 := (I, J, xrf)) (fun f => rfl) (fun hc => ?_) (fun hc => ?_)
  · rw [if_pos hc] at h
    exact p_X11_fewest_2 x1 ((I 36 12)) I J h hC
  · rw [if_neg hc] at h
    exact p_X11_fewest_3 x1 ((I 36 12)) I J h hC
theorem p_X11_fewest_0 {L : Nat} {xs : Nat → Int32} {d : Nat} {Q : xO → Prop} (x1 : Int32) (I : xI) (J : xJ) {t : Int32 × xI × xJ} (h : f_X11_fewest_0 x1 I J = some t) (hC : (c_X11_fewest Q) t) : Rn L xs (d + 18) 151 0 [some (.ref 0), some (.int x1), none] [] 94 (I, J, xrf) Q := by
  unfold f_X11_fewest_0 at h
  refine Rn.go 1 (j' := 151) (pc' := 1) (ls' := [some (.ref 0), some (.int x1), none]) (st' := [.ref 0]) (n' := 94) (M' := (I, J, xrf)) (fun f => rfl) ?_
  obtain ⟨o, ho, h⟩ := Option.bind_eq_some_iff.mp h
  refine Rn.call (d1 := d + 17) (j1 := 178) (ls1 := [some (.ref 0)]) (rest := []) (fun f => rfl) ?_
  refine p_X11_fewestNow (d := d + 0) I J (t := o) ho ?_
  exact p_X11_fewest_1 x1 o.2.1 o.2.2 h hC
theorem p_X11_fewest {L : Nat} {xs : Nat → Int32} {d : Nat} {Q : xO → Prop} (x1 : Int32) (I : xI) (J : xJ) {t : Int32 × xI × xJ} (h : f_X11_fewest x1 I J = some t) (hC : Q ((some (.int t.1)), 94, (t.2.1, t.2.2, xrf))) : Rn L xs (d + 18) 151 0 [some (.ref 0), some (.int x1), none] [] 94 (I, J, xrf) Q := p_X11_fewest_0 x1 I J h hC
/-! X5_hasSet -/
def c_X5_hasSet (Q : xO → Prop) (t : Int32 × xI × xJ) : Prop := Q ((some (.int t.1)), 94, (t.2.1, t.2.2, xrf))
def f_X5_hasSet_4 (x1 : Int32) (s0 : Int32) (I : xI) (J : xJ) : Option (Int32 × xI × xJ) := if s0 = 0 ∨ s0 = 1 then some (s0, I, J) else none
def f_X5_hasSet_3 (x1 : Int32) (I : xI) (J : xJ) : Option (Int32 × xI × xJ) := f_X5_hasSet_4 x1 0 I J
def f_X5_hasSet_2 (x1 : Int32) (I : xI) (J : xJ) : Option (Int32 × xI × xJ) := f_X5_hasSet_4 x1 1 I J
def f_X5_hasSet_1 (x1 : Int32) (I : xI) (J : xJ) : Option (Int32 × xI × xJ) := if (1 <<< ((I 1 0) &&& 31)) ≤ x1 then f_X5_hasSet_3 x1 I J else f_X5_hasSet_2 x1 I J
def f_X5_hasSet_0 (x1 : Int32) (I : xI) (J : xJ) : Option (Int32 × xI × xJ) := if x1 < 0 then f_X5_hasSet_3 x1 I J else f_X5_hasSet_1 x1 I J
def f_X5_hasSet (x1 : Int32) (I : xI) (J : xJ) : Option (Int32 × xI × xJ) := f_X5_hasSet_0 x1 I J
theorem p_X5_hasSet_4 {L : Nat} {xs : Nat → Int32} {d : Nat} {Q : xO → Prop} (x1 : Int32) (s0 : Int32) (I : xI) (J : xJ) {t : Int32 × xI × xJ} (h : f_X5_hasSet_4 x1 s0 I J = some t) (hC : (c_X5_hasSet Q) t) : Rn L xs (d + 1) 53 19 [some (.ref 1), some (.int x1)] [.int s0] 94 (I, J, xrf) Q := by
  unfold f_X5_hasSet_4 at h
  obtain ⟨hc, h⟩ := xifT h
  cases h
  exact Rn.retT 1 (c := s0 = 0 ∨ s0 = 1) (o := ((some (.int s0)), 94, (I, J, xrf))) (fun f => rfl) hc hC
theorem p_X5_hasSet_3 {L : Nat} {xs : Nat → Int32} {d : Nat} {Q : xO → Prop} (x1 : Int32) (I : xI) (J : xJ) {t : Int32 × xI × xJ} (h : f_X5_hasSet_3 x1 I J = some t) (hC : (c_X5_hasSet Q) t) : Rn L xs (d + 1) 53 18 [some (.ref 1), some (.int x1)] [] 94 (I, J, xrf) Q := by
  unfold f_X5_hasSet_3 at h
  refine Rn.go 1 (j' := 53) (pc' := 19) (ls' := [some (.ref 1), some (.int x1)]) (st' := [.int 0]) (n' := 94) (M' := (I, J, xrf)) (fun f => rfl) ?_
  exact p_X5_hasSet_4 x1 0 I J h hC
theorem p_X5_hasSet_2 {L : Nat} {xs : Nat → Int32} {d : Nat} {Q : xO → Prop} (x1 : Int32) (I : xI) (J : xJ) {t : Int32 × xI × xJ} (h : f_X5_hasSet_2 x1 I J = some t) (hC : (c_X5_hasSet Q) t) : Rn L xs (d + 1) 53 14 [some (.ref 1), some (.int x1)] [] 94 (I, J, xrf) Q := by
  unfold f_X5_hasSet_2 at h
  refine Rn.go 2 (j' := 53) (pc' := 19) (ls' := [some (.ref 1), some (.int x1)]) (st' := [.int 1]) (n' := 94) (M' := (I, J, xrf)) (fun f => rfl) ?_
  exact p_X5_hasSet_4 x1 1 I J h hC
theorem p_X5_hasSet_1 {L : Nat} {xs : Nat → Int32} {d : Nat} {Q : xO → Prop} (x1 : Int32) (I : xI) (J : xJ) {t : Int32 × xI × xJ} (h : f_X5_hasSet_1 x1 I J = some t) (hC : (c_X5_hasSet Q) t) : Rn L xs (d + 1) 53 4 [some (.ref 1), some (.int x1)] [] 94 (I, J, xrf) Q := by
  unfold f_X5_hasSet_1 at h
  refine Rn.fi 6 (c := (1 <<< ((I 1 0) &&& 31)) ≤ x1) (p1 := 18) (l1 := [some (.ref 1), some (.int x1)]) (s1 := []) (n1 := 94) (M1 := (I, J, xrf)) (p2 := 14) (l2 := [some (.ref 1), some (.int x1)]) (s2 := []) (n2 := 94) (M2 := (I, J, xrf)) (fun f => rfl) (fun hc => ?_) (fun hc => ?_)
  · rw [if_pos hc] at h
    exact p_X5_hasSet_3 x1 I J h hC
  · rw [if_neg hc] at h
    exact p_X5_hasSet_2 x1 I J h hC
theorem p_X5_hasSet_0 {L : Nat} {xs : Nat → Int32} {d : Nat} {Q : xO → Prop} (x1 : Int32) (I : xI) (J : xJ) {t : Int32 × xI × xJ} (h : f_X5_hasSet_0 x1 I J = some t) (hC : (c_X5_hasSet Q) t) : Rn L xs (d + 1) 53 0 [some (.ref 1), some (.int x1)] [] 94 (I, J, xrf) Q := by
  unfold f_X5_hasSet_0 at h
  refine Rn.fi 2 (c := x1 < 0) (p1 := 18) (l1 := [some (.ref 1), some (.int x1)]) (s1 := []) (n1 := 94) (M1 := (I, J, xrf)) (p2 := 4) (l2 := [some (.ref 1), some (.int x1)]) (s2 := []) (n2 := 94) (M2 := (I, J, xrf)) (fun f => rfl) (fun hc => ?_) (fun hc => ?_)
  · rw [if_pos hc] at h
    exact p_X5_hasSet_3 x1 I J h hC
  · rw [if_neg hc] at h
    exact p_X5_hasSet_1 x1 I J h hC
theorem p_X5_hasSet {L : Nat} {xs : Nat → Int32} {d : Nat} {Q : xO → Prop} (x1 : Int32) (I : xI) (J : xJ) {t : Int32 × xI × xJ} (h : f_X5_hasSet x1 I J = some t) (hC : Q ((some (.int t.1)), 94, (t.2.1, t.2.2, xrf))) : Rn L xs (d + 1) 53 0 [some (.ref 1), some (.int x1)] [] 94 (I, J, xrf) Q := p_X5_hasSet_0 x1 I J h hC
/-! X11_isClass -/
def c_X11_isClass (Q : xO → Prop) (t : Int32 × xI × xJ) : Prop := Q ((some (.int t.1)), 94, (t.2.1, t.2.2, xrf))
def f_X11_isClass_3 (x1 : Int32) (I : xI) (J : xJ) : Option (Int32 × xI × xJ) := some ((-1), I, J)
def f_X11_isClass_8 (x1 : Int32) (s0 : Int32) (I : xI) (J : xJ) : Option (Int32 × xI × xJ) := some (s0, I, J)
def f_X11_isClass_7 (x1 : Int32) (I : xI) (J : xJ) : Option (Int32 × xI × xJ) := f_X11_isClass_8 x1 0 I J
def f_X11_isClass_6 (x1 : Int32) (I : xI) (J : xJ) : Option (Int32 × xI × xJ) := f_X11_isClass_8 x1 1 I J
def f_X11_isClass_5 (x1 : Int32) (I : xI) (J : xJ) : Option (Int32 × xI × xJ) := if x1 < 0 ∨ 64 ≤ x1.toNatClampNeg then none else if (I 37 x1.toNatClampNeg) = 0 then f_X11_isClass_7 x1 I J else f_X11_isClass_6 x1 I J
def f_X11_isClass_4 (x1 : Int32) (I : xI) (J : xJ) : Option (Int32 × xI × xJ) := (f_X11_coverNow I J).bind fun o => f_X11_isClass_5 x1 o.2.1 o.2.2
def f_X11_isClass_2 (x1 : Int32) (s0 : Int32) (I : xI) (J : xJ) : Option (Int32 × xI × xJ) := if s0 = 0 then f_X11_isClass_3 x1 I J else f_X11_isClass_4 x1 I J
def f_X11_isClass_1 (x1 : Int32) (I : xI) (J : xJ) : Option (Int32 × xI × xJ) := (f_X5_hasSet x1 I J).bind fun o => f_X11_isClass_2 x1 o.1 o.2.1 o.2.2
def f_X11_isClass_0 (x1 : Int32) (I : xI) (J : xJ) : Option (Int32 × xI × xJ) := if x1 = 0 then f_X11_isClass_3 x1 I J else f_X11_isClass_1 x1 I J
def f_X11_isClass (x1 : Int32) (I : xI) (J : xJ) : Option (Int32 × xI × xJ) := f_X11_isClass_0 x1 I J
theorem p_X11_isClass_3 {L : Nat} {xs : Nat → Int32} {d : Nat} {Q : xO → Prop} (x1 : Int32) (I : xI) (J : xJ) {t : Int32 × xI × xJ} (h : f_X11_isClass_3 x1 I J = some t) (hC : (c_X11_isClass Q) t) : Rn L xs (d + 6) 152 15 [some (.ref 0), some (.int x1)] [] 94 (I, J, xrf) Q := by
  unfold f_X11_isClass_3 at h
  cases h
  exact Rn.ret 2 (o := ((some (.int ((-1)))), 94, (I, J, xrf))) (fun f => rfl) hC
theorem p_X11_isClass_8 {L : Nat} {xs : Nat → Int32} {d : Nat} {Q : xO → Prop} (x1 : Int32) (s0 : Int32) (I : xI) (J : xJ) {t : Int32 × xI × xJ} (h : f_X11_isClass_8 x1 s0 I J = some t) (hC : (c_X11_isClass Q) t) : Rn L xs (d + 6) 152 34 [some (.ref 0), some (.int x1)] [.int s0] 94 (I, J, xrf) Q := by
  unfold f_X11_isClass_8 at h
  cases h
  exact Rn.ret 1 (o := ((some (.int s0)), 94, (I, J, xrf))) (fun f => rfl) hC
theorem p_X11_isClass_7 {L : Nat} {xs : Nat → Int32} {d : Nat} {Q : xO → Prop} (x1 : Int32) (I : xI) (J : xJ) {t : Int32 × xI × xJ} (h : f_X11_isClass_7 x1 I J = some t) (hC : (c_X11_isClass Q) t) : Rn L xs (d + 6) 152 33 [some (.ref 0), some (.int x1)] [] 94 (I, J, xrf) Q := by
  unfold f_X11_isClass_7 at h
  refine Rn.go 1 (j' := 152) (pc' := 34) (ls' := [some (.ref 0), some (.int x1)]) (st' := [.int 0]) (n' := 94) (M' := (I, J, xrf)) (fun f => rfl) ?_
  exact p_X11_isClass_8 x1 0 I J h hC
theorem p_X11_isClass_6 {L : Nat} {xs : Nat → Int32} {d : Nat} {Q : xO → Prop} (x1 : Int32) (I : xI) (J : xJ) {t : Int32 × xI × xJ} (h : f_X11_isClass_6 x1 I J = some t) (hC : (c_X11_isClass Q) t) : Rn L xs (d + 6) 152 29 [some (.ref 0), some (.int x1)] [] 94 (I, J, xrf) Q := by
  unfold f_X11_isClass_6 at h
  refine Rn.go 2 (j' := 152) (pc' := 34) (ls' := [some (.ref 0), some (.int x1)]) (st' := [.int 1]) (n' := 94) (M' := (I, J, xrf)) (fun f => rfl) ?_
  exact p_X11_isClass_8 x1 1 I J h hC
theorem p_X11_isClass_5 {L : Nat} {xs : Nat → Int32} {d : Nat} {Q : xO → Prop} (x1 : Int32) (I : xI) (J : xJ) {t : Int32 × xI × xJ} (h : f_X11_isClass_5 x1 I J = some t) (hC : (c_X11_isClass Q) t) : Rn L xs (d + 6) 152 21 [some (.ref 0), some (.int x1)] [.ref 36] 94 (I, J, xrf) Q := by
  unfold f_X11_isClass_5 at h
  obtain ⟨hc, h⟩ := xif h
  refine Rn.ok 3 (c := x1 < 0 ∨ 64 ≤ x1.toNatClampNeg) (p1 := 26) (l1 := [some (.ref 0), some (.int x1)]) (s1 := [.int ((I 37 x1.toNatClampNeg))]) (n1 := 94) (M1 := (I, J, xrf)) (fun f => rfl) hc ?_
  refine Rn.fi 1 (c := (I 37 x1.toNatClampNeg) = 0) (p1 := 33) (l1 := [some (.ref 0), some (.int x1)]) (s1 := []) (n1 := 94) (M1 := (I, J, xrf)) (p2 := 29) (l2 := [some (.ref 0), some (.int x1)]) (s2 := []) (n2 := 94) (M2 := (I, J, xrf)) (fun f => rfl) (fun hc => ?_) (fun hc => ?_)
  · rw [if_pos hc] at h
    exact p_X11_isClass_7 x1 I J h hC
  · rw [if_neg hc] at h
    exact p_X11_isClass_6 x1 I J h hC
theorem p_X11_isClass_4 {L : Nat} {xs : Nat → Int32} {d : Nat} {Q : xO → Prop} (x1 : Int32) (I : xI) (J : xJ) {t : Int32 × xI × xJ} (h : f_X11_isClass_4 x1 I J = some t) (hC : (c_X11_isClass Q) t) : Rn L xs (d + 6) 152 17 [some (.ref 0), some (.int x1)] [] 94 (I, J, xrf) Q := by
  unfold f_X11_isClass_4 at h
  refine Rn.go 1 (j' := 152) (pc' := 18) (ls' := [some (.ref 0), some (.int x1)]) (st' := [.ref 0]) (n' := 94) (M' := (I, J, xrf)) (fun f => rfl) ?_
  obtain ⟨o, ho, h⟩ := Option.bind_eq_some_iff.mp h
  refine Rn.call (d1 := d + 5) (j1 := 177) (ls1 := [some (.ref 0)]) (rest := []) (fun f => rfl) ?_
  refine p_X11_coverNow (d := d + 0) I J (t := o) ho ?_
  exact p_X11_isClass_5 x1 o.2.1 o.2.2 h hC
theorem p_X11_isClass_2 {L : Nat} {xs : Nat → Int32} {d : Nat} {Q : xO → Prop} (x1 : Int32) (s0 : Int32) (I : xI) (J : xJ) {t : Int32 × xI × xJ} (h : f_X11_isClass_2 x1 s0 I J = some t) (hC : (c_X11_isClass Q) t) : Rn L xs (d + 6) 152 12 [some (.ref 0), some (.int x1)] [.int s0] 94 (I, J, xrf) Q := by
  unfold f_X11_isClass_2 at h
  refine Rn.fi 1 (c := s0 = 0) (p1 := 15) (l1 := [some (.ref 0), some (.int x1)]) (s1 := []) (n1 := 94) (M1 := (I, J, xrf)) (p2 := 17) (l2 := [some (.ref 0), some (.int x1)]) (s2 := []) (n2 := 94) (M2 := (I, J, xrf)) (fun f => rfl) (fun hc => ?_) (fun hc => ?_)
  · rw [if_pos hc] at h
    exact p_X11_isClass_3 x1 I J h hC
  · rw [if_neg hc] at h
    exact p_X11_isClass_4 x1 I J h hC
theorem p_X11_isClass_1 {L : Nat} {xs : Nat → Int32} {d : Nat} {Q : xO → Prop} (x1 : Int32) (I : xI) (J : xJ) {t : Int32 × xI × xJ} (h : f_X11_isClass_1 x1 I J = some t) (hC : (c_X11_isClass Q) t) : Rn L xs (d + 6) 152 4 [some (.ref 0), some (.int x1)] [] 94 (I, J, xrf) Q := by
  unfold f_X11_isClass_1 at h
  refine Rn.go 3 (j' := 152) (pc' := 9) (ls' := [some (.ref 0), some (.int x1)]) (st' := [.int x1, .ref 1]) (n' := 94) (M' := (I, J, xrf)) (fun f => rfl) ?_
  obtain ⟨o, ho, h⟩ := Option.bind_eq_some_iff.mp h
  refine Rn.call (d1 := d + 5) (j1 := 53) (ls1 := [some (.ref 1), some (.int x1)]) (rest := []) (fun f => rfl) ?_
  refine p_X5_hasSet (d := d + 4) x1 I J (t := o) ho ?_
  exact p_X11_isClass_2 x1 o.1 o.2.1 o.2.2 h hC
theorem p_X11_isClass_0 {L : Nat} {xs : Nat → Int32} {d : Nat} {Q : xO → Prop} (x1 : Int32) (I : xI) (J : xJ) {t : Int32 × xI × xJ} (h : f_X11_isClass_0 x1 I J = some t) (hC : (c_X11_isClass Q) t) : Rn L xs (d + 6) 152 0 [some (.ref 0), some (.int x1)] [] 94 (I, J, xrf) Q := by
  unfold f_X11_isClass_0 at h
  refine Rn.fi 2 (c := x1 = 0) (p1 := 15) (l1 := [some (.ref 0), some (.int x1)]) (s1 := []) (n1 := 94) (M1 := (I, J, xrf)) (p2 := 4) (l2 := [some (.ref 0), some (.int x1)]) (s2 := []) (n2 := 94) (M2 := (I, J, xrf)) (fun f => rfl) (fun hc => ?_) (fun hc => ?_)
  · rw [if_pos hc] at h
    exact p_X11_isClass_3 x1 I J h hC
  · rw [if_neg hc] at h
    exact p_X11_isClass_1 x1 I J h hC
theorem p_X11_isClass {L : Nat} {xs : Nat → Int32} {d : Nat} {Q : xO → Prop} (x1 : Int32) (I : xI) (J : xJ) {t : Int32 × xI × xJ} (h : f_X11_isClass x1 I J = some t) (hC : Q ((some (.int t.1)), 94, (t.2.1, t.2.2, xrf))) : Rn L xs (d + 6) 152 0 [some (.ref 0), some (.int x1)] [] 94 (I, J, xrf) Q := p_X11_isClass_0 x1 I J h hC
/-! X11_leads -/
def c_X11_leads (Q : xO → Prop) (t : Int32 × xI × xJ) : Prop := Q ((some (.int t.1)), 94, (t.2.1, t.2.2, xrf))
def f_X11_leads_7 (x1 : Int32) (x2 : Int32) (s0 : Int32) (I : xI) (J : xJ) : Option (Int32 × xI × xJ) := some (s0, I, J)
def f_X11_leads_6 (x1 : Int32) (x2 : Int32) (I : xI) (J : xJ) : Option (Int32 × xI × xJ) := f_X11_leads_7 x1 x2 ((-1)) I J
def f_X11_leads_5 (x1 : Int32) (x2 : Int32) (s0 : Int32) (I : xI) (J : xJ) : Option (Int32 × xI × xJ) := f_X11_leads_7 x1 x2 s0 I J
def f_X11_leads_4 (x1 : Int32) (x2 : Int32) (I : xI) (J : xJ) : Option (Int32 × xI × xJ) := (f_X5_leadOf x1 x2 I J).bind fun o => f_X11_leads_5 x1 x2 o.1 o.2.1 o.2.2
def f_X11_leads_3 (x1 : Int32) (x2 : Int32) (s0 : Int32) (I : xI) (J : xJ) : Option (Int32 × xI × xJ) := if s0 = 0 then f_X11_leads_6 x1 x2 I J else f_X11_leads_4 x1 x2 I J
def f_X11_leads_2 (x1 : Int32) (x2 : Int32) (I : xI) (J : xJ) : Option (Int32 × xI × xJ) := (f_X5_hasInput x2 I J).bind fun o => f_X11_leads_3 x1 x2 o.1 o.2.1 o.2.2
def f_X11_leads_1 (x1 : Int32) (x2 : Int32) (s0 : Int32) (I : xI) (J : xJ) : Option (Int32 × xI × xJ) := if s0 = 0 then f_X11_leads_6 x1 x2 I J else f_X11_leads_2 x1 x2 I J
def f_X11_leads_0 (x1 : Int32) (x2 : Int32) (I : xI) (J : xJ) : Option (Int32 × xI × xJ) := (f_X5_hasSet x1 I J).bind fun o => f_X11_leads_1 x1 x2 o.1 o.2.1 o.2.2
def f_X11_leads (x1 : Int32) (x2 : Int32) (I : xI) (J : xJ) : Option (Int32 × xI × xJ) := f_X11_leads_0 x1 x2 I J
theorem p_X11_leads_7 {L : Nat} {xs : Nat → Int32} {d : Nat} {Q : xO → Prop} (x1 : Int32) (x2 : Int32) (s0 : Int32) (I : xI) (J : xJ) {t : Int32 × xI × xJ} (h : f_X11_leads_7 x1 x2 s0 I J = some t) (hC : (c_X11_leads Q) t) : Rn L xs (d + 3) 153 35 [some (.ref 0), some (.int x1), some (.int x2)] [.int s0] 94 (I, J, xrf) Q := by
  unfold f_X11_leads_7 at h
  cases h
  exact Rn.ret 1 (o := ((some (.int s0)), 94, (I, J, xrf))) (fun f => rfl) hC
theorem p_X11_leads_6 {L : Nat} {xs : Nat → Int32} {d : Nat} {Q : xO → Prop} (x1 : Int32) (x2 : Int32) (I : xI) (J : xJ) {t : Int32 × xI × xJ} (h : f_X11_leads_6 x1 x2 I J = some t) (hC : (c_X11_leads Q) t) : Rn L xs (d + 3) 153 34 [some (.ref 0), some (.int x1), some (.int x2)] [] 94 (I, J, xrf) Q := by
  unfold f_X11_leads_6 at h
  refine Rn.go 1 (j' := 153) (pc' := 35) (ls' := [some (.ref 0), some (.int x1), some (.int x2)]) (st' := [.int ((-1))]) (n' := 94) (M' := (I, J, xrf)) (fun f => rfl) ?_
  exact p_X11_leads_7 x1 x2 ((-1)) I J h hC
theorem p_X11_leads_5 {L : Nat} {xs : Nat → Int32} {d : Nat} {Q : xO → Prop} (x1 : Int32) (x2 : Int32) (s0 : Int32) (I : xI) (J : xJ) {t : Int32 × xI × xJ} (h : f_X11_leads_5 x1 x2 s0 I J = some t) (hC : (c_X11_leads Q) t) : Rn L xs (d + 3) 153 31 [some (.ref 0), some (.int x1), some (.int x2)] [.int s0] 94 (I, J, xrf) Q := by
  unfold f_X11_leads_5 at h
  refine Rn.go 1 (j' := 153) (pc' := 35) (ls' := [some (.ref 0), some (.int x1), some (.int x2)]) (st' := [.int s0]) (n' := 94) (M' := (I, J, xrf)) (fun f => rfl) ?_
  exact p_X11_leads_7 x1 x2 s0 I J h hC
theorem p_X11_leads_4 {L : Nat} {xs : Nat → Int32} {d : Nat} {Q : xO → Prop} (x1 : Int32) (x2 : Int32) (I : xI) (J : xJ) {t : Int32 × xI × xJ} (h : f_X11_leads_4 x1 x2 I J = some t) (hC : (c_X11_leads Q) t) : Rn L xs (d + 3) 153 22 [some (.ref 0), some (.int x1), some (.int x2)] [] 94 (I, J, xrf) Q := by
  unfold f_X11_leads_4 at h
  refine Rn.go 4 (j' := 153) (pc' := 28) (ls' := [some (.ref 0), some (.int x1), some (.int x2)]) (st' := [.int x2, .int x1, .ref 1]) (n' := 94) (M' := (I, J, xrf)) (fun f => rfl) ?_
  obtain ⟨o, ho, h⟩ := Option.bind_eq_some_iff.mp h
  refine Rn.call (d1 := d + 2) (j1 := 61) (ls1 := [some (.ref 1), some (.int x1), some (.int x2), none, none, none]) (rest := []) (fun f => rfl) ?_
  refine p_X5_leadOf (d := d + 0) x1 x2 I J (t := o) ho ?_
  exact p_X11_leads_5 x1 x2 o.1 o.2.1 o.2.2 h hC
theorem p_X11_leads_3 {L : Nat} {xs : Nat → Int32} {d : Nat} {Q : xO → Prop} (x1 : Int32) (x2 : Int32) (s0 : Int32) (I : xI) (J : xJ) {t : Int32 × xI × xJ} (h : f_X11_leads_3 x1 x2 s0 I J = some t) (hC : (c_X11_leads Q) t) : Rn L xs (d + 3) 153 19 [some (.ref 0), some (.int x1), some (.int x2)] [.int s0] 94 (I, J, xrf) Q := by
  unfold f_X11_leads_3 at h
  refine Rn.fi 1 (c := s0 = 0) (p1 := 34) (l1 := [some (.ref 0), some (.int x1), some (.int x2)]) (s1 := []) (n1 := 94) (M1 := (I, J, xrf)) (p2 := 22) (l2 := [some (.ref 0), some (.int x1), some (.int x2)]) (s2 := []) (n2 := 94) (M2 := (I, J, xrf)) (fun f => rfl) (fun hc => ?_) (fun hc => ?_)
  · rw [if_pos hc] at h
    exact p_X11_leads_6 x1 x2 I J h hC
  · rw [if_neg hc] at h
    exact p_X11_leads_4 x1 x2 I J h hC
theorem p_X11_leads_2 {L : Nat} {xs : Nat → Int32} {d : Nat} {Q : xO → Prop} (x1 : Int32) (x2 : Int32) (I : xI) (J : xJ) {t : Int32 × xI × xJ} (h : f_X11_leads_2 x1 x2 I J = some t) (hC : (c_X11_leads Q) t) : Rn L xs (d + 3) 153 11 [some (.ref 0), some (.int x1), some (.int x2)] [] 94 (I, J, xrf) Q := by
  unfold f_X11_leads_2 at h
  refine Rn.go 3 (j' := 153) (pc' := 16) (ls' := [some (.ref 0), some (.int x1), some (.int x2)]) (st' := [.int x2, .ref 1]) (n' := 94) (M' := (I, J, xrf)) (fun f => rfl) ?_
  obtain ⟨o, ho, h⟩ := Option.bind_eq_some_iff.mp h
  refine Rn.call (d1 := d + 2) (j1 := 52) (ls1 := [some (.ref 1), some (.int x2)]) (rest := []) (fun f => rfl) ?_
  refine p_X5_hasInput (d := d + 1) x2 I J (t := o) ho ?_
  exact p_X11_leads_3 x1 x2 o.1 o.2.1 o.2.2 h hC
theorem p_X11_leads_1 {L : Nat} {xs : Nat → Int32} {d : Nat} {Q : xO → Prop} (x1 : Int32) (x2 : Int32) (s0 : Int32) (I : xI) (J : xJ) {t : Int32 × xI × xJ} (h : f_X11_leads_1 x1 x2 s0 I J = some t) (hC : (c_X11_leads Q) t) : Rn L xs (d + 3) 153 8 [some (.ref 0), some (.int x1), some (.int x2)] [.int s0] 94 (I, J, xrf) Q := by
  unfold f_X11_leads_1 at h
  refine Rn.fi 1 (c := s0 = 0) (p1 := 34) (l1 := [some (.ref 0), some (.int x1), some (.int x2)]) (s1 := []) (n1 := 94) (M1 := (I, J, xrf)) (p2 := 11) (l2 := [some (.ref 0), some (.int x1), some (.int x2)]) (s2 := []) (n2 := 94) (M2 := (I, J, xrf)) (fun f => rfl) (fun hc => ?_) (fun hc => ?_)
  · rw [if_pos hc] at h
    exact p_X11_leads_6 x1 x2 I J h hC
  · rw [if_neg hc] at h
    exact p_X11_leads_2 x1 x2 I J h hC
theorem p_X11_leads_0 {L : Nat} {xs : Nat → Int32} {d : Nat} {Q : xO → Prop} (x1 : Int32) (x2 : Int32) (I : xI) (J : xJ) {t : Int32 × xI × xJ} (h : f_X11_leads_0 x1 x2 I J = some t) (hC : (c_X11_leads Q) t) : Rn L xs (d + 3) 153 0 [some (.ref 0), some (.int x1), some (.int x2)] [] 94 (I, J, xrf) Q := by
  unfold f_X11_leads_0 at h
  refine Rn.go 3 (j' := 153) (pc' := 5) (ls' := [some (.ref 0), some (.int x1), some (.int x2)]) (st' := [.int x1, .ref 1]) (n' := 94) (M' := (I, J, xrf)) (fun f => rfl) ?_
  obtain ⟨o, ho, h⟩ := Option.bind_eq_some_iff.mp h
  refine Rn.call (d1 := d + 2) (j1 := 53) (ls1 := [some (.ref 1), some (.int x1)]) (rest := []) (fun f => rfl) ?_
  refine p_X5_hasSet (d := d + 1) x1 I J (t := o) ho ?_
  exact p_X11_leads_1 x1 x2 o.1 o.2.1 o.2.2 h hC
theorem p_X11_leads {L : Nat} {xs : Nat → Int32} {d : Nat} {Q : xO → Prop} (x1 : Int32) (x2 : Int32) (I : xI) (J : xJ) {t : Int32 × xI × xJ} (h : f_X11_leads x1 x2 I J = some t) (hC : Q ((some (.int t.1)), 94, (t.2.1, t.2.2, xrf))) : Rn L xs (d + 3) 153 0 [some (.ref 0), some (.int x1), some (.int x2)] [] 94 (I, J, xrf) Q := p_X11_leads_0 x1 x2 I J h hC
/-! X1_hasFewest -/
def c_X1_hasFewest (Q : xO → Prop) (t : Int32 × xI × xJ) : Prop := Q ((some (.int t.1)), 94, (t.2.1, t.2.2, xrf))
def f_X1_hasFewest_4 (x1 : Int32) (s0 : Int32) (I : xI) (J : xJ) : Option (Int32 × xI × xJ) := if s0 = 0 ∨ s0 = 1 then some (s0, I, J) else none
def f_X1_hasFewest_3 (x1 : Int32) (I : xI) (J : xJ) : Option (Int32 × xI × xJ) := f_X1_hasFewest_4 x1 0 I J
def f_X1_hasFewest_2 (x1 : Int32) (I : xI) (J : xJ) : Option (Int32 × xI × xJ) := f_X1_hasFewest_4 x1 1 I J
def f_X1_hasFewest_1 (x1 : Int32) (I : xI) (J : xJ) : Option (Int32 × xI × xJ) := if (I 36 12) ≤ x1 then f_X1_hasFewest_3 x1 I J else f_X1_hasFewest_2 x1 I J
def f_X1_hasFewest_0 (x1 : Int32) (I : xI) (J : xJ) : Option (Int32 × xI × xJ) := if x1 < 0 then f_X1_hasFewest_3 x1 I J else f_X1_hasFewest_1 x1 I J
def f_X1_hasFewest (x1 : Int32) (I : xI) (J : xJ) : Option (Int32 × xI × xJ) := f_X1_hasFewest_0 x1 I J
theorem p_X1_hasFewest_4 {L : Nat} {xs : Nat → Int32} {d : Nat} {Q : xO → Prop} (x1 : Int32) (s0 : Int32) (I : xI) (J : xJ) {t : Int32 × xI × xJ} (h : f_X1_hasFewest_4 x1 s0 I J = some t) (hC : (c_X1_hasFewest Q) t) : Rn L xs (d + 1) 17 17 [some (.ref 36), some (.int x1)] [.int s0] 94 (I, J, xrf) Q := by
  unfold f_X1_hasFewest_4 at h
  obtain ⟨hc, h⟩ := xifT h
  cases h
  exact Rn.retT 1 (c := s0 = 0 ∨ s0 = 1) (o := ((some (.int s0)), 94, (I, J, xrf))) (fun f => rfl) hc hC
theorem p_X1_hasFewest_3 {L : Nat} {xs : Nat → Int32} {d : Nat} {Q : xO → Prop} (x1 : Int32) (I : xI) (J : xJ) {t : Int32 × xI × xJ} (h : f_X1_hasFewest_3 x1 I J = some t) (hC : (c_X1_hasFewest Q) t) : Rn L xs (d + 1) 17 16 [some (.ref 36), some (.int x1)] [] 94 (I, J, xrf) Q := by
  unfold f_X1_hasFewest_3 at h
  refine Rn.go 1 (j' := 17) (pc' := 17) (ls' := [some (.ref 36), some (.int x1)]) (st' := [.int 0]) (n' := 94) (M' := (I, J, xrf)) (fun f => rfl) ?_
  exact p_X1_hasFewest_4 x1 0 I J h hC
theorem p_X1_hasFewest_2 {L : Nat} {xs : Nat → Int32} {d : Nat} {Q : xO → Prop} (x1 : Int32) (I : xI) (J : xJ) {t : Int32 × xI × xJ} (h : f_X1_hasFewest_2 x1 I J = some t) (hC : (c_X1_hasFewest Q) t) : Rn L xs (d + 1) 17 12 [some (.ref 36), some (.int x1)] [] 94 (I, J, xrf) Q := by
  unfold f_X1_hasFewest_2 at h
  refine Rn.go 2 (j' := 17) (pc' := 17) (ls' := [some (.ref 36), some (.int x1)]) (st' := [.int 1]) (n' := 94) (M' := (I, J, xrf)) (fun f => rfl) ?_
  exact p_X1_hasFewest_4 x1 1 I J h hC
theorem p_X1_hasFewest_1 {L : Nat} {xs : Nat → Int32} {d : Nat} {Q : xO → Prop} (x1 : Int32) (I : xI) (J : xJ) {t : Int32 × xI × xJ} (h : f_X1_hasFewest_1 x1 I J = some t) (hC : (c_X1_hasFewest Q) t) : Rn L xs (d + 1) 17 4 [some (.ref 36), some (.int x1)] [] 94 (I, J, xrf) Q := by
  unfold f_X1_hasFewest_1 at h
  refine Rn.fi 4 (c := (I 36 12) ≤ x1) (p1 := 16) (l1 := [some (.ref 36), some (.int x1)]) (s1 := []) (n1 := 94) (M1 := (I, J, xrf)) (p2 := 12) (l2 := [some (.ref 36), some (.int x1)]) (s2 := []) (n2 := 94) (M2 := (I, J, xrf)) (fun f => rfl) (fun hc => ?_) (fun hc => ?_)
  · rw [if_pos hc] at h
    exact p_X1_hasFewest_3 x1 I J h hC
  · rw [if_neg hc] at h
    exact p_X1_hasFewest_2 x1 I J h hC
theorem p_X1_hasFewest_0 {L : Nat} {xs : Nat → Int32} {d : Nat} {Q : xO → Prop} (x1 : Int32) (I : xI) (J : xJ) {t : Int32 × xI × xJ} (h : f_X1_hasFewest_0 x1 I J = some t) (hC : (c_X1_hasFewest Q) t) : Rn L xs (d + 1) 17 0 [some (.ref 36), some (.int x1)] [] 94 (I, J, xrf) Q := by
  unfold f_X1_hasFewest_0 at h
  refine Rn.fi 2 (c := x1 < 0) (p1 := 16) (l1 := [some (.ref 36), some (.int x1)]) (s1 := []) (n1 := 94) (M1 := (I, J, xrf)) (p2 := 4) (l2 := [some (.ref 36), some (.int x1)]) (s2 := []) (n2 := 94) (M2 := (I, J, xrf)) (fun f => rfl) (fun hc => ?_) (fun hc => ?_)
  · rw [if_pos hc] at h
    exact p_X1_hasFewest_3 x1 I J h hC
  · rw [if_neg hc] at h
    exact p_X1_hasFewest_1 x1 I J h hC
theorem p_X1_hasFewest {L : Nat} {xs : Nat → Int32} {d : Nat} {Q : xO → Prop} (x1 : Int32) (I : xI) (J : xJ) {t : Int32 × xI × xJ} (h : f_X1_hasFewest x1 I J = some t) (hC : Q ((some (.int t.1)), 94, (t.2.1, t.2.2, xrf))) : Rn L xs (d + 1) 17 0 [some (.ref 36), some (.int x1)] [] 94 (I, J, xrf) Q := p_X1_hasFewest_0 x1 I J h hC
/-! X1_firstHolding -/
def c_X1_firstHolding (Q : xO → Prop) (t : Int32 × xI × xJ) : Prop := Q ((some (.int t.1)), 94, (t.2.1, t.2.2, xrf))
def c_X1_firstHolding_1 (L : Nat) (xs : Nat → Int32) (d : Nat) (Q : xO → Prop) (t : (Int32 × Int32 × xI × xJ) ⊕ (Int32 × xI × xJ)) : Prop := match t with
  | .inl s => Rn L xs (d + 1) 19 2 [some (.ref 36), some (.int s.1), some (.int s.2.1)] [] 94 (s.2.2.1, s.2.2.2, xrf) Q
  | .inr t => (c_X1_firstHolding Q) t
def f_X1_firstHolding_5 (x1 : Int32) (x2 : Int32) (I : xI) (J : xJ) : Option (Int32 × xI × xJ) := some ((-1), I, J)
def f_X1_firstHolding_4 (x1 : Int32) (x2 : Int32) (I : xI) (J : xJ) : Option ((Int32 × Int32 × xI × xJ) ⊕ (Int32 × xI × xJ)) := some (.inl (x1, ((x2 + 1)), I, J))
def f_X1_firstHolding_3 (x1 : Int32) (x2 : Int32) (I : xI) (J : xJ) : Option (Int32 × xI × xJ) := some (x2, I, J)
def f_X1_firstHolding_2 (x1 : Int32) (x2 : Int32) (I : xI) (J : xJ) : Option ((Int32 × Int32 × xI × xJ) ⊕ (Int32 × xI × xJ)) := if x2 < 0 ∨ 6 ≤ x2.toNatClampNeg then none else if (x1 &&& ((I 42 x2.toNatClampNeg) ^^^ (-1))) = 0 then ((f_X1_firstHolding_3 x1 x2 I J)).map .inr else f_X1_firstHolding_4 x1 x2 I J
def b_X1_firstHolding_1 (x1 : Int32) (x2 : Int32) (I : xI) (J : xJ) : Option ((Int32 × Int32 × xI × xJ) ⊕ (Int32 × xI × xJ)) := if (I 36 12) ≤ x2 then ((f_X1_firstHolding_5 x1 x2 I J)).map .inr else f_X1_firstHolding_2 x1 x2 I J
def f_X1_firstHolding_1 (x1 : Int32) (x2 : Int32) (I : xI) (J : xJ) : Option (Int32 × xI × xJ) := xloop (fun s : Int32 × Int32 × xI × xJ => b_X1_firstHolding_1 s.1 s.2.1 s.2.2.1 s.2.2.2) 5000 (x1, x2, I, J)
def f_X1_firstHolding_0 (x1 : Int32) (I : xI) (J : xJ) : Option (Int32 × xI × xJ) := f_X1_firstHolding_1 x1 0 I J
def f_X1_firstHolding (x1 : Int32) (I : xI) (J : xJ) : Option (Int32 × xI × xJ) := f_X1_firstHolding_0 x1 I J
theorem p_X1_firstHolding_5 {L : Nat} {xs : Nat → Int32} {d : Nat} {Q : xO → Prop} (x1 : Int32) (x2 : Int32) (I : xI) (J : xJ) {t : Int32 × xI × xJ} (h : f_X1_firstHolding_5 x1 x2 I J = some t) (hC : (c_X1_firstHolding Q) t) : Rn L xs (d + 1) 19 31 [some (.ref 36), some (.int x1), some (.int x2)] [] 94 (I, J, xrf) Q := by
  unfold f_X1_firstHolding_5 at h
  cases h
  exact Rn.ret 2 (o := ((some (.int ((-1)))), 94, (I, J, xrf))) (fun f => rfl) hC
theorem p_X1_firstHolding_4 {L : Nat} {xs : Nat → Int32} {d : Nat} {Q : xO → Prop} (x1 : Int32) (x2 : Int32) (I : xI) (J : xJ) {t : (Int32 × Int32 × xI × xJ) ⊕ (Int32 × xI × xJ)} (h : f_X1_firstHolding_4 x1 x2 I J = some t) (hC : (c_X1_firstHolding_1 L xs d Q) t) : Rn L xs (d + 1) 19 25 [some (.ref 36), some (.int x1), some (.int x2)] [] 94 (I, J, xrf) Q := by
  unfold f_X1_firstHolding_4 at h
  refine Rn.go 2 (j' := 19) (pc' := 2) (ls' := [some (.ref 36), some (.int x1), some (.int ((x2 + 1)))]) (st' := []) (n' := 94) (M' := (I, J, xrf)) (fun f => rfl) ?_
  cases h; exact hC
theorem p_X1_firstHolding_3 {L : Nat} {xs : Nat → Int32} {d : Nat} {Q : xO → Prop} (x1 : Int32) (x2 : Int32) (I : xI) (J : xJ) {t : Int32 × xI × xJ} (h : f_X1_firstHolding_3 x1 x2 I J = some t) (hC : (c_X1_firstHolding Q) t) : Rn L xs (d + 1) 19 23 [some (.ref 36), some (.int x1), some (.int x2)] [] 94 (I, J, xrf) Q := by
  unfold f_X1_firstHolding_3 at h
  cases h
  exact Rn.ret 2 (o := ((some (.int x2)), 94, (I, J, xrf))) (fun f => rfl) hC
theorem p_X1_firstHolding_2 {L : Nat} {xs : Nat → Int32} {d : Nat} {Q : xO → Prop} (x1 : Int32) (x2 : Int32) (I : xI) (J : xJ) {t : (Int32 × Int32 × xI × xJ) ⊕ (Int32 × xI × xJ)} (h : f_X1_firstHolding_2 x1 x2 I J = some t) (hC : (c_X1_firstHolding_1 L xs d Q) t) : Rn L xs (d + 1) 19 10 [some (.ref 36), some (.int x1), some (.int x2)] [] 94 (I, J, xrf) Q := by
  unfold f_X1_firstHolding_2 at h
  obtain ⟨hc, h⟩ := xif h
  refine Rn.ok 5 (c := x2 < 0 ∨ 6 ≤ x2.toNatClampNeg) (p1 := 17) (l1 := [some (.ref 36), some (.int x1), some (.int x2)]) (s1 := [.int ((I 42 x2.toNatClampNeg)), .int x1]) (n1 := 94) (M1 := (I, J, xrf)) (fun f => rfl) hc ?_
  refine Rn.fi 4 (c := (x1 &&& ((I 42 x2.toNatClampNeg) ^^^ (-1))) = 0) (p1 := 23) (l1 := [some (.ref 36), some (.int x1), some (.int x2)]) (s1 := []) (n1 := 94) (M1 := (I, J, xrf)) (p2 := 25) (l2 := [some (.ref 36), some (.int x1), some (.int x2)]) (s2 := []) (n2 := 94) (M2 := (I, J, xrf)) (fun f => rfl) (fun hc => ?_) (fun hc => ?_)
  · rw [if_pos hc] at h
    obtain ⟨t0, h0, rfl⟩ := Option.map_eq_some_iff.mp h
    exact p_X1_firstHolding_3 x1 x2 I J h0 hC
  · rw [if_neg hc] at h
    exact p_X1_firstHolding_4 x1 x2 I J h hC
theorem q_X1_firstHolding_1 {L : Nat} {xs : Nat → Int32} {d : Nat} {Q : xO → Prop} (x1 : Int32) (x2 : Int32) (I : xI) (J : xJ) {t : (Int32 × Int32 × xI × xJ) ⊕ (Int32 × xI × xJ)} (h : b_X1_firstHolding_1 x1 x2 I J = some t) (hC : (c_X1_firstHolding_1 L xs d Q) t) : Rn L xs (d + 1) 19 2 [some (.ref 36), some (.int x1), some (.int x2)] [] 94 (I, J, xrf) Q := by
  unfold b_X1_firstHolding_1 at h
  refine Rn.fi 4 (c := (I 36 12) ≤ x2) (p1 := 31) (l1 := [some (.ref 36), some (.int x1), some (.int x2)]) (s1 := []) (n1 := 94) (M1 := (I, J, xrf)) (p2 := 10) (l2 := [some (.ref 36), some (.int x1), some (.int x2)]) (s2 := []) (n2 := 94) (M2 := (I, J, xrf)) (fun f => rfl) (fun hc => ?_) (fun hc => ?_)
  · rw [if_pos hc] at h
    obtain ⟨t0, h0, rfl⟩ := Option.map_eq_some_iff.mp h
    exact p_X1_firstHolding_5 x1 x2 I J h0 hC
  · rw [if_neg hc] at h
    exact p_X1_firstHolding_2 x1 x2 I J h hC
theorem p_X1_firstHolding_1 {L : Nat} {xs : Nat → Int32} {d : Nat} {Q : xO → Prop} (x1 : Int32) (x2 : Int32) (I : xI) (J : xJ) {t : Int32 × xI × xJ} (h : f_X1_firstHolding_1 x1 x2 I J = some t) (hC : (c_X1_firstHolding Q) t) : Rn L xs (d + 1) 19 2 [some (.ref 36), some (.int x1), some (.int x2)] [] 94 (I, J, xrf) Q := by
  unfold f_X1_firstHolding_1 at h
  exact xloop_some (P := fun s : Int32 × Int32 × xI × xJ => Rn L xs (d + 1) 19 2 [some (.ref 36), some (.int s.1), some (.int s.2.1)] [] 94 (s.2.2.1, s.2.2.2, xrf) Q) t (fun s ⟨s', hb, hp⟩ => q_X1_firstHolding_1 s.1 s.2.1 s.2.2.1 s.2.2.2 hb hp) (fun s hb => q_X1_firstHolding_1 s.1 s.2.1 s.2.2.1 s.2.2.2 hb hC) _ _ h
theorem p_X1_firstHolding_0 {L : Nat} {xs : Nat → Int32} {d : Nat} {Q : xO → Prop} (x1 : Int32) (I : xI) (J : xJ) {t : Int32 × xI × xJ} (h : f_X1_firstHolding_0 x1 I J = some t) (hC : (c_X1_firstHolding Q) t) : Rn L xs (d + 1) 19 0 [some (.ref 36), some (.int x1), none] [] 94 (I, J, xrf) Q := by
  unfold f_X1_firstHolding_0 at h
  refine Rn.go 2 (j' := 19) (pc' := 2) (ls' := [some (.ref 36), some (.int x1), some (.int 0)]) (st' := []) (n' := 94) (M' := (I, J, xrf)) (fun f => rfl) ?_
  exact p_X1_firstHolding_1 x1 0 I J h hC
theorem p_X1_firstHolding {L : Nat} {xs : Nat → Int32} {d : Nat} {Q : xO → Prop} (x1 : Int32) (I : xI) (J : xJ) {t : Int32 × xI × xJ} (h : f_X1_firstHolding x1 I J = some t) (hC : Q ((some (.int t.1)), 94, (t.2.1, t.2.2, xrf))) : Rn L xs (d + 1) 19 0 [some (.ref 36), some (.int x1), none] [] 94 (I, J, xrf) Q := p_X1_firstHolding_0 x1 I J h hC
/-! X1_smallTarget -/
def c_X1_smallTarget (Q : xO → Prop) (t : Int32 × xI × xJ) : Prop := Q ((some (.int t.1)), 94, (t.2.1, t.2.2, xrf))
def f_X1_smallTarget_8 (x1 : Int32) (x2 : Int32) (x3 : Int32) (s0 : Int32) (I : xI) (J : xJ) : Option (Int32 × xI × xJ) := some (s0, I, J)
def f_X1_smallTarget_7 (x1 : Int32) (x2 : Int32) (x3 : Int32) (I : xI) (J : xJ) : Option (Int32 × xI × xJ) := (f_X1_firstHolding x3 I J).bind fun o => f_X1_smallTarget_8 x1 x2 x3 o.1 o.2.1 o.2.2
def f_X1_smallTarget_6 (x1 : Int32) (x2 : Int32) (x3 : Int32) (I : xI) (J : xJ) : Option (Int32 × xI × xJ) := f_X1_smallTarget_8 x1 x2 x3 ((-2)) I J
def f_X1_smallTarget_5 (x1 : Int32) (x2 : Int32) (s0 : Int32) (I : xI) (J : xJ) : Option (Int32 × xI × xJ) := if s0 = 0 then f_X1_smallTarget_6 x1 x2 s0 I J else f_X1_smallTarget_7 x1 x2 s0 I J
def f_X1_smallTarget_4 (x1 : Int32) (x2 : Int32) (I : xI) (J : xJ) : Option (Int32 × xI × xJ) := f_X1_smallTarget_5 x1 x2 0 I J
def f_X1_smallTarget_3 (x1 : Int32) (x2 : Int32) (s0 : Int32) (I : xI) (J : xJ) : Option (Int32 × xI × xJ) := f_X1_smallTarget_5 x1 x2 s0 I J
def f_X1_smallTarget_2 (x1 : Int32) (x2 : Int32) (I : xI) (J : xJ) : Option (Int32 × xI × xJ) := if x1 < 0 ∨ 6 ≤ x1.toNatClampNeg then none else (f_X5_leadOf ((I 42 x1.toNatClampNeg)) x2 I J).bind fun o => f_X1_smallTarget_3 x1 x2 o.1 o.2.1 o.2.2
def f_X1_smallTarget_1 (x1 : Int32) (x2 : Int32) (s0 : Int32) (I : xI) (J : xJ) : Option (Int32 × xI × xJ) := if s0 = 0 then f_X1_smallTarget_4 x1 x2 I J else f_X1_smallTarget_2 x1 x2 I J
def f_X1_smallTarget_0 (x1 : Int32) (x2 : Int32) (I : xI) (J : xJ) : Option (Int32 × xI × xJ) := (f_X1_hasFewest x1 I J).bind fun o => f_X1_smallTarget_1 x1 x2 o.1 o.2.1 o.2.2
def f_X1_smallTarget (x1 : Int32) (x2 : Int32) (I : xI) (J : xJ) : Option (Int32 × xI × xJ) := f_X1_smallTarget_0 x1 x2 I J
theorem p_X1_smallTarget_8 {L : Nat} {xs : Nat → Int32} {d : Nat} {Q : xO → Prop} (x1 : Int32) (x2 : Int32) (x3 : Int32) (s0 : Int32) (I : xI) (J : xJ) {t : Int32 × xI × xJ} (h : f_X1_smallTarget_8 x1 x2 x3 s0 I J = some t) (hC : (c_X1_smallTarget Q) t) : Rn L xs (d + 3) 18 41 [some (.ref 36), some (.int x1), some (.int x2), some (.int x3)] [.int s0] 94 (I, J, xrf) Q := by
  unfold f_X1_smallTarget_8 at h
  cases h
  exact Rn.ret 1 (o := ((some (.int s0)), 94, (I, J, xrf))) (fun f => rfl) hC
theorem p_X1_smallTarget_7 {L : Nat} {xs : Nat → Int32} {d : Nat} {Q : xO → Prop} (x1 : Int32) (x2 : Int32) (x3 : Int32) (I : xI) (J : xJ) {t : Int32 × xI × xJ} (h : f_X1_smallTarget_7 x1 x2 x3 I J = some t) (hC : (c_X1_smallTarget Q) t) : Rn L xs (d + 3) 18 36 [some (.ref 36), some (.int x1), some (.int x2), some (.int x3)] [] 94 (I, J, xrf) Q := by
  unfold f_X1_smallTarget_7 at h
  refine Rn.go 2 (j' := 18) (pc' := 38) (ls' := [some (.ref 36), some (.int x1), some (.int x2), some (.int x3)]) (st' := [.int x3, .ref 36]) (n' := 94) (M' := (I, J, xrf)) (fun f => rfl) ?_
  obtain ⟨o, ho, h⟩ := Option.bind_eq_some_iff.mp h
  refine Rn.call (d1 := d + 2) (j1 := 19) (ls1 := [some (.ref 36), some (.int x3), none]) (rest := []) (fun f => rfl) ?_
  refine p_X1_firstHolding (d := d + 1) x3 I J (t := o) ho ?_
  exact p_X1_smallTarget_8 x1 x2 x3 o.1 o.2.1 o.2.2 h hC
theorem p_X1_smallTarget_6 {L : Nat} {xs : Nat → Int32} {d : Nat} {Q : xO → Prop} (x1 : Int32) (x2 : Int32) (x3 : Int32) (I : xI) (J : xJ) {t : Int32 × xI × xJ} (h : f_X1_smallTarget_6 x1 x2 x3 I J = some t) (hC : (c_X1_smallTarget Q) t) : Rn L xs (d + 3) 18 31 [some (.ref 36), some (.int x1), some (.int x2), some (.int x3)] [] 94 (I, J, xrf) Q := by
  unfold f_X1_smallTarget_6 at h
  refine Rn.go 2 (j' := 18) (pc' := 41) (ls' := [some (.ref 36), some (.int x1), some (.int x2), some (.int x3)]) (st' := [.int ((-2))]) (n' := 94) (M' := (I, J, xrf)) (fun f => rfl) ?_
  exact p_X1_smallTarget_8 x1 x2 x3 ((-2)) I J h hC
theorem p_X1_smallTarget_5 {L : Nat} {xs : Nat → Int32} {d : Nat} {Q : xO → Prop} (x1 : Int32) (x2 : Int32) (s0 : Int32) (I : xI) (J : xJ) {t : Int32 × xI × xJ} (h : f_X1_smallTarget_5 x1 x2 s0 I J = some t) (hC : (c_X1_smallTarget Q) t) : Rn L xs (d + 3) 18 26 [some (.ref 36), some (.int x1), some (.int x2), none] [.int s0] 94 (I, J, xrf) Q := by
  unfold f_X1_smallTarget_5 at h
  refine Rn.fi 3 (c := s0 = 0) (p1 := 31) (l1 := [some (.ref 36), some (.int x1), some (.int x2), some (.int s0)]) (s1 := []) (n1 := 94) (M1 := (I, J, xrf)) (p2 := 36) (l2 := [some (.ref 36), some (.int x1), some (.int x2), some (.int s0)]) (s2 := []) (n2 := 94) (M2 := (I, J, xrf)) (fun f => rfl) (fun hc => ?_) (fun hc => ?_)
  · rw [if_pos hc] at h
    exact p_X1_smallTarget_6 x1 x2 s0 I J h hC
  · rw [if_neg hc] at h
    exact p_X1_smallTarget_7 x1 x2 s0 I J h hC
theorem p_X1_smallTarget_4 {L : Nat} {xs : Nat → Int32} {d : Nat} {Q : xO → Prop} (x1 : Int32) (x2 : Int32) (I : xI) (J : xJ) {t : Int32 × xI × xJ} (h : f_X1_smallTarget_4 x1 x2 I J = some t) (hC : (c_X1_smallTarget Q) t) : Rn L xs (d + 3) 18 25 [some (.ref 36), some (.int x1), some (.int x2), none] [] 94 (I, J, xrf) Q := by
  unfold f_X1_smallTarget_4 at h
  refine Rn.go 1 (j' := 18) (pc' := 26) (ls' := [some (.ref 36), some (.int x1), some (.int x2), none]) (st' := [.int 0]) (n' := 94) (M' := (I, J, xrf)) (fun f => rfl) ?_
  exact p_X1_smallTarget_5 x1 x2 0 I J h hC
theorem p_X1_smallTarget_3 {L : Nat} {xs : Nat → Int32} {d : Nat} {Q : xO → Prop} (x1 : Int32) (x2 : Int32) (s0 : Int32) (I : xI) (J : xJ) {t : Int32 × xI × xJ} (h : f_X1_smallTarget_3 x1 x2 s0 I J = some t) (hC : (c_X1_smallTarget Q) t) : Rn L xs (d + 3) 18 22 [some (.ref 36), some (.int x1), some (.int x2), none] [.int s0] 94 (I, J, xrf) Q := by
  unfold f_X1_smallTarget_3 at h
  refine Rn.go 1 (j' := 18) (pc' := 26) (ls' := [some (.ref 36), some (.int x1), some (.int x2), none]) (st' := [.int s0]) (n' := 94) (M' := (I, J, xrf)) (fun f => rfl) ?_
  exact p_X1_smallTarget_5 x1 x2 s0 I J h hC
theorem p_X1_smallTarget_2 {L : Nat} {xs : Nat → Int32} {d : Nat} {Q : xO → Prop} (x1 : Int32) (x2 : Int32) (I : xI) (J : xJ) {t : Int32 × xI × xJ} (h : f_X1_smallTarget_2 x1 x2 I J = some t) (hC : (c_X1_smallTarget Q) t) : Rn L xs (d + 3) 18 8 [some (.ref 36), some (.int x1), some (.int x2), none] [] 94 (I, J, xrf) Q := by
  unfold f_X1_smallTarget_2 at h
  obtain ⟨hc, h⟩ := xif h
  refine Rn.ok 6 (c := x1 < 0 ∨ 6 ≤ x1.toNatClampNeg) (p1 := 18) (l1 := [some (.ref 36), some (.int x1), some (.int x2), none]) (s1 := [.int ((I 42 x1.toNatClampNeg)), .ref 1]) (n1 := 94) (M1 := (I, J, xrf)) (fun f => rfl) hc ?_
  refine Rn.go 1 (j' := 18) (pc' := 19) (ls' := [some (.ref 36), some (.int x1), some (.int x2), none]) (st' := [.int x2, .int ((I 42 x1.toNatClampNeg)), .ref 1]) (n' := 94) (M' := (I, J, xrf)) (fun f => rfl) ?_
  obtain ⟨o, ho, h⟩ := Option.bind_eq_some_iff.mp h
  refine Rn.call (d1 := d + 2) (j1 := 61) (ls1 := [some (.ref 1), some (.int ((I 42 x1.toNatClampNeg))), some (.int x2), none, none, none]) (rest := []) (fun f => rfl) ?_
  refine p_X5_leadOf (d := d + 0) ((I 42 x1.toNatClampNeg)) x2 I J (t := o) ho ?_
  exact p_X1_smallTarget_3 x1 x2 o.1 o.2.1 o.2.2 h hC
theorem p_X1_smallTarget_1 {L : Nat} {xs : Nat → Int32} {d : Nat} {Q : xO → Prop} (x1 : Int32) (x2 : Int32) (s0 : Int32) (I : xI) (J : xJ) {t : Int32 × xI × xJ} (h : f_X1_smallTarget_1 x1 x2 s0 I J = some t) (hC : (c_X1_smallTarget Q) t) : Rn L xs (d + 3) 18 5 [some (.ref 36), some (.int x1), some (.int x2), none] [.int s0] 94 (I, J, xrf) Q := by
  unfold f_X1_smallTarget_1 at h
  refine Rn.fi 1 (c := s0 = 0) (p1 := 25) (l1 := [some (.ref 36), some (.int x1), some (.int x2), none]) (s1 := []) (n1 := 94) (M1 := (I, J, xrf)) (p2 := 8) (l2 := [some (.ref 36), some (.int x1), some (.int x2), none]) (s2 := []) (n2 := 94) (M2 := (I, J, xrf)) (fun f => rfl) (fun hc => ?_) (fun hc => ?_)
  · rw [if_pos hc] at h
    exact p_X1_smallTarget_4 x1 x2 I J h hC
  · rw [if_neg hc] at h
    exact p_X1_smallTarget_2 x1 x2 I J h hC
theorem p_X1_smallTarget_0 {L : Nat} {xs : Nat → Int32} {d : Nat} {Q : xO → Prop} (x1 : Int32) (x2 : Int32) (I : xI) (J : xJ) {t : Int32 × xI × xJ} (h : f_X1_smallTarget_0 x1 x2 I J = some t) (hC : (c_X1_smallTarget Q) t) : Rn L xs (d + 3) 18 0 [some (.ref 36), some (.int x1), some (.int x2), none] [] 94 (I, J, xrf) Q := by
  unfold f_X1_smallTarget_0 at h
  refine Rn.go 2 (j' := 18) (pc' := 2) (ls' := [some (.ref 36), some (.int x1), some (.int x2), none]) (st' := [.int x1, .ref 36]) (n' := 94) (M' := (I, J, xrf)) (fun f => rfl) ?_
  obtain ⟨o, ho, h⟩ := Option.bind_eq_some_iff.mp h
  refine Rn.call (d1 := d + 2) (j1 := 17) (ls1 := [some (.ref 36), some (.int x1)]) (rest := []) (fun f => rfl) ?_
  refine p_X1_hasFewest (d := d + 1) x1 I J (t := o) ho ?_
  exact p_X1_smallTarget_1 x1 x2 o.1 o.2.1 o.2.2 h hC
theorem p_X1_smallTarget {L : Nat} {xs : Nat → Int32} {d : Nat} {Q : xO → Prop} (x1 : Int32) (x2 : Int32) (I : xI) (J : xJ) {t : Int32 × xI × xJ} (h : f_X1_smallTarget x1 x2 I J = some t) (hC : Q ((some (.int t.1)), 94, (t.2.1, t.2.2, xrf))) : Rn L xs (d + 3) 18 0 [some (.ref 36), some (.int x1), some (.int x2), none] [] 94 (I, J, xrf) Q := p_X1_smallTarget_0 x1 x2 I J h hC
/-! X1_smallAnswer -/
def c_X1_smallAnswer (Q : xO → Prop) (t : Int32 × xI × xJ) : Prop := Q ((some (.int t.1)), 94, (t.2.1, t.2.2, xrf))
def c_X1_smallAnswer_1 (L : Nat) (xs : Nat → Int32) (d : Nat) (Q : xO → Prop) (t : (Int32 × Int32 × Int32 × Int32 × xI × xJ) ⊕ (Int32 × xI × xJ)) : Prop := match t with
  | .inl s => Rn L xs (d + 2) 20 6 [some (.ref 36), some (.int s.1), some (.int s.2.1), some (.int s.2.2.1), some (.int s.2.2.2.1)] [] 94 (s.2.2.2.2.1, s.2.2.2.2.2, xrf) Q
  | .inr t => (c_X1_smallAnswer Q) t
def f_X1_smallAnswer_8 (x1 : Int32) (x2 : Int32) (x3 : Int32) (x4 : Int32) (I : xI) (J : xJ) : Option (Int32 × xI × xJ) := some (x3, I, J)
def f_X1_smallAnswer_7 (x1 : Int32) (x2 : Int32) (x3 : Int32) (x4 : Int32) (I : xI) (J : xJ) : Option ((Int32 × Int32 × Int32 × Int32 × xI × xJ) ⊕ (Int32 × xI × xJ)) := some (.inl (x1, x2, x3, ((x4 + 1)), I, J))
def f_X1_smallAnswer_6 (x1 : Int32) (x2 : Int32) (x3 : Int32) (x4 : Int32) (s0 : Int32) (s1 : Int32) (I : xI) (J : xJ) : Option ((Int32 × Int32 × Int32 × Int32 × xI × xJ) ⊕ (Int32 × xI × xJ)) := f_X1_smallAnswer_7 x1 x2 ((if s0 < s1 then s1 else s0)) x4 I J
def f_X1_smallAnswer_5 (x1 : Int32) (x2 : Int32) (x3 : Int32) (x4 : Int32) (I : xI) (J : xJ) : Option ((Int32 × Int32 × Int32 × Int32 × xI × xJ) ⊕ (Int32 × xI × xJ)) := (f_X5_answerOf x4 x2 I J).bind fun o => f_X1_smallAnswer_6 x1 x2 x3 x4 x3 o.1 o.2.1 o.2.2
def f_X1_smallAnswer_4 (x1 : Int32) (x2 : Int32) (x3 : Int32) (x4 : Int32) (I : xI) (J : xJ) : Option ((Int32 × Int32 × Int32 × Int32 × xI × xJ) ⊕ (Int32 × xI × xJ)) := if x1 < 0 ∨ 6 ≤ x1.toNatClampNeg then none else if (((I 42 x1.toNatClampNeg) >>> (x4 &&& 31)) &&& 1) = 1 then f_X1_smallAnswer_5 x1 x2 x3 x4 I J else f_X1_smallAnswer_7 x1 x2 x3 x4 I J
def f_X1_smallAnswer_3 (x1 : Int32) (x2 : Int32) (x3 : Int32) (x4 : Int32) (s0 : Int32) (I : xI) (J : xJ) : Option ((Int32 × Int32 × Int32 × Int32 × xI × xJ) ⊕ (Int32 × xI × xJ)) := if s0 = 0 then ((f_X1_smallAnswer_8 x1 x2 x3 x4 I J)).map .inr else f_X1_smallAnswer_4 x1 x2 x3 x4 I J
def f_X1_smallAnswer_2 (x1 : Int32) (x2 : Int32) (x3 : Int32) (x4 : Int32) (I : xI) (J : xJ) : Option ((Int32 × Int32 × Int32 × Int32 × xI × xJ) ⊕ (Int32 × xI × xJ)) := (f_X1_hasFewest x1 I J).bind fun o => f_X1_smallAnswer_3 x1 x2 x3 x4 o.1 o.2.1 o.2.2
def b_X1_smallAnswer_1 (x1 : Int32) (x2 : Int32) (x3 : Int32) (x4 : Int32) (I : xI) (J : xJ) : Option ((Int32 × Int32 × Int32 × Int32 × xI × xJ) ⊕ (Int32 × xI × xJ)) := if (I 1 0) ≤ x4 then ((f_X1_smallAnswer_8 x1 x2 x3 x4 I J)).map .inr else f_X1_smallAnswer_2 x1 x2 x3 x4 I J
def f_X1_smallAnswer_1 (x1 : Int32) (x2 : Int32) (x3 : Int32) (x4 : Int32) (I : xI) (J : xJ) : Option (Int32 × xI × xJ) := xloop (fun s : Int32 × Int32 × Int32 × Int32 × xI × xJ => b_X1_smallAnswer_1 s.1 s.2.1 s.2.2.1 s.2.2.2.1 s.2.2.2.2.1 s.2.2.2.2.2) 5000 (x1, x2, x3, x4, I, J)
def f_X1_smallAnswer_0 (x1 : Int32) (x2 : Int32) (I : xI) (J : xJ) : Option (Int32 × xI × xJ) := f_X1_smallAnswer_1 x1 x2 ((-2)) 0 I J
def f_X1_smallAnswer (x1 : Int32) (x2 : Int32) (I : xI) (J : xJ) : Option (Int32 × xI × xJ) := f_X1_smallAnswer_0 x1 x2 I J
theorem p_X1_smallAnswer_8 {L : Nat} {xs : Nat → Int32} {d : Nat} {Q : xO → Prop} (x1 : Int32) (x2 : Int32) (x3 : Int32) (x4 : Int32) (I : xI) (J : xJ) {t : Int32 × xI × xJ} (h : f_X1_smallAnswer_8 x1 x2 x3 x4 I J = some t) (hC : (c_X1_smallAnswer Q) t) : Rn L xs (d + 2) 20 62 [some (.ref 36), some (.int x1), some (.int x2), some (.int x3), some (.int x4)] [] 94 (I, J, xrf) Q := by
  unfold f_X1_smallAnswer_8 at h
  cases h
  exact Rn.ret 2 (o := ((some (.int x3)), 94, (I, J, xrf))) (fun f => rfl) hC
theorem p_X1_smallAnswer_7 {L : Nat} {xs : Nat → Int32} {d : Nat} {Q : xO → Prop} (x1 : Int32) (x2 : Int32) (x3 : Int32) (x4 : Int32) (I : xI) (J : xJ) {t : (Int32 × Int32 × Int32 × Int32 × xI × xJ) ⊕ (Int32 × xI × xJ)} (h : f_X1_smallAnswer_7 x1 x2 x3 x4 I J = some t) (hC : (c_X1_smallAnswer_1 L xs d Q) t) : Rn L xs (d + 2) 20 56 [some (.ref 36), some (.int x1), some (.int x2), some (.int x3), some (.int x4)] [] 94 (I, J, xrf) Q := by
  unfold f_X1_smallAnswer_7 at h
  refine Rn.go 2 (j' := 20) (pc' := 6) (ls' := [some (.ref 36), some (.int x1), some (.int x2), some (.int x3), some (.int ((x4 + 1)))]) (st' := []) (n' := 94) (M' := (I, J, xrf)) (fun f => rfl) ?_
  cases h; exact hC
theorem p_X1_smallAnswer_6 {L : Nat} {xs : Nat → Int32} {d : Nat} {Q : xO → Prop} (x1 : Int32) (x2 : Int32) (x3 : Int32) (x4 : Int32) (s0 : Int32) (s1 : Int32) (I : xI) (J : xJ) {t : (Int32 × Int32 × Int32 × Int32 × xI × xJ) ⊕ (Int32 × xI × xJ)} (h : f_X1_smallAnswer_6 x1 x2 x3 x4 s0 s1 I J = some t) (hC : (c_X1_smallAnswer_1 L xs d Q) t) : Rn L xs (d + 2) 20 52 [some (.ref 36), some (.int x1), some (.int x2), some (.int x3), some (.int x4)] [.int s1, .int s0] 94 (I, J, xrf) Q := by
  unfold f_X1_smallAnswer_6 at h
  refine Rn.go 2 (j' := 20) (pc' := 56) (ls' := [some (.ref 36), some (.int x1), some (.int x2), some (.int ((if s0 < s1 then s1 else s0))), some (.int x4)]) (st' := []) (n' := 94) (M' := (I, J, xrf)) (fun f => rfl) ?_
  exact p_X1_smallAnswer_7 x1 x2 ((if s0 < s1 then s1 else s0)) x4 I J h hC
theorem p_X1_smallAnswer_5 {L : Nat} {xs : Nat → Int32} {d : Nat} {Q : xO → Prop} (x1 : Int32) (x2 : Int32) (x3 : Int32) (x4 : Int32) (I : xI) (J : xJ) {t : (Int32 × Int32 × Int32 × Int32 × xI × xJ) ⊕ (Int32 × xI × xJ)} (h : f_X1_smallAnswer_5 x1 x2 x3 x4 I J = some t) (hC : (c_X1_smallAnswer_1 L xs d Q) t) : Rn L xs (d + 2) 20 41 [some (.ref 36), some (.int x1), some (.int x2), some (.int x3), some (.int x4)] [] 94 (I, J, xrf) Q := by
  unfold f_X1_smallAnswer_5 at h
  refine Rn.go 5 (j' := 20) (pc' := 49) (ls' := [some (.ref 36), some (.int x1), some (.int x2), some (.int x3), some (.int x4)]) (st' := [.int x2, .int x4, .ref 1, .int x3]) (n' := 94) (M' := (I, J, xrf)) (fun f => rfl) ?_
  obtain ⟨o, ho, h⟩ := Option.bind_eq_some_iff.mp h
  refine Rn.call (d1 := d + 1) (j1 := 58) (ls1 := [some (.ref 1), some (.int x4), some (.int x2)]) (rest := [.int x3]) (fun f => rfl) ?_
  refine p_X5_answerOf (d := d + 0) x4 x2 I J (t := o) ho ?_
  exact p_X1_smallAnswer_6 x1 x2 x3 x4 x3 o.1 o.2.1 o.2.2 h hC
theorem p_X1_smallAnswer_4 {L : Nat} {xs : Nat → Int32} {d : Nat} {Q : xO → Prop} (x1 : Int32) (x2 : Int32) (x3 : Int32) (x4 : Int32) (I : xI) (J : xJ) {t : (Int32 × Int32 × Int32 × Int32 × xI × xJ) ⊕ (Int32 × xI × xJ)} (h : f_X1_smallAnswer_4 x1 x2 x3 x4 I J = some t) (hC : (c_X1_smallAnswer_1 L xs d Q) t) : Rn L xs (d + 2) 20 26 [some (.ref 36), some (.int x1), some (.int x2), some (.int x3), some (.int x4)] [] 94 (I, J, xrf) Q := by
  unfold f_X1_smallAnswer_4 at h
  obtain ⟨hc, h⟩ := xif h
  refine Rn.ok 4 (c := x1 < 0 ∨ 6 ≤ x1.toNatClampNeg) (p1 := 32) (l1 := [some (.ref 36), some (.int x1), some (.int x2), some (.int x3), some (.int x4)]) (s1 := [.int ((I 42 x1.toNatClampNeg))]) (n1 := 94) (M1 := (I, J, xrf)) (fun f => rfl) hc ?_
  refine Rn.fi 6 (c := (((I 42 x1.toNatClampNeg) >>> (x4 &&& 31)) &&& 1) = 1) (p1 := 41) (l1 := [some (.ref 36), some (.int x1), some (.int x2), some (.int x3), some (.int x4)]) (s1 := []) (n1 := 94) (M1 := (I, J, xrf)) (p2 := 56) (l2 := [some (.ref 36), some (.int x1), some (.int x2), some (.int x3), some (.int x4)]) (s2 := []) (n2 := 94) (M2 := (I, J, xrf)) (fun f => rfl) (fun hc => ?_) (fun hc => ?_)
  · rw [if_pos hc] at h
    exact p_X1_smallAnswer_5 x1 x2 x3 x4 I J h hC
  · rw [if_neg hc] at h
    exact p_X1_smallAnswer_7 x1 x2 x3 x4 I J h hC
theorem p_X1_smallAnswer_3 {L : Nat} {xs : Nat → Int32} {d : Nat} {Q : xO → Prop} (x1 : Int32) (x2 : Int32) (x3 : Int32) (x4 : Int32) (s0 : Int32) (I : xI) (J : xJ) {t : (Int32 × Int32 × Int32 × Int32 × xI × xJ) ⊕ (Int32 × xI × xJ)} (h : f_X1_smallAnswer_3 x1 x2 x3 x4 s0 I J = some t) (hC : (c_X1_smallAnswer_1 L xs d Q) t) : Rn L xs (d + 2) 20 23 [some (.ref 36), some (.int x1), some (.int x2), some (.int x3), some (.int x4)] [.int s0] 94 (I, J, xrf) Q := by
  unfold f_X1_smallAnswer_3 at h
  refine Rn.fi 1 (c := s0 = 0) (p1 := 62) (l1 := [some (.ref 36), some (.int x1), some (.int x2), some (.int x3), some (.int x4)]) (s1 := []) (n1 := 94) (M1 := (I, J, xrf)) (p2 := 26) (l2 := [some (.ref 36), some (.int x1), some (.int x2), some (.int x3), some (.int x4)]) (s2 := []) (n2 := 94) (M2 := (I, J, xrf)) (fun f => rfl) (fun hc => ?_) (fun hc => ?_)
  · rw [if_pos hc] at h
    obtain ⟨t0, h0, rfl⟩ := Option.map_eq_some_iff.mp h
    exact p_X1_smallAnswer_8 x1 x2 x3 x4 I J h0 hC
  · rw [if_neg hc] at h
    exact p_X1_smallAnswer_4 x1 x2 x3 x4 I J h hC
theorem p_X1_smallAnswer_2 {L : Nat} {xs : Nat → Int32} {d : Nat} {Q : xO → Prop} (x1 : Int32) (x2 : Int32) (x3 : Int32) (x4 : Int32) (I : xI) (J : xJ) {t : (Int32 × Int32 × Int32 × Int32 × xI × xJ) ⊕ (Int32 × xI × xJ)} (h : f_X1_smallAnswer_2 x1 x2 x3 x4 I J = some t) (hC : (c_X1_smallAnswer_1 L xs d Q) t) : Rn L xs (d + 2) 20 18 [some (.ref 36), some (.int x1), some (.int x2), some (.int x3), some (.int x4)] [] 94 (I, J, xrf) Q := by
  unfold f_X1_smallAnswer_2 at h
  refine Rn.go 2 (j' := 20) (pc' := 20) (ls' := [some (.ref 36), some (.int x1), some (.int x2), some (.int x3), some (.int x4)]) (st' := [.int x1, .ref 36]) (n' := 94) (M' := (I, J, xrf)) (fun f => rfl) ?_
  obtain ⟨o, ho, h⟩ := Option.bind_eq_some_iff.mp h
  refine Rn.call (d1 := d + 1) (j1 := 17) (ls1 := [some (.ref 36), some (.int x1)]) (rest := []) (fun f => rfl) ?_
  refine p_X1_hasFewest (d := d + 0) x1 I J (t := o) ho ?_
  exact p_X1_smallAnswer_3 x1 x2 x3 x4 o.1 o.2.1 o.2.2 h hC
theorem q_X1_smallAnswer_1 {L : Nat} {xs : Nat → Int32} {d : Nat} {Q : xO → Prop} (x1 : Int32) (x2 : Int32) (x3 : Int32) (x4 : Int32) (I : xI) (J : xJ) {t : (Int32 × Int32 × Int32 × Int32 × xI × xJ) ⊕ (Int32 × xI × xJ)} (h : b_X1_smallAnswer_1 x1 x2 x3 x4 I J = some t) (hC : (c_X1_smallAnswer_1 L xs d Q) t) : Rn L xs (d + 2) 20 6 [some (.ref 36), some (.int x1), some (.int x2), some (.int x3), some (.int x4)] [] 94 (I, J, xrf) Q := by
  unfold b_X1_smallAnswer_1 at h
  refine Rn.fi 5 (c := (I 1 0) ≤ x4) (p1 := 62) (l1 := [some (.ref 36), some (.int x1), some (.int x2), some (.int x3), some (.int x4)]) (s1 := []) (n1 := 94) (M1 := (I, J, xrf)) (p2 := 18) (l2 := [some (.ref 36), some (.int x1), some (.int x2), some (.int x3), some (.int x4)]) (s2 := []) (n2 := 94) (M2 := (I, J, xrf)) (fun f => rfl) (fun hc => ?_) (fun hc => ?_)
  · rw [if_pos hc] at h
    obtain ⟨t0, h0, rfl⟩ := Option.map_eq_some_iff.mp h
    exact p_X1_smallAnswer_8 x1 x2 x3 x4 I J h0 hC
  · rw [if_neg hc] at h
    exact p_X1_smallAnswer_2 x1 x2 x3 x4 I J h hC
theorem p_X1_smallAnswer_1 {L : Nat} {xs : Nat → Int32} {d : Nat} {Q : xO → Prop} (x1 : Int32) (x2 : Int32) (x3 : Int32) (x4 : Int32) (I : xI) (J : xJ) {t : Int32 × xI × xJ} (h : f_X1_smallAnswer_1 x1 x2 x3 x4 I J = some t) (hC : (c_X1_smallAnswer Q) t) : Rn L xs (d + 2) 20 6 [some (.ref 36), some (.int x1), some (.int x2), some (.int x3), some (.int x4)] [] 94 (I, J, xrf) Q := by
  unfold f_X1_smallAnswer_1 at h
  exact xloop_some (P := fun s : Int32 × Int32 × Int32 × Int32 × xI × xJ => Rn L xs (d + 2) 20 6 [some (.ref 36), some (.int s.1), some (.int s.2.1), some (.int s.2.2.1), some (.int s.2.2.2.1)] [] 94 (s.2.2.2.2.1, s.2.2.2.2.2, xrf) Q) t (fun s ⟨s', hb, hp⟩ => q_X1_smallAnswer_1 s.1 s.2.1 s.2.2.1 s.2.2.2.1 s.2.2.2.2.1 s.2.2.2.2.2 hb hp) (fun s hb => q_X1_smallAnswer_1 s.1 s.2.1 s.2.2.1 s.2.2.2.1 s.2.2.2.2.1 s.2.2.2.2.2 hb hC) _ _ h
theorem p_X1_smallAnswer_0 {L : Nat} {xs : Nat → Int32} {d : Nat} {Q : xO → Prop} (x1 : Int32) (x2 : Int32) (I : xI) (J : xJ) {t : Int32 × xI × xJ} (h : f_X1_smallAnswer_0 x1 x2 I J = some t) (hC : (c_X1_smallAnswer Q) t) : Rn L xs (d + 2) 20 0 [some (.ref 36), some (.int x1), some (.int x2), none, none] [] 94 (I, J, xrf) Q := by
  unfold f_X1_smallAnswer_0 at h
  refine Rn.go 4 (j' := 20) (pc' := 6) (ls' := [some (.ref 36), some (.int x1), some (.int x2), some (.int ((-2))), some (.int 0)]) (st' := []) (n' := 94) (M' := (I, J, xrf)) (fun f => rfl) ?_
  exact p_X1_smallAnswer_1 x1 x2 ((-2)) 0 I J h hC
theorem p_X1_smallAnswer {L : Nat} {xs : Nat → Int32} {d : Nat} {Q : xO → Prop} (x1 : Int32) (x2 : Int32) (I : xI) (J : xJ) {t : Int32 × xI × xJ} (h : f_X1_smallAnswer x1 x2 I J = some t) (hC : Q ((some (.int t.1)), 94, (t.2.1, t.2.2, xrf))) : Rn L xs (d + 2) 20 0 [some (.ref 36), some (.int x1), some (.int x2), none, none] [] 94 (I, J, xrf) Q := p_X1_smallAnswer_0 x1 x2 I J h hC
/-! X11_small -/
def c_X11_small (Q : xO → Prop) (t : Int32 × xI × xJ) : Prop := Q ((some (.int t.1)), 94, (t.2.1, t.2.2, xrf))
def f_X11_small_7 (x1 : Int32) (x2 : Int32) (x3 : Int32) (I : xI) (J : xJ) : Option (Int32 × xI × xJ) := some ((-1), I, J)
def f_X11_small_12 (x1 : Int32) (x2 : Int32) (x3 : Int32) (s0 : Int32) (I : xI) (J : xJ) : Option (Int32 × xI × xJ) := some (s0, I, J)
def f_X11_small_11 (x1 : Int32) (x2 : Int32) (x3 : Int32) (I : xI) (J : xJ) : Option (Int32 × xI × xJ) := (f_X1_smallAnswer x1 x2 I J).bind fun o => f_X11_small_12 x1 x2 x3 o.1 o.2.1 o.2.2
def f_X11_small_10 (x1 : Int32) (x2 : Int32) (x3 : Int32) (s0 : Int32) (I : xI) (J : xJ) : Option (Int32 × xI × xJ) := f_X11_small_12 x1 x2 x3 s0 I J
def f_X11_small_9 (x1 : Int32) (x2 : Int32) (x3 : Int32) (I : xI) (J : xJ) : Option (Int32 × xI × xJ) := (f_X1_smallTarget x1 x2 I J).bind fun o => f_X11_small_10 x1 x2 x3 o.1 o.2.1 o.2.2
def f_X11_small_8 (x1 : Int32) (x2 : Int32) (x3 : Int32) (I : xI) (J : xJ) : Option (Int32 × xI × xJ) := if x3 = 0 then f_X11_small_9 x1 x2 x3 I J else f_X11_small_11 x1 x2 x3 I J
def f_X11_small_6 (x1 : Int32) (x2 : Int32) (x3 : Int32) (I : xI) (J : xJ) : Option (Int32 × xI × xJ) := if x3 ≤ 1 then f_X11_small_8 x1 x2 x3 I J else f_X11_small_7 x1 x2 x3 I J
def f_X11_small_5 (x1 : Int32) (x2 : Int32) (x3 : Int32) (I : xI) (J : xJ) : Option (Int32 × xI × xJ) := if x3 < 0 then f_X11_small_7 x1 x2 x3 I J else f_X11_small_6 x1 x2 x3 I J
def f_X11_small_4 (x1 : Int32) (x2 : Int32) (x3 : Int32) (s0 : Int32) (I : xI) (J : xJ) : Option (Int32 × xI × xJ) := if s0 = 0 then f_X11_small_7 x1 x2 x3 I J else f_X11_small_5 x1 x2 x3 I J
def f_X11_small_3 (x1 : Int32) (x2 : Int32) (x3 : Int32) (I : xI) (J : xJ) : Option (Int32 × xI × xJ) := (f_X5_hasInput x2 I J).bind fun o => f_X11_small_4 x1 x2 x3 o.1 o.2.1 o.2.2
def f_X11_small_2 (x1 : Int32) (x2 : Int32) (x3 : Int32) (s0 : Int32) (I : xI) (J : xJ) : Option (Int32 × xI × xJ) := if s0 = 0 then f_X11_small_7 x1 x2 x3 I J else f_X11_small_3 x1 x2 x3 I J
def f_X11_small_1 (x1 : Int32) (x2 : Int32) (x3 : Int32) (I : xI) (J : xJ) : Option (Int32 × xI × xJ) := (f_X1_hasFewest x1 I J).bind fun o => f_X11_small_2 x1 x2 x3 o.1 o.2.1 o.2.2
def f_X11_small_0 (x1 : Int32) (x2 : Int32) (x3 : Int32) (I : xI) (J : xJ) : Option (Int32 × xI × xJ) := (f_X11_fewestNow I J).bind fun o => f_X11_small_1 x1 x2 x3 o.2.1 o.2.2
def f_X11_small (x1 : Int32) (x2 : Int32) (x3 : Int32) (I : xI) (J : xJ) : Option (Int32 × xI × xJ) := f_X11_small_0 x1 x2 x3 I J
theorem p_X11_small_7 {L : Nat} {xs : Nat → Int32} {d : Nat} {Q : xO → Prop} (x1 : Int32) (x2 : Int32) (x3 : Int32) (I : xI) (J : xJ) {t : Int32 × xI × xJ} (h : f_X11_small_7 x1 x2 x3 I J = some t) (hC : (c_X11_small Q) t) : Rn L xs (d + 18) 154 31 [some (.ref 0), some (.int x1), some (.int x2), some (.int x3)] [] 94 (I, J, xrf) Q := by
  unfold f_X11_small_7 at h
  cases h
  exact Rn.ret 2 (o := ((some (.int ((-1)))), 94, (I, J, xrf))) (fun f => rfl) hC
theorem p_X11_small_12 {L : Nat} {xs : Nat → Int32} {d : Nat} {Q : xO → Prop} (x1 : Int32) (x2 : Int32) (x3 : Int32) (s0 : Int32) (I : xI) (J : xJ) {t : Int32 × xI × xJ} (h : f_X11_small_12 x1 x2 x3 s0 I J = some t) (hC : (c_X11_small Q) t) : Rn L xs (d + 18) 154 58 [some (.ref 0), some (.int x1), some (.int x2), some (.int x3)] [.int s0] 94 (I, J, xrf) Q := by
  unfold f_X11_small_12 at h
  cases h
  exact Rn.ret 1 (o := ((some (.int s0)), 94, (I, J, xrf))) (fun f => rfl) hC
theorem p_X11_small_11 {L : Nat} {xs : Nat → Int32} {d : Nat} {Q : xO → Prop} (x1 : Int32) (x2 : Int32) (x3 : Int32) (I : xI) (J : xJ) {t : Int32 × xI × xJ} (h : f_X11_small_11 x1 x2 x3 I J = some t) (hC : (c_X11_small Q) t) : Rn L xs (d + 18) 154 49 [some (.ref 0), some (.int x1), some (.int x2), some (.int x3)] [] 94 (I, J, xrf) Q := by
  unfold f_X11_small_11 at h
  refine Rn.go 4 (j' := 154) (pc' := 55) (ls' := [some (.ref 0), some (.int x1), some (.int x2), some (.int x3)]) (st' := [.int x2, .int x1, .ref 36]) (n' := 94) (M' := (I, J, xrf)) (fun f => rfl) ?_
  obtain ⟨o, ho, h⟩ := Option.bind_eq_some_iff.mp h
  refine Rn.call (d1 := d + 17) (j1 := 20) (ls1 := [some (.ref 36), some (.int x1), some (.int x2), none, none]) (rest := []) (fun f => rfl) ?_
  refine p_X1_smallAnswer (d := d + 15) x1 x2 I J (t := o) ho ?_
  exact p_X11_small_12 x1 x2 x3 o.1 o.2.1 o.2.2 h hC
theorem p_X11_small_10 {L : Nat} {xs : Nat → Int32} {d : Nat} {Q : xO → Prop} (x1 : Int32) (x2 : Int32) (x3 : Int32) (s0 : Int32) (I : xI) (J : xJ) {t : Int32 × xI × xJ} (h : f_X11_small_10 x1 x2 x3 s0 I J = some t) (hC : (c_X11_small Q) t) : Rn L xs (d + 18) 154 46 [some (.ref 0), some (.int x1), some (.int x2), some (.int x3)] [.int s0] 94 (I, J, xrf) Q := by
  unfold f_X11_small_10 at h
  refine Rn.go 1 (j' := 154) (pc' := 58) (ls' := [some (.ref 0), some (.int x1), some (.int x2), some (.int x3)]) (st' := [.int s0]) (n' := 94) (M' := (I, J, xrf)) (fun f => rfl) ?_
  exact p_X11_small_12 x1 x2 x3 s0 I J h hC
theorem p_X11_small_9 {L : Nat} {xs : Nat → Int32} {d : Nat} {Q : xO → Prop} (x1 : Int32) (x2 : Int32) (x3 : Int32) (I : xI) (J : xJ) {t : Int32 × xI × xJ} (h : f_X11_small_9 x1 x2 x3 I J = some t) (hC : (c_X11_small Q) t) : Rn L xs (d + 18) 154 37 [some (.ref 0), some (.int x1), some (.int x2), some (.int x3)] [] 94 (I, J, xrf) Q := by
  unfold f_X11_small_9 at h
  refine Rn.go 4 (j' := 154) (pc' := 43) (ls' := [some (.ref 0), some (.int x1), some (.int x2), some (.int x3)]) (st' := [.int x2, .int x1, .ref 36]) (n' := 94) (M' := (I, J, xrf)) (fun f => rfl) ?_
  obtain ⟨o, ho, h⟩ := Option.bind_eq_some_iff.mp h
  refine Rn.call (d1 := d + 17) (j1 := 18) (ls1 := [some (.ref 36), some (.int x1), some (.int x2), none]) (rest := []) (fun f => rfl) ?_
  refine p_X1_smallTarget (d := d + 14) x1 x2 I J (t := o) ho ?_
  exact p_X11_small_10 x1 x2 x3 o.1 o.2.1 o.2.2 h hC
theorem p_X11_small_8 {L : Nat} {xs : Nat → Int32} {d : Nat} {Q : xO → Prop} (x1 : Int32) (x2 : Int32) (x3 : Int32) (I : xI) (J : xJ) {t : Int32 × xI × xJ} (h : f_X11_small_8 x1 x2 x3 I J = some t) (hC : (c_X11_small Q) t) : Rn L xs (d + 18) 154 33 [some (.ref 0), some (.int x1), some (.int x2), some (.int x3)] [] 94 (I, J, xrf) Q := by
  unfold f_X11_small_8 at h
  refine Rn.fi 2 (c := x3 = 0) (p1 := 37) (l1 := [some (.ref 0), some (.int x1), some (.int x2), some (.int x3)]) (s1 := []) (n1 := 94) (M1 := (I, J, xrf)) (p2 := 49) (l2 := [some (.ref 0), some (.int x1), some (.int x2), some (.int x3)]) (s2 := []) (n2 := 94) (M2 := (I, J, xrf)) (fun f => rfl) (fun hc => ?_) (fun hc => ?_)
  · rw [if_pos hc] at h
    exact p_X11_small_9 x1 x2 x3 I J h hC
  · rw [if_neg hc] at h
    exact p_X11_small_11 x1 x2 x3 I J h hC
theorem p_X11_small_6 {L : Nat} {xs : Nat → Int32} {d : Nat} {Q : xO → Prop} (x1 : Int32) (x2 : Int32) (x3 : Int32) (I : xI) (J : xJ) {t : Int32 × xI × xJ} (h : f_X11_small_6 x1 x2 x3 I J = some t) (hC : (c_X11_small Q) t) : Rn L xs (d + 18) 154 26 [some (.ref 0), some (.int x1), some (.int x2), some (.int x3)] [] 94 (I, J, xrf) Q := by
  unfold f_X11_small_6 at h
  refine Rn.fi 3 (c := x3 ≤ 1) (p1 := 33) (l1 := [some (.ref 0), some (.int x1), some (.int x2), some (.int x3)]) (s1 := []) (n1 := 94) (M1 := (I, J, xrf)) (p2 := 31) (l2 := [some (.ref 0), some (.int x1), some (.int x2), some (.int x3)]) (s2 := []) (n2 := 94) (M2 := (I, J, xrf)) (fun f => rfl) (fun hc => ?_) (fun hc => ?_)
  · rw [if_pos hc] at h
    exact p_X11_small_8 x1 x2 x3 I J h hC
  · rw [if_neg hc] at h
    exact p_X11_small_7 x1 x2 x3 I J h hC
theorem p_X11_small_5 {L : Nat} {xs : Nat → Int32} {d : Nat} {Q : xO → Prop} (x1 : Int32) (x2 : Int32) (x3 : Int32) (I : xI) (J : xJ) {t : Int32 × xI × xJ} (h : f_X11_small_5 x1 x2 x3 I J = some t) (hC : (c_X11_small Q) t) : Rn L xs (d + 18) 154 22 [some (.ref 0), some (.int x1), some (.int x2), some (.int x3)] [] 94 (I, J, xrf) Q := by
  unfold f_X11_small_5 at h
  refine Rn.fi 2 (c := x3 < 0) (p1 := 31) (l1 := [some (.ref 0), some (.int x1), some (.int x2), some (.int x3)]) (s1 := []) (n1 := 94) (M1 := (I, J, xrf)) (p2 := 26) (l2 := [some (.ref 0), some (.int x1), some (.int x2), some (.int x3)]) (s2 := []) (n2 := 94) (M2 := (I, J, xrf)) (fun f => rfl) (fun hc => ?_) (fun hc => ?_)
  · rw [if_pos hc] at h
    exact p_X11_small_7 x1 x2 x3 I J h hC
  · rw [if_neg hc] at h
    exact p_X11_small_6 x1 x2 x3 I J h hC
theorem p_X11_small_4 {L : Nat} {xs : Nat → Int32} {d : Nat} {Q : xO → Prop} (x1 : Int32) (x2 : Int32) (x3 : Int32) (s0 : Int32) (I : xI) (J : xJ) {t : Int32 × xI × xJ} (h : f_X11_small_4 x1 x2 x3 s0 I J = some t) (hC : (c_X11_small Q) t) : Rn L xs (d + 18) 154 19 [some (.ref 0), some (.int x1), some (.int x2), some (.int x3)] [.int s0] 94 (I, J, xrf) Q := by
  unfold f_X11_small_4 at h
  refine Rn.fi 1 (c := s0 = 0) (p1 := 31) (l1 := [some (.ref 0), some (.int x1), some (.int x2), some (.int x3)]) (s1 := []) (n1 := 94) (M1 := (I, J, xrf)) (p2 := 22) (l2 := [some (.ref 0), some (.int x1), some (.int x2), some (.int x3)]) (s2 := []) (n2 := 94) (M2 := (I, J, xrf)) (fun f => rfl) (fun hc => ?_) (fun hc => ?_)
  · rw [if_pos hc] at h
    exact p_X11_small_7 x1 x2 x3 I J h hC
  · rw [if_neg hc] at h
    exact p_X11_small_5 x1 x2 x3 I J h hC
theorem p_X11_small_3 {L : Nat} {xs : Nat → Int32} {d : Nat} {Q : xO → Prop} (x1 : Int32) (x2 : Int32) (x3 : Int32) (I : xI) (J : xJ) {t : Int32 × xI × xJ} (h : f_X11_small_3 x1 x2 x3 I J = some t) (hC : (c_X11_small Q) t) : Rn L xs (d + 18) 154 11 [some (.ref 0), some (.int x1), some (.int x2), some (.int x3)] [] 94 (I, J, xrf) Q := by
  unfold f_X11_small_3 at h
  refine Rn.go 3 (j' := 154) (pc' := 16) (ls' := [some (.ref 0), some (.int x1), some (.int x2), some (.int x3)]) (st' := [.int x2, .ref 1]) (n' := 94) (M' := (I, J, xrf)) (fun f => rfl) ?_
  obtain ⟨o, ho, h⟩ := Option.bind_eq_some_iff.mp h
  refine Rn.call (d1 := d + 17) (j1 := 52) (ls1 := [some (.ref 1), some (.int x2)]) (rest := []) (fun f => rfl) ?_
  refine p_X5_hasInput (d := d + 16) x2 I J (t := o) ho ?_
  exact p_X11_small_4 x1 x2 x3 o.1 o.2.1 o.2.2 h hC
theorem p_X11_small_2 {L : Nat} {xs : Nat → Int32} {d : Nat} {Q : xO → Prop} (x1 : Int32) (x2 : Int32) (x3 : Int32) (s0 : Int32) (I : xI) (J : xJ) {t : Int32 × xI × xJ} (h : f_X11_small_2 x1 x2 x3 s0 I J = some t) (hC : (c_X11_small Q) t) : Rn L xs (d + 18) 154 8 [some (.ref 0), some (.int x1), some (.int x2), some (.int x3)] [.int s0] 94 (I, J, xrf) Q := by
  unfold f_X11_small_2 at h
  refine Rn.fi 1 (c := s0 = 0) (p1 := 31) (l1 := [some (.ref 0), some (.int x1), some (.int x2), some (.int x3)]) (s1 := []) (n1 := 94) (M1 := (I, J, xrf)) (p2 := 11) (l2 := [some (.ref 0), some (.int x1), some (.int x2), some (.int x3)]) (s2 := []) (n2 := 94) (M2 := (I, J, xrf)) (fun f => rfl) (fun hc => ?_) (fun hc => ?_)
  · rw [if_pos hc] at h
    exact p_X11_small_7 x1 x2 x3 I J h hC
  · rw [if_neg hc] at h
    exact p_X11_small_3 x1 x2 x3 I J h hC
theorem p_X11_small_1 {L : Nat} {xs : Nat → Int32} {d : Nat} {Q : xO → Prop} (x1 : Int32) (x2 : Int32) (x3 : Int32) (I : xI) (J : xJ) {t : Int32 × xI × xJ} (h : f_X11_small_1 x1 x2 x3 I J = some t) (hC : (c_X11_small Q) t) : Rn L xs (d + 18) 154 4 [some (.ref 0), some (.int x1), some (.int x2), some (.int x3)] [.ref 36] 94 (I, J, xrf) Q := by
  unfold f_X11_small_1 at h
  refine Rn.go 1 (j' := 154) (pc' := 5) (ls' := [some (.ref 0), some (.int x1), some (.int x2), some (.int x3)]) (st' := [.int x1, .ref 36]) (n' := 94) (M' := (I, J, xrf)) (fun f => rfl) ?_
  obtain ⟨o, ho, h⟩ := Option.bind_eq_some_iff.mp h
  refine Rn.call (d1 := d + 17) (j1 := 17) (ls1 := [some (.ref 36), some (.int x1)]) (rest := []) (fun f => rfl) ?_
  refine p_X1_hasFewest (d := d + 16) x1 I J (t := o) ho ?_
  exact p_X11_small_2 x1 x2 x3 o.1 o.2.1 o.2.2 h hC
theorem p_X11_small_0 {L : Nat} {xs : Nat → Int32} {d : Nat} {Q : xO → Prop} (x1 : Int32) (x2 : Int32) (x3 : Int32) (I : xI) (J : xJ) {t : Int32 × xI × xJ} (h : f_X11_small_0 x1 x2 x3 I J = some t) (hC : (c_X11_small Q) t) : Rn L xs (d + 18) 154 0 [some (.ref 0), some (.int x1), some (.int x2), some (.int x3)] [] 94 (I, J, xrf) Q := by
  unfold f_X11_small_0 at h
  refine Rn.go 1 (j' := 154) (pc' := 1) (ls' := [some (.ref 0), some (.int x1), some (.int x2), some (.int x3)]) (st' := [.ref 0]) (n' := 94) (M' := (I, J, xrf)) (fun f => rfl) ?_
  obtain ⟨o, ho, h⟩ := Option.bind_eq_some_iff.mp h
  refine Rn.call (d1 := d + 17) (j1 := 178) (ls1 := [some (.ref 0)]) (rest := []) (fun f => rfl) ?_
  refine p_X11_fewestNow (d := d + 0) I J (t := o) ho ?_
  exact p_X11_small_1 x1 x2 x3 o.2.1 o.2.2 h hC
theorem p_X11_small {L : Nat} {xs : Nat → Int32} {d : Nat} {Q : xO → Prop} (x1 : Int32) (x2 : Int32) (x3 : Int32) (I : xI) (J : xJ) {t : Int32 × xI × xJ} (h : f_X11_small x1 x2 x3 I J = some t) (hC : Q ((some (.int t.1)), 94, (t.2.1, t.2.2, xrf))) : Rn L xs (d + 18) 154 0 [some (.ref 0), some (.int x1), some (.int x2), some (.int x3)] [] 94 (I, J, xrf) Q := p_X11_small_0 x1 x2 x3 I J h hC
