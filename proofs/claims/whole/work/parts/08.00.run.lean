/-! X9_hasRoom -/
def c_X9_hasRoom (Q : xO → Prop) (t : Int32 × xI × xJ) : Prop := Q ((some (.int t.1)), 94, (t.2.1, t.2.2, xrf))
def f_X9_hasRoom_3 (s0 : Int32) (I : xI) (J : xJ) : Option (Int32 × xI × xJ) := if s0 = 0 ∨ s0 = 1 then some (s0, I, J) else none
def f_X9_hasRoom_2 (I : xI) (J : xJ) : Option (Int32 × xI × xJ) := f_X9_hasRoom_3 0 I J
def f_X9_hasRoom_1 (I : xI) (J : xJ) : Option (Int32 × xI × xJ) := f_X9_hasRoom_3 1 I J
def f_X9_hasRoom_0 (I : xI) (J : xJ) : Option (Int32 × xI × xJ) := if 2000 < ((I 24 1) + 20) then f_X9_hasRoom_2 I J else f_X9_hasRoom_1 I J
def f_X9_hasRoom (I : xI) (J : xJ) : Option (Int32 × xI × xJ) := f_X9_hasRoom_0 I J
theorem p_X9_hasRoom_3 {L : Nat} {xs : Nat → Int32} {d : Nat} {Q : xO → Prop} (s0 : Int32) (I : xI) (J : xJ) {t : Int32 × xI × xJ} (h : f_X9_hasRoom_3 s0 I J = some t) (hC : (c_X9_hasRoom Q) t) : Rn L xs (d + 1) 118 18 [some (.ref 24)] [.int s0] 94 (I, J, xrf) Q := by
  unfold f_X9_hasRoom_3 at h
  obtain ⟨hc, h⟩ := xifT h
  cases h
  exact Rn.retT 1 (c := s0 = 0 ∨ s0 = 1) (o := ((some (.int s0)), 94, (I, J, xrf))) (fun f => rfl) hc hC
theorem p_X9_hasRoom_2 {L : Nat} {xs : Nat → Int32} {d : Nat} {Q : xO → Prop} (I : xI) (J : xJ) {t : Int32 × xI × xJ} (h : f_X9_hasRoom_2 I J = some t) (hC : (c_X9_hasRoom Q) t) : Rn L xs (d + 1) 118 17 [some (.ref 24)] [] 94 (I, J, xrf) Q := by
  unfold f_X9_hasRoom_2 at h
  refine Rn.go 1 (j' := 118) (pc' := 18) (ls' := [some (.ref 24)]) (st' := [.int 0]) (n' := 94) (M' := (I, J, xrf)) (fun f => rfl) ?_
  exact p_X9_hasRoom_3 0 I J h hC
theorem p_X9_hasRoom_1 {L : Nat} {xs : Nat → Int32} {d : Nat} {Q : xO → Prop} (I : xI) (J : xJ) {t : Int32 × xI × xJ} (h : f_X9_hasRoom_1 I J = some t) (hC : (c_X9_hasRoom Q) t) : Rn L xs (d + 1) 118 13 [some (.ref 24)] [] 94 (I, J, xrf) Q := by
  unfold f_X9_hasRoom_1 at h
  refine Rn.go 2 (j' := 118) (pc' := 18) (ls' := [some (.ref 24)]) (st' := [.int 1]) (n' := 94) (M' := (I, J, xrf)) (fun f => rfl) ?_
  exact p_X9_hasRoom_3 1 I J h hC
theorem p_X9_hasRoom_0 {L : Nat} {xs : Nat → Int32} {d : Nat} {Q : xO → Prop} (I : xI) (J : xJ) {t : Int32 × xI × xJ} (h : f_X9_hasRoom_0 I J = some t) (hC : (c_X9_hasRoom Q) t) : Rn L xs (d + 1) 118 0 [some (.ref 24)] [] 94 (I, J, xrf) Q := by
  unfold f_X9_hasRoom_0 at h
  refine Rn.fi 6 (c := 2000 < ((I 24 1) + 20)) (p1 := 17) (l1 := [some (.ref 24)]) (s1 := []) (n1 := 94) (M1 := (I, J, xrf)) (p2 := 13) (l2 := [some (.ref 24)]) (s2 := []) (n2 := 94) (M2 := (I, J, xrf)) (fun f => rfl) (fun hc => ?_) (fun hc => ?_)
  · rw [if_pos hc] at h
    exact p_X9_hasRoom_2 I J h hC
  · rw [if_neg hc] at h
    exact p_X9_hasRoom_1 I J h hC
theorem p_X9_hasRoom {L : Nat} {xs : Nat → Int32} {d : Nat} {Q : xO → Prop} (I : xI) (J : xJ) {t : Int32 × xI × xJ} (h : f_X9_hasRoom I J = some t) (hC : Q ((some (.int t.1)), 94, (t.2.1, t.2.2, xrf))) : Rn L xs (d + 1) 118 0 [some (.ref 24)] [] 94 (I, J, xrf) Q := p_X9_hasRoom_0 I J h hC
/-! X9_put -/
def c_X9_put (Q : xO → Prop) (t : Unit × xI × xJ) : Prop := Q (none, 94, (t.2.1, t.2.2, xrf))
def c_X9_put_1 (L : Nat) (xs : Nat → Int32) (d : Nat) (Q : xO → Prop) (t : (Int32 × Int32 × xI × xJ) ⊕ (Unit × xI × xJ)) : Prop := match t with
  | .inl s => Rn L xs (d + 1) 119 3 [some (.ref 24), some (.int s.1), some (.int s.2.1)] [] 94 (s.2.2.1, s.2.2.2, xrf) Q
  | .inr t => (c_X9_put Q) t
def f_X9_put_4 (x1 : Int32) (x2 : Int32) (I : xI) (J : xJ) : Option (Unit × xI × xJ) := some ((), I, J)
def f_X9_put_3 (x1 : Int32) (x2 : Int32) (I : xI) (J : xJ) : Option ((Int32 × Int32 × xI × xJ) ⊕ (Unit × xI × xJ)) := if (I 24 1) < 0 ∨ 2000 ≤ ((I 24 1)).toNatClampNeg then none else some (.inl (x1, ((x2 + (-8))), ((xup ((xup I 25 ((I 24 1)).toNatClampNeg ((Int8.toInt32 (Int32.toInt8 ((Int8.toInt32 (Int32.toInt8 ((x1 >>> (x2 &&& 31))))))))))) 24 1 (((((xup I 25 ((I 24 1)).toNatClampNeg ((Int8.toInt32 (Int32.toInt8 ((Int8.toInt32 (Int32.toInt8 ((x1 >>> (x2 &&& 31))))))))))) 24 1) + 1)))), J))
def f_X9_put_2 (x1 : Int32) (x2 : Int32) (I : xI) (J : xJ) : Option ((Int32 × Int32 × xI × xJ) ⊕ (Unit × xI × xJ)) := if 2000 ≤ (I 24 1) then ((f_X9_put_4 x1 x2 I J)).map .inr else f_X9_put_3 x1 x2 I J
def b_X9_put_1 (x1 : Int32) (x2 : Int32) (I : xI) (J : xJ) : Option ((Int32 × Int32 × xI × xJ) ⊕ (Unit × xI × xJ)) := if x2 < 0 then ((f_X9_put_4 x1 x2 I J)).map .inr else f_X9_put_2 x1 x2 I J
def f_X9_put_1 (x1 : Int32) (x2 : Int32) (I : xI) (J : xJ) : Option (Unit × xI × xJ) := xloop (fun s : Int32 × Int32 × xI × xJ => b_X9_put_1 s.1 s.2.1 s.2.2.1 s.2.2.2) 5000 (x1, x2, I, J)
def f_X9_put_0 (x1 : Int32) (I : xI) (J : xJ) : Option (Unit × xI × xJ) := f_X9_put_1 x1 24 I J
def f_X9_put (x1 : Int32) (I : xI) (J : xJ) : Option (Unit × xI × xJ) := f_X9_put_0 x1 I J
theorem p_X9_put_4 {L : Nat} {xs : Nat → Int32} {d : Nat} {Q : xO → Prop} (x1 : Int32) (x2 : Int32) (I : xI) (J : xJ) {t : Unit × xI × xJ} (h : f_X9_put_4 x1 x2 I J = some t) (hC : (c_X9_put Q) t) : Rn L xs (d + 1) 119 46 [some (.ref 24), some (.int x1), some (.int x2)] [] 94 (I, J, xrf) Q := by
  unfold f_X9_put_4 at h
  cases h
  exact Rn.ret 1 (o := (none, 94, (I, J, xrf))) (fun f => rfl) hC
theorem p_X9_put_3 {L : Nat} {xs : Nat → Int32} {d : Nat} {Q : xO → Prop} (x1 : Int32) (x2 : Int32) (I : xI) (J : xJ) {t : (Int32 × Int32 × xI × xJ) ⊕ (Unit × xI × xJ)} (h : f_X9_put_3 x1 x2 I J = some t) (hC : (c_X9_put_1 L xs d Q) t) : Rn L xs (d + 1) 119 17 [some (.ref 24), some (.int x1), some (.int x2)] [] 94 (I, J, xrf) Q := by
  unfold f_X9_put_3 at h
  obtain ⟨hc, h⟩ := xif h
  refine Rn.ok 9 (c := (I 24 1) < 0 ∨ 2000 ≤ ((I 24 1)).toNatClampNeg) (p1 := 30) (l1 := [some (.ref 24), some (.int x1), some (.int x2)]) (s1 := []) (n1 := 94) (M1 := ((xup I 25 ((I 24 1)).toNatClampNeg ((Int8.toInt32 (Int32.toInt8 ((Int8.toInt32 (Int32.toInt8 ((x1 >>> (x2 &&& 31)))))))))), J, xrf)) (fun f => rfl) hc ?_
  refine Rn.go 8 (j' := 119) (pc' := 3) (ls' := [some (.ref 24), some (.int x1), some (.int ((x2 + (-8))))]) (st' := []) (n' := 94) (M' := ((xup ((xup I 25 ((I 24 1)).toNatClampNeg ((Int8.toInt32 (Int32.toInt8 ((Int8.toInt32 (Int32.toInt8 ((x1 >>> (x2 &&& 31))))))))))) 24 1 (((((xup I 25 ((I 24 1)).toNatClampNeg ((Int8.toInt32 (Int32.toInt8 ((Int8.toInt32 (Int32.toInt8 ((x1 >>> (x2 &&& 31))))))))))) 24 1) + 1))), J, xrf)) (fun f => rfl) ?_
  cases h; exact hC
theorem p_X9_put_2 {L : Nat} {xs : Nat → Int32} {d : Nat} {Q : xO → Prop} (x1 : Int32) (x2 : Int32) (I : xI) (J : xJ) {t : (Int32 × Int32 × xI × xJ) ⊕ (Unit × xI × xJ)} (h : f_X9_put_2 x1 x2 I J = some t) (hC : (c_X9_put_1 L xs d Q) t) : Rn L xs (d + 1) 119 7 [some (.ref 24), some (.int x1), some (.int x2)] [] 94 (I, J, xrf) Q := by
  unfold f_X9_put_2 at h
  refine Rn.fi 4 (c := 2000 ≤ (I 24 1)) (p1 := 46) (l1 := [some (.ref 24), some (.int x1), some (.int x2)]) (s1 := []) (n1 := 94) (M1 := (I, J, xrf)) (p2 := 17) (l2 := [some (.ref 24), some (.int x1), some (.int x2)]) (s2 := []) (n2 := 94) (M2 := (I, J, xrf)) (fun f => rfl) (fun hc => ?_) (fun hc => ?_)
  · rw [if_pos hc] at h
    obtain ⟨t0, h0, rfl⟩ := Option.map_eq_some_iff.mp h
    exact p_X9_put_4 x1 x2 I J h0 hC
  · rw [if_neg hc] at h
    exact p_X9_put_3 x1 x2 I J h hC
theorem q_X9_put_1 {L : Nat} {xs : Nat → Int32} {d : Nat} {Q : xO → Prop} (x1 : Int32) (x2 : Int32) (I : xI) (J : xJ) {t : (Int32 × Int32 × xI × xJ) ⊕ (Unit × xI × xJ)} (h : b_X9_put_1 x1 x2 I J = some t) (hC : (c_X9_put_1 L xs d Q) t) : Rn L xs (d + 1) 119 3 [some (.ref 24), some (.int x1), some (.int x2)] [] 94 (I, J, xrf) Q := by
  unfold b_X9_put_1 at h
  refine Rn.fi 2 (c := x2 < 0) (p1 := 46) (l1 := [some (.ref 24), some (.int x1), some (.int x2)]) (s1 := []) (n1 := 94) (M1 := (I, J, xrf)) (p2 := 7) (l2 := [some (.ref 24), some (.int x1), some (.int x2)]) (s2 := []) (n2 := 94) (M2 := (I, J, xrf)) (fun f => rfl) (fun hc => ?_) (fun hc => ?_)
  · rw [if_pos hc] at h
    obtain ⟨t0, h0, rfl⟩ := Option.map_eq_some_iff.mp h
    exact p_X9_put_4 x1 x2 I J h0 hC
  · rw [if_neg hc] at h
    exact p_X9_put_2 x1 x2 I J h hC
theorem p_X9_put_1 {L : Nat} {xs : Nat → Int32} {d : Nat} {Q : xO → Prop} (x1 : Int32) (x2 : Int32) (I : xI) (J : xJ) {t : Unit × xI × xJ} (h : f_X9_put_1 x1 x2 I J = some t) (hC : (c_X9_put Q) t) : Rn L xs (d + 1) 119 3 [some (.ref 24), some (.int x1), some (.int x2)] [] 94 (I, J, xrf) Q := by
  unfold f_X9_put_1 at h
  exact xloop_some (P := fun s : Int32 × Int32 × xI × xJ => Rn L xs (d + 1) 119 3 [some (.ref 24), some (.int s.1), some (.int s.2.1)] [] 94 (s.2.2.1, s.2.2.2, xrf) Q) t (fun s ⟨s', hb, hp⟩ => q_X9_put_1 s.1 s.2.1 s.2.2.1 s.2.2.2 hb hp) (fun s hb => q_X9_put_1 s.1 s.2.1 s.2.2.1 s.2.2.2 hb hC) _ _ h
theorem p_X9_put_0 {L : Nat} {xs : Nat → Int32} {d : Nat} {Q : xO → Prop} (x1 : Int32) (I : xI) (J : xJ) {t : Unit × xI × xJ} (h : f_X9_put_0 x1 I J = some t) (hC : (c_X9_put Q) t) : Rn L xs (d + 1) 119 0 [some (.ref 24), some (.int x1), none] [] 94 (I, J, xrf) Q := by
  unfold f_X9_put_0 at h
  refine Rn.go 2 (j' := 119) (pc' := 3) (ls' := [some (.ref 24), some (.int x1), some (.int 24)]) (st' := []) (n' := 94) (M' := (I, J, xrf)) (fun f => rfl) ?_
  exact p_X9_put_1 x1 24 I J h hC
theorem p_X9_put {L : Nat} {xs : Nat → Int32} {d : Nat} {Q : xO → Prop} (x1 : Int32) (I : xI) (J : xJ) {t : Unit × xI × xJ} (h : f_X9_put x1 I J = some t) (hC : Q (none, 94, (t.2.1, t.2.2, xrf))) : Rn L xs (d + 1) 119 0 [some (.ref 24), some (.int x1), none] [] 94 (I, J, xrf) Q := p_X9_put_0 x1 I J h hC
/-! X11_feed -/
def c_X11_feed (Q : xO → Prop) (t : Int32 × xI × xJ) : Prop := Q ((some (.int t.1)), 94, (t.2.1, t.2.2, xrf))
def f_X11_feed_8 (x1 : Int32) (x2 : Int32) (x3 : Int32) (x4 : Int32) (x5 : Int32) (I : xI) (J : xJ) : Option (Int32 × xI × xJ) := some ((I 24 1), I, J)
def f_X11_feed_7 (x1 : Int32) (x2 : Int32) (x3 : Int32) (x4 : Int32) (x5 : Int32) (I : xI) (J : xJ) : Option (Int32 × xI × xJ) := (f_X9_put x5 I J).bind fun o => f_X11_feed_8 x1 x2 x3 x4 x5 o.2.1 o.2.2
def f_X11_feed_6 (x1 : Int32) (x2 : Int32) (x3 : Int32) (x4 : Int32) (x5 : Int32) (I : xI) (J : xJ) : Option (Int32 × xI × xJ) := (f_X9_put x4 I J).bind fun o => f_X11_feed_7 x1 x2 x3 x4 x5 o.2.1 o.2.2
def f_X11_feed_5 (x1 : Int32) (x2 : Int32) (x3 : Int32) (x4 : Int32) (x5 : Int32) (I : xI) (J : xJ) : Option (Int32 × xI × xJ) := (f_X9_put x3 I J).bind fun o => f_X11_feed_6 x1 x2 x3 x4 x5 o.2.1 o.2.2
def f_X11_feed_4 (x1 : Int32) (x2 : Int32) (x3 : Int32) (x4 : Int32) (x5 : Int32) (I : xI) (J : xJ) : Option (Int32 × xI × xJ) := (f_X9_put x2 I J).bind fun o => f_X11_feed_5 x1 x2 x3 x4 x5 o.2.1 o.2.2
def f_X11_feed_3 (x1 : Int32) (x2 : Int32) (x3 : Int32) (x4 : Int32) (x5 : Int32) (I : xI) (J : xJ) : Option (Int32 × xI × xJ) := (f_X9_put x1 I J).bind fun o => f_X11_feed_4 x1 x2 x3 x4 x5 o.2.1 o.2.2
def f_X11_feed_2 (x1 : Int32) (x2 : Int32) (x3 : Int32) (x4 : Int32) (x5 : Int32) (I : xI) (J : xJ) : Option (Int32 × xI × xJ) := some ((-1), I, J)
def f_X11_feed_1 (x1 : Int32) (x2 : Int32) (x3 : Int32) (x4 : Int32) (x5 : Int32) (s0 : Int32) (I : xI) (J : xJ) : Option (Int32 × xI × xJ) := if s0 = 0 then f_X11_feed_2 x1 x2 x3 x4 x5 I J else f_X11_feed_3 x1 x2 x3 x4 x5 I J
def f_X11_feed_0 (x1 : Int32) (x2 : Int32) (x3 : Int32) (x4 : Int32) (x5 : Int32) (I : xI) (J : xJ) : Option (Int32 × xI × xJ) := (f_X9_hasRoom I J).bind fun o => f_X11_feed_1 x1 x2 x3 x4 x5 o.1 o.2.1 o.2.2
def f_X11_feed (x1 : Int32) (x2 : Int32) (x3 : Int32) (x4 : Int32) (x5 : Int32) (I : xI) (J : xJ) : Option (Int32 × xI × xJ) := f_X11_feed_0 x1 x2 x3 x4 x5 I J
theorem p_X11_feed_8 {L : Nat} {xs : Nat → Int32} {d : Nat} {Q : xO → Prop} (x1 : Int32) (x2 : Int32) (x3 : Int32) (x4 : Int32) (x5 : Int32) (I : xI) (J : xJ) {t : Int32 × xI × xJ} (h : f_X11_feed_8 x1 x2 x3 x4 x5 I J = some t) (hC : (c_X11_feed Q) t) : Rn L xs (d + 2) 138 54 [some (.ref 0), some (.int x1), some (.int x2), some (.int x3), some (.int x4), some (.int x5)] [] 94 (I, J, xrf) Q := by
  unfold f_X11_feed_8 at h
  cases h
  exact Rn.ret 4 (o := ((some (.int ((I 24 1)))), 94, (I, J, xrf))) (fun f => rfl) hC
theorem p_X11_feed_7 {L : Nat} {xs : Nat → Int32} {d : Nat} {Q : xO → Prop} (x1 : Int32) (x2 : Int32) (x3 : Int32) (x4 : Int32) (x5 : Int32) (I : xI) (J : xJ) {t : Int32 × xI × xJ} (h : f_X11_feed_7 x1 x2 x3 x4 x5 I J = some t) (hC : (c_X11_feed Q) t) : Rn L xs (d + 2) 138 45 [some (.ref 0), some (.int x1), some (.int x2), some (.int x3), some (.int x4), some (.int x5)] [] 94 (I, J, xrf) Q := by
  unfold f_X11_feed_7 at h
  refine Rn.go 3 (j' := 138) (pc' := 51) (ls' := [some (.ref 0), some (.int x1), some (.int x2), some (.int x3), some (.int x4), some (.int x5)]) (st' := [.int x5, .ref 24]) (n' := 94) (M' := (I, J, xrf)) (fun f => rfl) ?_
  obtain ⟨o, ho, h⟩ := Option.bind_eq_some_iff.mp h
  refine Rn.call (d1 := d + 1) (j1 := 119) (ls1 := [some (.ref 24), some (.int x5), none]) (rest := []) (fun f => rfl) ?_
  refine p_X9_put (d := d + 0) x5 I J (t := o) ho ?_
  exact p_X11_feed_8 x1 x2 x3 x4 x5 o.2.1 o.2.2 h hC
theorem p_X11_feed_6 {L : Nat} {xs : Nat → Int32} {d : Nat} {Q : xO → Prop} (x1 : Int32) (x2 : Int32) (x3 : Int32) (x4 : Int32) (x5 : Int32) (I : xI) (J : xJ) {t : Int32 × xI × xJ} (h : f_X11_feed_6 x1 x2 x3 x4 x5 I J = some t) (hC : (c_X11_feed Q) t) : Rn L xs (d + 2) 138 36 [some (.ref 0), some (.int x1), some (.int x2), some (.int x3), some (.int x4), some (.int x5)] [] 94 (I, J, xrf) Q := by
  unfold f_X11_feed_6 at h
  refine Rn.go 3 (j' := 138) (pc' := 42) (ls' := [some (.ref 0), some (.int x1), some (.int x2), some (.int x3), some (.int x4), some (.int x5)]) (st' := [.int x4, .ref 24]) (n' := 94) (M' := (I, J, xrf)) (fun f => rfl) ?_
  obtain ⟨o, ho, h⟩ := Option.bind_eq_some_iff.mp h
  refine Rn.call (d1 := d + 1) (j1 := 119) (ls1 := [some (.ref 24), some (.int x4), none]) (rest := []) (fun f => rfl) ?_
  refine p_X9_put (d := d + 0) x4 I J (t := o) ho ?_
  exact p_X11_feed_7 x1 x2 x3 x4 x5 o.2.1 o.2.2 h hC
theorem p_X11_feed_5 {L : Nat} {xs : Nat → Int32} {d : Nat} {Q : xO → Prop} (x1 : Int32) (x2 : Int32) (x3 : Int32) (x4 : Int32) (x5 : Int32) (I : xI) (J : xJ) {t : Int32 × xI × xJ} (h : f_X11_feed_5 x1 x2 x3 x4 x5 I J = some t) (hC : (c_X11_feed Q) t) : Rn L xs (d + 2) 138 28 [some (.ref 0), some (.int x1), some (.int x2), some (.int x3), some (.int x4), some (.int x5)] [] 94 (I, J, xrf) Q := by
  unfold f_X11_feed_5 at h
  refine Rn.go 3 (j' := 138) (pc' := 33) (ls' := [some (.ref 0), some (.int x1), some (.int x2), some (.int x3), some (.int x4), some (.int x5)]) (st' := [.int x3, .ref 24]) (n' := 94) (M' := (I, J, xrf)) (fun f => rfl) ?_
  obtain ⟨o, ho, h⟩ := Option.bind_eq_some_iff.mp h
  refine Rn.call (d1 := d + 1) (j1 := 119) (ls1 := [some (.ref 24), some (.int x3), none]) (rest := []) (fun f => rfl) ?_
  refine p_X9_put (d := d + 0) x3 I J (t := o) ho ?_
  exact p_X11_feed_6 x1 x2 x3 x4 x5 o.2.1 o.2.2 h hC
theorem p_X11_feed_4 {L : Nat} {xs : Nat → Int32} {d : Nat} {Q : xO → Prop} (x1 : Int32) (x2 : Int32) (x3 : Int32) (x4 : Int32) (x5 : Int32) (I : xI) (J : xJ) {t : Int32 × xI × xJ} (h : f_X11_feed_4 x1 x2 x3 x4 x5 I J = some t) (hC : (c_X11_feed Q) t) : Rn L xs (d + 2) 138 20 [some (.ref 0), some (.int x1), some (.int x2), some (.int x3), some (.int x4), some (.int x5)] [] 94 (I, J, xrf) Q := by
  unfold f_X11_feed_4 at h
  refine Rn.go 3 (j' := 138) (pc' := 25) (ls' := [some (.ref 0), some (.int x1), some (.int x2), some (.int x3), some (.int x4), some (.int x5)]) (st' := [.int x2, .ref 24]) (n' := 94) (M' := (I, J, xrf)) (fun f => rfl) ?_
  obtain ⟨o, ho, h⟩ := Option.bind_eq_some_iff.mp h
  refine Rn.call (d1 := d + 1) (j1 := 119) (ls1 := [some (.ref 24), some (.int x2), none]) (rest := []) (fun f => rfl) ?_
  refine p_X9_put (d := d + 0) x2 I J (t := o) ho ?_
  exact p_X11_feed_5 x1 x2 x3 x4 x5 o.2.1 o.2.2 h hC
theorem p_X11_feed_3 {L : Nat} {xs : Nat → Int32} {d : Nat} {Q : xO → Prop} (x1 : Int32) (x2 : Int32) (x3 : Int32) (x4 : Int32) (x5 : Int32) (I : xI) (J : xJ) {t : Int32 × xI × xJ} (h : f_X11_feed_3 x1 x2 x3 x4 x5 I J = some t) (hC : (c_X11_feed Q) t) : Rn L xs (d + 2) 138 12 [some (.ref 0), some (.int x1), some (.int x2), some (.int x3), some (.int x4), some (.int x5)] [] 94 (I, J, xrf) Q := by
  unfold f_X11_feed_3 at h
  refine Rn.go 3 (j' := 138) (pc' := 17) (ls' := [some (.ref 0), some (.int x1), some (.int x2), some (.int x3), some (.int x4), some (.int x5)]) (st' := [.int x1, .ref 24]) (n' := 94) (M' := (I, J, xrf)) (fun f => rfl) ?_
  obtain ⟨o, ho, h⟩ := Option.bind_eq_some_iff.mp h
  refine Rn.call (d1 := d + 1) (j1 := 119) (ls1 := [some (.ref 24), some (.int x1), none]) (rest := []) (fun f => rfl) ?_
  refine p_X9_put (d := d + 0) x1 I J (t := o) ho ?_
  exact p_X11_feed_4 x1 x2 x3 x4 x5 o.2.1 o.2.2 h hC
theorem p_X11_feed_2 {L : Nat} {xs : Nat → Int32} {d : Nat} {Q : xO → Prop} (x1 : Int32) (x2 : Int32) (x3 : Int32) (x4 : Int32) (x5 : Int32) (I : xI) (J : xJ) {t : Int32 × xI × xJ} (h : f_X11_feed_2 x1 x2 x3 x4 x5 I J = some t) (hC : (c_X11_feed Q) t) : Rn L xs (d + 2) 138 10 [some (.ref 0), some (.int x1), some (.int x2), some (.int x3), some (.int x4), some (.int x5)] [] 94 (I, J, xrf) Q := by
  unfold f_X11_feed_2 at h
  cases h
  exact Rn.ret 2 (o := ((some (.int ((-1)))), 94, (I, J, xrf))) (fun f => rfl) hC
theorem p_X11_feed_1 {L : Nat} {xs : Nat → Int32} {d : Nat} {Q : xO → Prop} (x1 : Int32) (x2 : Int32) (x3 : Int32) (x4 : Int32) (x5 : Int32) (s0 : Int32) (I : xI) (J : xJ) {t : Int32 × xI × xJ} (h : f_X11_feed_1 x1 x2 x3 x4 x5 s0 I J = some t) (hC : (c_X11_feed Q) t) : Rn L xs (d + 2) 138 7 [some (.ref 0), some (.int x1), some (.int x2), some (.int x3), some (.int x4), some (.int x5)] [.int s0] 94 (I, J, xrf) Q := by
  unfold f_X11_feed_1 at h
  refine Rn.fi 1 (c := s0 = 0) (p1 := 10) (l1 := [some (.ref 0), some (.int x1), some (.int x2), some (.int x3), some (.int x4), some (.int x5)]) (s1 := []) (n1 := 94) (M1 := (I, J, xrf)) (p2 := 12) (l2 := [some (.ref 0), some (.int x1), some (.int x2), some (.int x3), some (.int x4), some (.int x5)]) (s2 := []) (n2 := 94) (M2 := (I, J, xrf)) (fun f => rfl) (fun hc => ?_) (fun hc => ?_)
  · rw [if_pos hc] at h
    exact p_X11_feed_2 x1 x2 x3 x4 x5 I J h hC
  · rw [if_neg hc] at h
    exact p_X11_feed_3 x1 x2 x3 x4 x5 I J h hC
theorem p_X11_feed_0 {L : Nat} {xs : Nat → Int32} {d : Nat} {Q : xO → Prop} (x1 : Int32) (x2 : Int32) (x3 : Int32) (x4 : Int32) (x5 : Int32) (I : xI) (J : xJ) {t : Int32 × xI × xJ} (h : f_X11_feed_0 x1 x2 x3 x4 x5 I J = some t) (hC : (c_X11_feed Q) t) : Rn L xs (d + 2) 138 0 [some (.ref 0), some (.int x1), some (.int x2), some (.int x3), some (.int x4), some (.int x5)] [] 94 (I, J, xrf) Q := by
  unfold f_X11_feed_0 at h
  refine Rn.go 2 (j' := 138) (pc' := 4) (ls' := [some (.ref 0), some (.int x1), some (.int x2), some (.int x3), some (.int x4), some (.int x5)]) (st' := [.ref 24]) (n' := 94) (M' := (I, J, xrf)) (fun f => rfl) ?_
  obtain ⟨o, ho, h⟩ := Option.bind_eq_some_iff.mp h
  refine Rn.call (d1 := d + 1) (j1 := 118) (ls1 := [some (.ref 24)]) (rest := []) (fun f => rfl) ?_
  refine p_X9_hasRoom (d := d + 0) I J (t := o) ho ?_
  exact p_X11_feed_1 x1 x2 x3 x4 x5 o.1 o.2.1 o.2.2 h hC
theorem p_X11_feed {L : Nat} {xs : Nat → Int32} {d : Nat} {Q : xO → Prop} (x1 : Int32) (x2 : Int32) (x3 : Int32) (x4 : Int32) (x5 : Int32) (I : xI) (J : xJ) {t : Int32 × xI × xJ} (h : f_X11_feed x1 x2 x3 x4 x5 I J = some t) (hC : Q ((some (.int t.1)), 94, (t.2.1, t.2.2, xrf))) : Rn L xs (d + 2) 138 0 [some (.ref 0), some (.int x1), some (.int x2), some (.int x3), some (.int x4), some (.int x5)] [] 94 (I, J, xrf) Q := p_X11_feed_0 x1 x2 x3 x4 x5 I J h hC
/-! X11_back -/
def c_X11_back (Q : xO → Prop) (t : Int32 × xI × xJ) : Prop := Q ((some (.int t.1)), 94, (t.2.1, t.2.2, xrf))
def f_X11_back_2 (x1 : Int32) (I : xI) (J : xJ) : Option (Int32 × xI × xJ) := some ((-1), I, J)
def f_X11_back_3 (x1 : Int32) (I : xI) (J : xJ) : Option (Int32 × xI × xJ) := some ((((xup I 24 1 (((I 24 1) - x1)))) 24 1), (xup I 24 1 (((I 24 1) - x1))), J)
def f_X11_back_1 (x1 : Int32) (I : xI) (J : xJ) : Option (Int32 × xI × xJ) := if x1 ≤ (I 24 1) then f_X11_back_3 x1 I J else f_X11_back_2 x1 I J
def f_X11_back_0 (x1 : Int32) (I : xI) (J : xJ) : Option (Int32 × xI × xJ) := if x1 < 0 then f_X11_back_2 x1 I J else f_X11_back_1 x1 I J
def f_X11_back (x1 : Int32) (I : xI) (J : xJ) : Option (Int32 × xI × xJ) := f_X11_back_0 x1 I J
theorem p_X11_back_2 {L : Nat} {xs : Nat → Int32} {d : Nat} {Q : xO → Prop} (x1 : Int32) (I : xI) (J : xJ) {t : Int32 × xI × xJ} (h : f_X11_back_2 x1 I J = some t) (hC : (c_X11_back Q) t) : Rn L xs (d + 1) 139 15 [some (.ref 0), some (.int x1)] [] 94 (I, J, xrf) Q := by
  unfold f_X11_back_2 at h
  cases h
  exact Rn.ret 2 (o := ((some (.int ((-1)))), 94, (I, J, xrf))) (fun f => rfl) hC
theorem p_X11_back_3 {L : Nat} {xs : Nat → Int32} {d : Nat} {Q : xO → Prop} (x1 : Int32) (I : xI) (J : xJ) {t : Int32 × xI × xJ} (h : f_X11_back_3 x1 I J = some t) (hC : (c_X11_back Q) t) : Rn L xs (d + 1) 139 17 [some (.ref 0), some (.int x1)] [] 94 (I, J, xrf) Q := by
  unfold f_X11_back_3 at h
  cases h
  exact Rn.ret 11 (o := ((some (.int ((((xup I 24 1 (((I 24 1) - x1)))) 24 1)))), 94, ((xup I 24 1 (((I 24 1) - x1))), J, xrf))) (fun f => rfl) hC
theorem p_X11_back_1 {L : Nat} {xs : Nat → Int32} {d : Nat} {Q : xO → Prop} (x1 : Int32) (I : xI) (J : xJ) {t : Int32 × xI × xJ} (h : f_X11_back_1 x1 I J = some t) (hC : (c_X11_back Q) t) : Rn L xs (d + 1) 139 4 [some (.ref 0), some (.int x1)] [] 94 (I, J, xrf) Q := by
  unfold f_X11_back_1 at h
  refine Rn.fi 5 (c := x1 ≤ (I 24 1)) (p1 := 17) (l1 := [some (.ref 0), some (.int x1)]) (s1 := []) (n1 := 94) (M1 := (I, J, xrf)) (p2 := 15) (l2 := [some (.ref 0), some (.int x1)]) (s2 := []) (n2 := 94) (M2 := (I, J, xrf)) (fun f => rfl) (fun hc => ?_) (fun hc => ?_)
  · rw [if_pos hc] at h
    exact p_X11_back_3 x1 I J h hC
  · rw [if_neg hc] at h
    exact p_X11_back_2 x1 I J h hC
theorem p_X11_back_0 {L : Nat} {xs : Nat → Int32} {d : Nat} {Q : xO → Prop} (x1 : Int32) (I : xI) (J : xJ) {t : Int32 × xI × xJ} (h : f_X11_back_0 x1 I J = some t) (hC : (c_X11_back Q) t) : Rn L xs (d + 1) 139 0 [some (.ref 0), some (.int x1)] [] 94 (I, J, xrf) Q := by
  unfold f_X11_back_0 at h
  refine Rn.fi 2 (c := x1 < 0) (p1 := 15) (l1 := [some (.ref 0), some (.int x1)]) (s1 := []) (n1 := 94) (M1 := (I, J, xrf)) (p2 := 4) (l2 := [some (.ref 0), some (.int x1)]) (s2 := []) (n2 := 94) (M2 := (I, J, xrf)) (fun f => rfl) (fun hc => ?_) (fun hc => ?_)
  · rw [if_pos hc] at h
    exact p_X11_back_2 x1 I J h hC
  · rw [if_neg hc] at h
    exact p_X11_back_1 x1 I J h hC
theorem p_X11_back {L : Nat} {xs : Nat → Int32} {d : Nat} {Q : xO → Prop} (x1 : Int32) (I : xI) (J : xJ) {t : Int32 × xI × xJ} (h : f_X11_back x1 I J = some t) (hC : Q ((some (.int t.1)), 94, (t.2.1, t.2.2, xrf))) : Rn L xs (d + 1) 139 0 [some (.ref 0), some (.int x1)] [] 94 (I, J, xrf) Q := p_X11_back_0 x1 I J h hC
/-! X9_byteAt -/
def c_X9_byteAt (Q : xO → Prop) (t : Int32 × xI × xJ) : Prop := Q ((some (.int t.1)), 94, (t.2.1, t.2.2, xrf))
def f_X9_byteAt_5 (x1 : Int32) (s0 : Int32) (I : xI) (J : xJ) : Option (Int32 × xI × xJ) := some (s0, I, J)
def f_X9_byteAt_4 (x1 : Int32) (I : xI) (J : xJ) : Option (Int32 × xI × xJ) := f_X9_byteAt_5 x1 0 I J
def f_X9_byteAt_3 (x1 : Int32) (I : xI) (J : xJ) : Option (Int32 × xI × xJ) := if x1 < 0 ∨ 2000 ≤ x1.toNatClampNeg then none else f_X9_byteAt_5 x1 ((I 25 x1.toNatClampNeg)) I J
def f_X9_byteAt_2 (x1 : Int32) (I : xI) (J : xJ) : Option (Int32 × xI × xJ) := if 2000 ≤ x1 then f_X9_byteAt_4 x1 I J else f_X9_byteAt_3 x1 I J
def f_X9_byteAt_1 (x1 : Int32) (I : xI) (J : xJ) : Option (Int32 × xI × xJ) := if (I 24 1) ≤ x1 then f_X9_byteAt_4 x1 I J else f_X9_byteAt_2 x1 I J
def f_X9_byteAt_0 (x1 : Int32) (I : xI) (J : xJ) : Option (Int32 × xI × xJ) := if x1 < 0 then f_X9_byteAt_4 x1 I J else f_X9_byteAt_1 x1 I J
def f_X9_byteAt (x1 : Int32) (I : xI) (J : xJ) : Option (Int32 × xI × xJ) := f_X9_byteAt_0 x1 I J
theorem p_X9_byteAt_5 {L : Nat} {xs : Nat → Int32} {d : Nat} {Q : xO → Prop} (x1 : Int32) (s0 : Int32) (I : xI) (J : xJ) {t : Int32 × xI × xJ} (h : f_X9_byteAt_5 x1 s0 I J = some t) (hC : (c_X9_byteAt Q) t) : Rn L xs (d + 1) 120 29 [some (.ref 24), some (.int x1)] [.int s0] 94 (I, J, xrf) Q := by
  unfold f_X9_byteAt_5 at h
  cases h
  exact Rn.ret 1 (o := ((some (.int s0)), 94, (I, J, xrf))) (fun f => rfl) hC
theorem p_X9_byteAt_4 {L : Nat} {xs : Nat → Int32} {d : Nat} {Q : xO → Prop} (x1 : Int32) (I : xI) (J : xJ) {t : Int32 × xI × xJ} (h : f_X9_byteAt_4 x1 I J = some t) (hC : (c_X9_byteAt Q) t) : Rn L xs (d + 1) 120 28 [some (.ref 24), some (.int x1)] [] 94 (I, J, xrf) Q := by
  unfold f_X9_byteAt_4 at h
  refine Rn.go 1 (j' := 120) (pc' := 29) (ls' := [some (.ref 24), some (.int x1)]) (st' := [.int 0]) (n' := 94) (M' := (I, J, xrf)) (fun f => rfl) ?_
  exact p_X9_byteAt_5 x1 0 I J h hC
theorem p_X9_byteAt_3 {L : Nat} {xs : Nat → Int32} {d : Nat} {Q : xO → Prop} (x1 : Int32) (I : xI) (J : xJ) {t : Int32 × xI × xJ} (h : f_X9_byteAt_3 x1 I J = some t) (hC : (c_X9_byteAt Q) t) : Rn L xs (d + 1) 120 19 [some (.ref 24), some (.int x1)] [] 94 (I, J, xrf) Q := by
  unfold f_X9_byteAt_3 at h
  obtain ⟨hc, h⟩ := xif h
  refine Rn.ok 4 (c := x1 < 0 ∨ 2000 ≤ x1.toNatClampNeg) (p1 := 25) (l1 := [some (.ref 24), some (.int x1)]) (s1 := [.int ((I 25 x1.toNatClampNeg))]) (n1 := 94) (M1 := (I, J, xrf)) (fun f => rfl) hc ?_
  refine Rn.go 1 (j' := 120) (pc' := 29) (ls' := [some (.ref 24), some (.int x1)]) (st' := [.int ((I 25 x1.toNatClampNeg))]) (n' := 94) (M' := (I, J, xrf)) (fun f => rfl) ?_
  exact p_X9_byteAt_5 x1 ((I 25 x1.toNatClampNeg)) I J h hC
theorem p_X9_byteAt_2 {L : Nat} {xs : Nat → Int32} {d : Nat} {Q : xO → Prop} (x1 : Int32) (I : xI) (J : xJ) {t : Int32 × xI × xJ} (h : f_X9_byteAt_2 x1 I J = some t) (hC : (c_X9_byteAt Q) t) : Rn L xs (d + 1) 120 12 [some (.ref 24), some (.int x1)] [] 94 (I, J, xrf) Q := by
  unfold f_X9_byteAt_2 at h
  refine Rn.fi 3 (c := 2000 ≤ x1) (p1 := 28) (l1 := [some (.ref 24), some (.int x1)]) (s1 := []) (n1 := 94) (M1 := (I, J, xrf)) (p2 := 19) (l2 := [some (.ref 24), some (.int x1)]) (s2 := []) (n2 := 94) (M2 := (I, J, xrf)) (fun f => rfl) (fun hc => ?_) (fun hc => ?_)
  · rw [if_pos hc] at h
    exact p_X9_byteAt_4 x1 I J h hC
  · rw [if_neg hc] at h
    exact p_X9_byteAt_3 x1 I J h hC
theorem p_X9_byteAt_1 {L : Nat} {xs : Nat → Int32} {d : Nat} {Q : xO → Prop} (x1 : Int32) (I : xI) (J : xJ) {t : Int32 × xI × xJ} (h : f_X9_byteAt_1 x1 I J = some t) (hC : (c_X9_byteAt Q) t) : Rn L xs (d + 1) 120 4 [some (.ref 24), some (.int x1)] [] 94 (I, J, xrf) Q := by
  unfold f_X9_byteAt_1 at h
  refine Rn.fi 4 (c := (I 24 1) ≤ x1) (p1 := 28) (l1 := [some (.ref 24), some (.int x1)]) (s1 := []) (n1 := 94) (M1 := (I, J, xrf)) (p2 := 12) (l2 := [some (.ref 24), some (.int x1)]) (s2 := []) (n2 := 94) (M2 := (I, J, xrf)) (fun f => rfl) (fun hc => ?_) (fun hc => ?_)
  · rw [if_pos hc] at h
    exact p_X9_byteAt_4 x1 I J h hC
  · rw [if_neg hc] at h
    exact p_X9_byteAt_2 x1 I J h hC
theorem p_X9_byteAt_0 {L : Nat} {xs : Nat → Int32} {d : Nat} {Q : xO → Prop} (x1 : Int32) (I : xI) (J : xJ) {t : Int32 × xI × xJ} (h : f_X9_byteAt_0 x1 I J = some t) (hC : (c_X9_byteAt Q) t) : Rn L xs (d + 1) 120 0 [some (.ref 24), some (.int x1)] [] 94 (I, J, xrf) Q := by
  unfold f_X9_byteAt_0 at h
  refine Rn.fi 2 (c := x1 < 0) (p1 := 28) (l1 := [some (.ref 24), some (.int x1)]) (s1 := []) (n1 := 94) (M1 := (I, J, xrf)) (p2 := 4) (l2 := [some (.ref 24), some (.int x1)]) (s2 := []) (n2 := 94) (M2 := (I, J, xrf)) (fun f => rfl) (fun hc => ?_) (fun hc => ?_)
  · rw [if_pos hc] at h
    exact p_X9_byteAt_4 x1 I J h hC
  · rw [if_neg hc] at h
    exact p_X9_byteAt_1 x1 I J h hC
theorem p_X9_byteAt {L : Nat} {xs : Nat → Int32} {d : Nat} {Q : xO → Prop} (x1 : Int32) (I : xI) (J : xJ) {t : Int32 × xI × xJ} (h : f_X9_byteAt x1 I J = some t) (hC : Q ((some (.int t.1)), 94, (t.2.1, t.2.2, xrf))) : Rn L xs (d + 1) 120 0 [some (.ref 24), some (.int x1)] [] 94 (I, J, xrf) Q := p_X9_byteAt_0 x1 I J h hC
/-! X9_isBlank -/
def c_X9_isBlank (Q : xO → Prop) (t : Int32 × xI × xJ) : Prop := Q ((some (.int t.1)), 94, (t.2.1, t.2.2, xrf))
def f_X9_isBlank_7 (x1 : Int32) (x2 : Int32) (s0 : Int32) (I : xI) (J : xJ) : Option (Int32 × xI × xJ) := if s0 = 0 ∨ s0 = 1 then some (s0, I, J) else none
def f_X9_isBlank_5 (x1 : Int32) (x2 : Int32) (I : xI) (J : xJ) : Option (Int32 × xI × xJ) := f_X9_isBlank_7 x1 x2 1 I J
def f_X9_isBlank_6 (x1 : Int32) (x2 : Int32) (I : xI) (J : xJ) : Option (Int32 × xI × xJ) := f_X9_isBlank_7 x1 x2 0 I J
def f_X9_isBlank_4 (x1 : Int32) (x2 : Int32) (I : xI) (J : xJ) : Option (Int32 × xI × xJ) := if x2 = 32 then f_X9_isBlank_5 x1 x2 I J else f_X9_isBlank_6 x1 x2 I J
def f_X9_isBlank_3 (x1 : Int32) (x2 : Int32) (I : xI) (J : xJ) : Option (Int32 × xI × xJ) := if x2 = 13 then f_X9_isBlank_5 x1 x2 I J else f_X9_isBlank_4 x1 x2 I J
def f_X9_isBlank_2 (x1 : Int32) (x2 : Int32) (I : xI) (J : xJ) : Option (Int32 × xI × xJ) := if x2 = 10 then f_X9_isBlank_5 x1 x2 I J else f_X9_isBlank_3 x1 x2 I J
def f_X9_isBlank_1 (x1 : Int32) (s0 : Int32) (I : xI) (J : xJ) : Option (Int32 × xI × xJ) := if s0 = 9 then f_X9_isBlank_5 x1 s0 I J else f_X9_isBlank_2 x1 s0 I J
def f_X9_isBlank_0 (x1 : Int32) (I : xI) (J : xJ) : Option (Int32 × xI × xJ) := (f_X9_byteAt x1 I J).bind fun o => f_X9_isBlank_1 x1 o.1 o.2.1 o.2.2
def f_X9_isBlank (x1 : Int32) (I : xI) (J : xJ) : Option (Int32 × xI × xJ) := f_X9_isBlank_0 x1 I J
theorem p_X9_isBlank_7 {L : Nat} {xs : Nat → Int32} {d : Nat} {Q : xO → Prop} (x1 : Int32) (x2 : Int32) (s0 : Int32) (I : xI) (J : xJ) {t : Int32 × xI × xJ} (h : f_X9_isBlank_7 x1 x2 s0 I J = some t) (hC : (c_X9_isBlank Q) t) : Rn L xs (d + 2) 123 35 [some (.ref 24), some (.int x1), some (.int x2)] [.int s0] 94 (I, J, xrf) Q := by
  unfold f_X9_isBlank_7 at h
  obtain ⟨hc, h⟩ := xifT h
  cases h
  exact Rn.retT 1 (c := s0 = 0 ∨ s0 = 1) (o := ((some (.int s0)), 94, (I, J, xrf))) (fun f => rfl) hc hC
theorem p_X9_isBlank_5 {L : Nat} {xs : Nat → Int32} {d : Nat} {Q : xO → Prop} (x1 : Int32) (x2 : Int32) (I : xI) (J : xJ) {t : Int32 × xI × xJ} (h : f_X9_isBlank_5 x1 x2 I J = some t) (hC : (c_X9_isBlank Q) t) : Rn L xs (d + 2) 123 30 [some (.ref 24), some (.int x1), some (.int x2)] [] 94 (I, J, xrf) Q := by
  unfold f_X9_isBlank_5 at h
  refine Rn.go 2 (j' := 123) (pc' := 35) (ls' := [some (.ref 24), some (.int x1), some (.int x2)]) (st' := [.int 1]) (n' := 94) (M' := (I, J, xrf)) (fun f => rfl) ?_
  exact p_X9_isBlank_7 x1 x2 1 I J h hC
theorem p_X9_isBlank_6 {L : Nat} {xs : Nat → Int32} {d : Nat} {Q : xO → Prop} (x1 : Int32) (x2 : Int32) (I : xI) (J : xJ) {t : Int32 × xI × xJ} (h : f_X9_isBlank_6 x1 x2 I J = some t) (hC : (c_X9_isBlank Q) t) : Rn L xs (d + 2) 123 34 [some (.ref 24), some (.int x1), some (.int x2)] [] 94 (I, J, xrf) Q := by
  unfold f_X9_isBlank_6 at h
  refine Rn.go 1 (j' := 123) (pc' := 35) (ls' := [some (.ref 24), some (.int x1), some (.int x2)]) (st' := [.int 0]) (n' := 94) (M' := (I, J, xrf)) (fun f => rfl) ?_
  exact p_X9_isBlank_7 x1 x2 0 I J h hC
theorem p_X9_isBlank_4 {L : Nat} {xs : Nat → Int32} {d : Nat} {Q : xO → Prop} (x1 : Int32) (x2 : Int32) (I : xI) (J : xJ) {t : Int32 × xI × xJ} (h : f_X9_isBlank_4 x1 x2 I J = some t) (hC : (c_X9_isBlank Q) t) : Rn L xs (d + 2) 123 24 [some (.ref 24), some (.int x1), some (.int x2)] [] 94 (I, J, xrf) Q := by
  unfold f_X9_isBlank_4 at h
  refine Rn.fi 3 (c := x2 = 32) (p1 := 30) (l1 := [some (.ref 24), some (.int x1), some (.int x2)]) (s1 := []) (n1 := 94) (M1 := (I, J, xrf)) (p2 := 34) (l2 := [some (.ref 24), some (.int x1), some (.int x2)]) (s2 := []) (n2 := 94) (M2 := (I, J, xrf)) (fun f => rfl) (fun hc => ?_) (fun hc => ?_)
  · rw [if_pos hc] at h
    exact p_X9_isBlank_5 x1 x2 I J h hC
  · rw [if_neg hc] at h
    exact p_X9_isBlank_6 x1 x2 I J h hC
theorem p_X9_isBlank_3 {L : Nat} {xs : Nat → Int32} {d : Nat} {Q : xO → Prop} (x1 : Int32) (x2 : Int32) (I : xI) (J : xJ) {t : Int32 × xI × xJ} (h : f_X9_isBlank_3 x1 x2 I J = some t) (hC : (c_X9_isBlank Q) t) : Rn L xs (d + 2) 123 18 [some (.ref 24), some (.int x1), some (.int x2)] [] 94 (I, J, xrf) Q := by
  unfold f_X9_isBlank_3 at h
  refine Rn.fi 3 (c := x2 = 13) (p1 := 30) (l1 := [some (.ref 24), some (.int x1), some (.int x2)]) (s1 := []) (n1 := 94) (M1 := (I, J, xrf)) (p2 := 24) (l2 := [some (.ref 24), some (.int x1), some (.int x2)]) (s2 := []) (n2 := 94) (M2 := (I, J, xrf)) (fun f => rfl) (fun hc => ?_) (fun hc => ?_)
  · rw [if_pos hc] at h
    exact p_X9_isBlank_5 x1 x2 I J h hC
  · rw [if_neg hc] at h
    exact p_X9_isBlank_4 x1 x2 I J h hC
theorem p_X9_isBlank_2 {L : Nat} {xs : Nat → Int32} {d : Nat} {Q : xO → Prop} (x1 : Int32) (x2 : Int32) (I : xI) (J : xJ) {t : Int32 × xI × xJ} (h : f_X9_isBlank_2 x1 x2 I J = some t) (hC : (c_X9_isBlank Q) t) : Rn L xs (d + 2) 123 12 [some (.ref 24), some (.int x1), some (.int x2)] [] 94 (I, J, xrf) Q := by
  unfold f_X9_isBlank_2 at h
  refine Rn.fi 3 (c := x2 = 10) (p1 := 30) (l1 := [some (.ref 24), some (.int x1), some (.int x2)]) (s1 := []) (n1 := 94) (M1 := (I, J, xrf)) (p2 := 18) (l2 := [some (.ref 24), some (.int x1), some (.int x2)]) (s2 := []) (n2 := 94) (M2 := (I, J, xrf)) (fun f => rfl) (fun hc => ?_) (fun hc => ?_)
  · rw [if_pos hc] at h
    exact p_X9_isBlank_5 x1 x2 I J h hC
  · rw [if_neg hc] at h
    exact p_X9_isBlank_3 x1 x2 I J h hC
theorem p_X9_isBlank_1 {L : Nat} {xs : Nat → Int32} {d : Nat} {Q : xO → Prop} (x1 : Int32) (s0 : Int32) (I : xI) (J : xJ) {t : Int32 × xI × xJ} (h : f_X9_isBlank_1 x1 s0 I J = some t) (hC : (c_X9_isBlank Q) t) : Rn L xs (d + 2) 123 5 [some (.ref 24), some (.int x1), none] [.int s0] 94 (I, J, xrf) Q := by
  unfold f_X9_isBlank_1 at h
  refine Rn.fi 4 (c := s0 = 9) (p1 := 30) (l1 := [some (.ref 24), some (.int x1), some (.int s0)]) (s1 := []) (n1 := 94) (M1 := (I, J, xrf)) (p2 := 12) (l2 := [some (.ref 24), some (.int x1), some (.int s0)]) (s2 := []) (n2 := 94) (M2 := (I, J, xrf)) (fun f => rfl) (fun hc => ?_) (fun hc => ?_)
  · rw [if_pos hc] at h
    exact p_X9_isBlank_5 x1 s0 I J h hC
  · rw [if_neg hc] at h
    exact p_X9_isBlank_2 x1 s0 I J h hC
theorem p_X9_isBlank_0 {L : Nat} {xs : Nat → Int32} {d : Nat} {Q : xO → Prop} (x1 : Int32) (I : xI) (J : xJ) {t : Int32 × xI × xJ} (h : f_X9_isBlank_0 x1 I J = some t) (hC : (c_X9_isBlank Q) t) : Rn L xs (d + 2) 123 0 [some (.ref 24), some (.int x1), none] [] 94 (I, J, xrf) Q := by
  unfold f_X9_isBlank_0 at h
  refine Rn.go 2 (j' := 123) (pc' := 2) (ls' := [some (.ref 24), some (.int x1), none]) (st' := [.int x1, .ref 24]) (n' := 94) (M' := (I, J, xrf)) (fun f => rfl) ?_
  obtain ⟨o, ho, h⟩ := Option.bind_eq_some_iff.mp h
  refine Rn.call (d1 := d + 1) (j1 := 120) (ls1 := [some (.ref 24), some (.int x1)]) (rest := []) (fun f => rfl) ?_
  refine p_X9_byteAt (d := d + 0) x1 I J (t := o) ho ?_
  exact p_X9_isBlank_1 x1 o.1 o.2.1 o.2.2 h hC
theorem p_X9_isBlank {L : Nat} {xs : Nat → Int32} {d : Nat} {Q : xO → Prop} (x1 : Int32) (I : xI) (J : xJ) {t : Int32 × xI × xJ} (h : f_X9_isBlank x1 I J = some t) (hC : Q ((some (.int t.1)), 94, (t.2.1, t.2.2, xrf))) : Rn L xs (d + 2) 123 0 [some (.ref 24), some (.int x1), none] [] 94 (I, J, xrf) Q := p_X9_isBlank_0 x1 I J h hC
/-! X9_skipBlanks -/
def c_X9_skipBlanks (Q : xO → Prop) (t : Int32 × xI × xJ) : Prop := Q ((some (.int t.1)), 94, (t.2.1, t.2.2, xrf))
def c_X9_skipBlanks_1 (L : Nat) (xs : Nat → Int32) (d : Nat) (Q : xO → Prop) (t : (Int32 × Int32 × xI × xJ) ⊕ (Int32 × xI × xJ)) : Prop := match t with
  | .inl s => Rn L xs (d + 3) 124 2 [some (.ref 24), some (.int s.1), some (.int s.2.1)] [] 94 (s.2.2.1, s.2.2.2, xrf) Q
  | .inr t => (c_X9_skipBlanks Q) t
def f_X9_skipBlanks_5 (x1 : Int32) (x2 : Int32) (I : xI) (J : xJ) : Option (Int32 × xI × xJ) := some (x2, I, J)
def f_X9_skipBlanks_4 (x1 : Int32) (x2 : Int32) (I : xI) (J : xJ) : Option ((Int32 × Int32 × xI × xJ) ⊕ (Int32 × xI × xJ)) := some (.inl (x1, ((x2 + 1)), I, J))
def f_X9_skipBlanks_3 (x1 : Int32) (x2 : Int32) (s0 : Int32) (I : xI) (J : xJ) : Option ((Int32 × Int32 × xI × xJ) ⊕ (Int32 × xI × xJ)) := if s0 = 0 then ((f_X9_skipBlanks_5 x1 x2 I J)).map .inr else f_X9_skipBlanks_4 x1 x2 I J
def f_X9_skipBlanks_2 (x1 : Int32) (x2 : Int32) (I : xI) (J : xJ) : Option ((Int32 × Int32 × xI × xJ) ⊕ (Int32 × xI × xJ)) := (f_X9_isBlank x2 I J).bind fun o => f_X9_skipBlanks_3 x1 x2 o.1 o.2.1 o.2.2
def b_X9_skipBlanks_1 (x1 : Int32) (x2 : Int32) (I : xI) (J : xJ) : Option ((Int32 × Int32 × xI × xJ) ⊕ (Int32 × xI × xJ)) := if (I 24 1) ≤ x2 then ((f_X9_skipBlanks_5 x1 x2 I J)).map .inr else f_X9_skipBlanks_2 x1 x2 I J
def f_X9_skipBlanks_1 (x1 : Int32) (x2 : Int32) (I : xI) (J : xJ) : Option (Int32 × xI × xJ) := xloop (fun s : Int32 × Int32 × xI × xJ => b_X9_skipBlanks_1 s.1 s.2.1 s.2.2.1 s.2.2.2) 5000 (x1, x2, I, J)
def f_X9_skipBlanks_0 (x1 : Int32) (I : xI) (J : xJ) : Option (Int32 × xI × xJ) := f_X9_skipBlanks_1 x1 x1 I J
def f_X9_skipBlanks (x1 : Int32) (I : xI) (J : xJ) : Option (Int32 × xI × xJ) := f_X9_skipBlanks_0 x1 I J
theorem p_X9_skipBlanks_5 {L : Nat} {xs : Nat → Int32} {d : Nat} {Q : xO → Prop} (x1 : Int32) (x2 : Int32) (I : xI) (J : xJ) {t : Int32 × xI × xJ} (h : f_X9_skipBlanks_5 x1 x2 I J = some t) (hC : (c_X9_skipBlanks Q) t) : Rn L xs (d + 3) 124 24 [some (.ref 24), some (.int x1), some (.int x2)] [] 94 (I, J, xrf) Q := by
  unfold f_X9_skipBlanks_5 at h
  cases h
  exact Rn.ret 2 (o := ((some (.int x2)), 94, (I, J, xrf))) (fun f => rfl) hC
theorem p_X9_skipBlanks_4 {L : Nat} {xs : Nat → Int32} {d : Nat} {Q : xO → Prop} (x1 : Int32) (x2 : Int32) (I : xI) (J : xJ) {t : (Int32 × Int32 × xI × xJ) ⊕ (Int32 × xI × xJ)} (h : f_X9_skipBlanks_4 x1 x2 I J = some t) (hC : (c_X9_skipBlanks_1 L xs d Q) t) : Rn L xs (d + 3) 124 18 [some (.ref 24), some (.int x1), some (.int x2)] [] 94 (I, J, xrf) Q := by
  unfold f_X9_skipBlanks_4 at h
  refine Rn.go 2 (j' := 124) (pc' := 2) (ls' := [some (.ref 24), some (.int x1), some (.int ((x2 + 1)))]) (st' := []) (n' := 94) (M' := (I, J, xrf)) (fun f => rfl) ?_
  cases h; exact hC
theorem p_X9_skipBlanks_3 {L : Nat} {xs : Nat → Int32} {d : Nat} {Q : xO → Prop} (x1 : Int32) (x2 : Int32) (s0 : Int32) (I : xI) (J : xJ) {t : (Int32 × Int32 × xI × xJ) ⊕ (Int32 × xI × xJ)} (h : f_X9_skipBlanks_3 x1 x2 s0 I J = some t) (hC : (c_X9_skipBlanks_1 L xs d Q) t) : Rn L xs (d + 3) 124 15 [some (.ref 24), some (.int x1), some (.int x2)] [.int s0] 94 (I, J, xrf) Q := by
  unfold f_X9_skipBlanks_3 at h
  refine Rn.fi 1 (c := s0 = 0) (p1 := 24) (l1 := [some (.ref 24), some (.int x1), some (.int x2)]) (s1 := []) (n1 := 94) (M1 := (I, J, xrf)) (p2 := 18) (l2 := [some (.ref 24), some (.int x1), some (.int x2)]) (s2 := []) (n2 := 94) (M2 := (I, J, xrf)) (fun f => rfl) (fun hc => ?_) (fun hc => ?_)
  · rw [if_pos hc] at h
    obtain ⟨t0, h0, rfl⟩ := Option.map_eq_some_iff.mp h
    exact p_X9_skipBlanks_5 x1 x2 I J h0 hC
  · rw [if_neg hc] at h
    exact p_X9_skipBlanks_4 x1 x2 I J h hC
theorem p_X9_skipBlanks_2 {L : Nat} {xs : Nat → Int32} {d : Nat} {Q : xO → Prop} (x1 : Int32) (x2 : Int32) (I : xI) (J : xJ) {t : (Int32 × Int32 × xI × xJ) ⊕ (Int32 × xI × xJ)} (h : f_X9_skipBlanks_2 x1 x2 I J = some t) (hC : (c_X9_skipBlanks_1 L xs d Q) t) : Rn L xs (d + 3) 124 10 [some (.ref 24), some (.int x1), some (.int x2)] [] 94 (I, J, xrf) Q := by
  unfold f_X9_skipBlanks_2 at h
  refine Rn.go 2 (j' := 124) (pc' := 12) (ls' := [some (.ref 24), some (.int x1), some (.int x2)]) (st' := [.int x2, .ref 24]) (n' := 94) (M' := (I, J, xrf)) (fun f => rfl) ?_
  obtain ⟨o, ho, h⟩ := Option.bind_eq_some_iff.mp h
  refine Rn.call (d1 := d + 2) (j1 := 123) (ls1 := [some (.ref 24), some (.int x2), none]) (rest := []) (fun f => rfl) ?_
  refine p_X9_isBlank (d := d + 0) x2 I J (t := o) ho ?_
  exact p_X9_skipBlanks_3 x1 x2 o.1 o.2.1 o.2.2 h hC
theorem q_X9_skipBlanks_1 {L : Nat} {xs : Nat → Int32} {d : Nat} {Q : xO → Prop} (x1 : Int32) (x2 : Int32) (I : xI) (J : xJ) {t : (Int32 × Int32 × xI × xJ) ⊕ (Int32 × xI × xJ)} (h : b_X9_skipBlanks_1 x1 x2 I J = some t) (hC : (c_X9_skipBlanks_1 L xs d Q) t) : Rn L xs (d + 3) 124 2 [some (.ref 24), some (.int x1), some (.int x2)] [] 94 (I, J, xrf) Q := by
  unfold b_X9_skipBlanks_1 at h
  refine Rn.fi 4 (c := (I 24 1) ≤ x2) (p1 := 24) (l1 := [some (.ref 24), some (.int x1), some (.int x2)]) (s1 := []) (n1 := 94) (M1 := (I, J, xrf)) (p2 := 10) (l2 := [some (.ref 24), some (.int x1), some (.int x2)]) (s2 := []) (n2 := 94) (M2 := (I, J, xrf)) (fun f => rfl) (fun hc => ?_) (fun hc => ?_)
  · rw [if_pos hc] at h
    obtain ⟨t0, h0, rfl⟩ := Option.map_eq_some_iff.mp h
    exact p_X9_skipBlanks_5 x1 x2 I J h0 hC
  · rw [if_neg hc] at h
    exact p_X9_skipBlanks_2 x1 x2 I J h hC
theorem p_X9_skipBlanks_1 {L : Nat} {xs : Nat → Int32} {d : Nat} {Q : xO → Prop} (x1 : Int32) (x2 : Int32) (I : xI) (J : xJ) {t : Int32 × xI × xJ} (h : f_X9_skipBlanks_1 x1 x2 I J = some t) (hC : (c_X9_skipBlanks Q) t) : Rn L xs (d + 3) 124 2 [some (.ref 24), some (.int x1), some (.int x2)] [] 94 (I, J, xrf) Q := by
  unfold f_X9_skipBlanks_1 at h
  exact xloop_some (P := fun s : Int32 × Int32 × xI × xJ => Rn L xs (d + 3) 124 2 [some (.ref 24), some (.int s.1), some (.int s.2.1)] [] 94 (s.2.2.1, s.2.2.2, xrf) Q) t (fun s ⟨s', hb, hp⟩ => q_X9_skipBlanks_1 s.1 s.2.1 s.2.2.1 s.2.2.2 hb hp) (fun s hb => q_X9_skipBlanks_1 s.1 s.2.1 s.2.2.1 s.2.2.2 hb hC) _ _ h
theorem p_X9_skipBlanks_0 {L : Nat} {xs : Nat → Int32} {d : Nat} {Q : xO → Prop} (x1 : Int32) (I : xI) (J : xJ) {t : Int32 × xI × xJ} (h : f_X9_skipBlanks_0 x1 I J = some t) (hC : (c_X9_skipBlanks Q) t) : Rn L xs (d + 3) 124 0 [some (.ref 24), some (.int x1), none] [] 94 (I, J, xrf) Q := by
  unfold f_X9_skipBlanks_0 at h
  refine Rn.go 2 (j' := 124) (pc' := 2) (ls' := [some (.ref 24), some (.int x1), some (.int x1)]) (st' := []) (n' := 94) (M' := (I, J, xrf)) (fun f => rfl) ?_
  exact p_X9_skipBlanks_1 x1 x1 I J h hC
theorem p_X9_skipBlanks {L : Nat} {xs : Nat → Int32} {d : Nat} {Q : xO → Prop} (x1 : Int32) (I : xI) (J : xJ) {t : Int32 × xI × xJ} (h : f_X9_skipBlanks x1 I J = some t) (hC : Q ((some (.int t.1)), 94, (t.2.1, t.2.2, xrf))) : Rn L xs (d + 3) 124 0 [some (.ref 24), some (.int x1), none] [] 94 (I, J, xrf) Q := p_X9_skipBlanks_0 x1 I J h hC
/-! X9_isLetter -/
def c_X9_isLetter (Q : xO → Prop) (t : Int32 × xI × xJ) : Prop := Q ((some (.int t.1)), 94, (t.2.1, t.2.2, xrf))
def f_X9_isLetter_6 (x1 : Int32) (s0 : Int32) (I : xI) (J : xJ) : Option (Int32 × xI × xJ) := if s0 = 0 ∨ s0 = 1 then some (s0, I, J) else none
def f_X9_isLetter_5 (x1 : Int32) (I : xI) (J : xJ) : Option (Int32 × xI × xJ) := f_X9_isLetter_6 x1 0 I J
def f_X9_isLetter_4 (x1 : Int32) (I : xI) (J : xJ) : Option (Int32 × xI × xJ) := f_X9_isLetter_6 x1 1 I J
def f_X9_isLetter_3 (x1 : Int32) (s0 : Int32) (I : xI) (J : xJ) : Option (Int32 × xI × xJ) := if 122 < s0 then f_X9_isLetter_5 x1 I J else f_X9_isLetter_4 x1 I J
def f_X9_isLetter_2 (x1 : Int32) (I : xI) (J : xJ) : Option (Int32 × xI × xJ) := (f_X9_byteAt x1 I J).bind fun o => f_X9_isLetter_3 x1 o.1 o.2.1 o.2.2
def f_X9_isLetter_1 (x1 : Int32) (s0 : Int32) (I : xI) (J : xJ) : Option (Int32 × xI × xJ) := if s0 < 97 then f_X9_isLetter_5 x1 I J else f_X9_isLetter_2 x1 I J
def f_X9_isLetter_0 (x1 : Int32) (I : xI) (J : xJ) : Option (Int32 × xI × xJ) := (f_X9_byteAt x1 I J).bind fun o => f_X9_isLetter_1 x1 o.1 o.2.1 o.2.2
def f_X9_isLetter (x1 : Int32) (I : xI) (J : xJ) : Option (Int32 × xI × xJ) := f_X9_isLetter_0 x1 I J
theorem p_X9_isLetter_6 {L : Nat} {xs : Nat → Int32} {d : Nat} {Q : xO → Prop} (x1 : Int32) (s0 : Int32) (I : xI) (J : xJ) {t : Int32 × xI × xJ} (h : f_X9_isLetter_6 x1 s0 I J = some t) (hC : (c_X9_isLetter Q) t) : Rn L xs (d + 2) 121 25 [some (.ref 24), some (.int x1)] [.int s0] 94 (I, J, xrf) Q := by
  unfold f_X9_isLetter_6 at h
  obtain ⟨hc, h⟩ := xifT h
  cases h
  exact Rn.retT 1 (c := s0 = 0 ∨ s0 = 1) (o := ((some (.int s0)), 94, (I, J, xrf))) (fun f => rfl) hc hC
theorem p_X9_isLetter_5 {L : Nat} {xs : Nat → Int32} {d : Nat} {Q : xO → Prop} (x1 : Int32) (I : xI) (J : xJ) {t : Int32 × xI × xJ} (h : f_X9_isLetter_5 x1 I J = some t) (hC : (c_X9_isLetter Q) t) : Rn L xs (d + 2) 121 24 [some (.ref 24), some (.int x1)] [] 94 (I, J, xrf) Q := by
  unfold f_X9_isLetter_5 at h
  refine Rn.go 1 (j' := 121) (pc' := 25) (ls' := [some (.ref 24), some (.int x1)]) (st' := [.int 0]) (n' := 94) (M' := (I, J, xrf)) (fun f => rfl) ?_
  exact p_X9_isLetter_6 x1 0 I J h hC
theorem p_X9_isLetter_4 {L : Nat} {xs : Nat → Int32} {d : Nat} {Q : xO → Prop} (x1 : Int32) (I : xI) (J : xJ) {t : Int32 × xI × xJ} (h : f_X9_isLetter_4 x1 I J = some t) (hC : (c_X9_isLetter Q) t) : Rn L xs (d + 2) 121 20 [some (.ref 24), some (.int x1)] [] 94 (I, J, xrf) Q := by
  unfold f_X9_isLetter_4 at h
  refine Rn.go 2 (j' := 121) (pc' := 25) (ls' := [some (.ref 24), some (.int x1)]) (st' := [.int 1]) (n' := 94) (M' := (I, J, xrf)) (fun f => rfl) ?_
  exact p_X9_isLetter_6 x1 1 I J h hC
theorem p_X9_isLetter_3 {L : Nat} {xs : Nat → Int32} {d : Nat} {Q : xO → Prop} (x1 : Int32) (s0 : Int32) (I : xI) (J : xJ) {t : Int32 × xI × xJ} (h : f_X9_isLetter_3 x1 s0 I J = some t) (hC : (c_X9_isLetter Q) t) : Rn L xs (d + 2) 121 15 [some (.ref 24), some (.int x1)] [.int s0] 94 (I, J, xrf) Q := by
  unfold f_X9_isLetter_3 at h
  refine Rn.fi 2 (c := 122 < s0) (p1 := 24) (l1 := [some (.ref 24), some (.int x1)]) (s1 := []) (n1 := 94) (M1 := (I, J, xrf)) (p2 := 20) (l2 := [some (.ref 24), some (.int x1)]) (s2 := []) (n2 := 94) (M2 := (I, J, xrf)) (fun f => rfl) (fun hc => ?_) (fun hc => ?_)
  · rw [if_pos hc] at h
    exact p_X9_isLetter_5 x1 I J h hC
  · rw [if_neg hc] at h
    exact p_X9_isLetter_4 x1 I J h hC
theorem p_X9_isLetter_2 {L : Nat} {xs : Nat → Int32} {d : Nat} {Q : xO → Prop} (x1 : Int32) (I : xI) (J : xJ) {t : Int32 × xI × xJ} (h : f_X9_isLetter_2 x1 I J = some t) (hC : (c_X9_isLetter Q) t) : Rn L xs (d + 2) 121 10 [some (.ref 24), some (.int x1)] [] 94 (I, J, xrf) Q := by
  unfold f_X9_isLetter_2 at h
  refine Rn.go 2 (j' := 121) (pc' := 12) (ls' := [some (.ref 24), some (.int x1)]) (st' := [.int x1, .ref 24]) (n' := 94) (M' := (I, J, xrf)) (fun f => rfl) ?_
  obtain ⟨o, ho, h⟩ := Option.bind_eq_some_iff.mp h
  refine Rn.call (d1 := d + 1) (j1 := 120) (ls1 := [some (.ref 24), some (.int x1)]) (rest := []) (fun f => rfl) ?_
  refine p_X9_byteAt (d := d + 0) x1 I J (t := o) ho ?_
  exact p_X9_isLetter_3 x1 o.1 o.2.1 o.2.2 h hC
theorem p_X9_isLetter_1 {L : Nat} {xs : Nat → Int32} {d : Nat} {Q : xO → Prop} (x1 : Int32) (s0 : Int32) (I : xI) (J : xJ) {t : Int32 × xI × xJ} (h : f_X9_isLetter_1 x1 s0 I J = some t) (hC : (c_X9_isLetter Q) t) : Rn L xs (d + 2) 121 5 [some (.ref 24), some (.int x1)] [.int s0] 94 (I, J, xrf) Q := by
  unfold f_X9_isLetter_1 at h
  refine Rn.fi 2 (c := s0 < 97) (p1 := 24) (l1 := [some (.ref 24), some (.int x1)]) (s1 := []) (n1 := 94) (M1 := (I, J, xrf)) (p2 := 10) (l2 := [some (.ref 24), some (.int x1)]) (s2 := []) (n2 := 94) (M2 := (I, J, xrf)) (fun f => rfl) (fun hc => ?_) (fun hc => ?_)
  · rw [if_pos hc] at h
    exact p_X9_isLetter_5 x1 I J h hC
  · rw [if_neg hc] at h
    exact p_X9_isLetter_2 x1 I J h hC
theorem p_X9_isLetter_0 {L : Nat} {xs : Nat → Int32} {d : Nat} {Q : xO → Prop} (x1 : Int32) (I : xI) (J : xJ) {t : Int32 × xI × xJ} (h : f_X9_isLetter_0 x1 I J = some t) (hC : (c_X9_isLetter Q) t) : Rn L xs (d + 2) 121 0 [some (.ref 24), some (.int x1)] [] 94 (I, J, xrf) Q := by
  unfold f_X9_isLetter_0 at h
  refine Rn.go 2 (j' := 121) (pc' := 2) (ls' := [some (.ref 24), some (.int x1)]) (st' := [.int x1, .ref 24]) (n' := 94) (M' := (I, J, xrf)) (fun f => rfl) ?_
  obtain ⟨o, ho, h⟩ := Option.bind_eq_some_iff.mp h
  refine Rn.call (d1 := d + 1) (j1 := 120) (ls1 := [some (.ref 24), some (.int x1)]) (rest := []) (fun f => rfl) ?_
  refine p_X9_byteAt (d := d + 0) x1 I J (t := o) ho ?_
  exact p_X9_isLetter_1 x1 o.1 o.2.1 o.2.2 h hC
theorem p_X9_isLetter {L : Nat} {xs : Nat → Int32} {d : Nat} {Q : xO → Prop} (x1 : Int32) (I : xI) (J : xJ) {t : Int32 × xI × xJ} (h : f_X9_isLetter x1 I J = some t) (hC : Q ((some (.int t.1)), 94, (t.2.1, t.2.2, xrf))) : Rn L xs (d + 2) 121 0 [some (.ref 24), some (.int x1)] [] 94 (I, J, xrf) Q := p_X9_isLetter_0 x1 I J h hC
/-! X9_isDigit -/
def c_X9_isDigit (Q : xO → Prop) (t : Int32 × xI × xJ) : Prop := Q ((some (.int t.1)), 94, (t.2.1, t.2.2, xrf))
def f_X9_isDigit_6 (x1 : Int32) (s0 : Int32) (I : xI) (J : xJ) : Option (Int32 × xI × xJ) := if s0 = 0 ∨ s0 = 1 then some (s0, I, J) else none
def f_X9_isDigit_5 (x1 : Int32) (I : xI) (J : xJ) : Option (Int32 × xI × xJ) := f_X9_isDigit_6 x1 0 I J
def f_X9_isDigit_4 (x1 : Int32) (I : xI) (J : xJ) : Option (Int32 × xI × xJ) := f_X9_isDigit_6 x1 1 I J
def f_X9_isDigit_3 (x1 : Int32) (s0 : Int32) (I : xI) (J : xJ) : Option (Int32 × xI × xJ) := if 57 < s0 then f_X9_isDigit_5 x1 I J else f_X9_isDigit_4 x1 I J
def f_X9_isDigit_2 (x1 : Int32) (I : xI) (J : xJ) : Option (Int32 × xI × xJ) := (f_X9_byteAt x1 I J).bind fun o => f_X9_isDigit_3 x1 o.1 o.2.1 o.2.2
def f_X9_isDigit_1 (x1 : Int32) (s0 : Int32) (I : xI) (J : xJ) : Option (Int32 × xI × xJ) := if s0 < 48 then f_X9_isDigit_5 x1 I J else f_X9_isDigit_2 x1 I J
def f_X9_isDigit_0 (x1 : Int32) (I : xI) (J : xJ) : Option (Int32 × xI × xJ) := (f_X9_byteAt x1 I J).bind fun o => f_X9_isDigit_1 x1 o.1 o.2.1 o.2.2
def f_X9_isDigit (x1 : Int32) (I : xI) (J : xJ) : Option (Int32 × xI × xJ) := f_X9_isDigit_0 x1 I J
theorem p_X9_isDigit_6 {L : Nat} {xs : Nat → Int32} {d : Nat} {Q : xO → Prop} (x1 : Int32) (s0 : Int32) (I : xI) (J : xJ) {t : Int32 × xI × xJ} (h : f_X9_isDigit_6 x1 s0 I J = some t) (hC : (c_X9_isDigit Q) t) : Rn L xs (d + 2) 122 25 [some (.ref 24), some (.int x1)] [.int s0] 94 (I, J, xrf) Q := by
  unfold f_X9_isDigit_6 at h
  obtain ⟨hc, h⟩ := xifT h
  cases h
  exact Rn.retT 1 (c := s0 = 0 ∨ s0 = 1) (o := ((some (.int s0)), 94, (I, J, xrf))) (fun f => rfl) hc hC
theorem p_X9_isDigit_5 {L : Nat} {xs : Nat → Int32} {d : Nat} {Q : xO → Prop} (x1 : Int32) (I : xI) (J : xJ) {t : Int32 × xI × xJ} (h : f_X9_isDigit_5 x1 I J = some t) (hC : (c_X9_isDigit Q) t) : Rn L xs (d + 2) 122 24 [some (.ref 24), some (.int x1)] [] 94 (I, J, xrf) Q := by
  unfold f_X9_isDigit_5 at h
  refine Rn.go 1 (j' := 122) (pc' := 25) (ls' := [some (.ref 24), some (.int x1)]) (st' := [.int 0]) (n' := 94) (M' := (I, J, xrf)) (fun f => rfl) ?_
  exact p_X9_isDigit_6 x1 0 I J h hC
theorem p_X9_isDigit_4 {L : Nat} {xs : Nat → Int32} {d : Nat} {Q : xO → Prop} (x1 : Int32) (I : xI) (J : xJ) {t : Int32 × xI × xJ} (h : f_X9_isDigit_4 x1 I J = some t) (hC : (c_X9_isDigit Q) t) : Rn L xs (d + 2) 122 20 [some (.ref 24), some (.int x1)] [] 94 (I, J, xrf) Q := by
  unfold f_X9_isDigit_4 at h
  refine Rn.go 2 (j' := 122) (pc' := 25) (ls' := [some (.ref 24), some (.int x1)]) (st' := [.int 1]) (n' := 94) (M' := (I, J, xrf)) (fun f => rfl) ?_
  exact p_X9_isDigit_6 x1 1 I J h hC
theorem p_X9_isDigit_3 {L : Nat} {xs : Nat → Int32} {d : Nat} {Q : xO → Prop} (x1 : Int32) (s0 : Int32) (I : xI) (J : xJ) {t : Int32 × xI × xJ} (h : f_X9_isDigit_3 x1 s0 I J = some t) (hC : (c_X9_isDigit Q) t) : Rn L xs (d + 2) 122 15 [some (.ref 24), some (.int x1)] [.int s0] 94 (I, J, xrf) Q := by
  unfold f_X9_isDigit_3 at h
  refine Rn.fi 2 (c := 57 < s0) (p1 := 24) (l1 := [some (.ref 24), some (.int x1)]) (s1 := []) (n1 := 94) (M1 := (I, J, xrf)) (p2 := 20) (l2 := [some (.ref 24), some (.int x1)]) (s2 := []) (n2 := 94) (M2 := (I, J, xrf)) (fun f => rfl) (fun hc => ?_) (fun hc => ?_)
  · rw [if_pos hc] at h
    exact p_X9_isDigit_5 x1 I J h hC
  · rw [if_neg hc] at h
    exact p_X9_isDigit_4 x1 I J h hC
theorem p_X9_isDigit_2 {L : Nat} {xs : Nat → Int32} {d : Nat} {Q : xO → Prop} (x1 : Int32) (I : xI) (J : xJ) {t : Int32 × xI × xJ} (h : f_X9_isDigit_2 x1 I J = some t) (hC : (c_X9_isDigit Q) t) : Rn L xs (d + 2) 122 10 [some (.ref 24), some (.int x1)] [] 94 (I, J, xrf) Q := by
  unfold f_X9_isDigit_2 at h
  refine Rn.go 2 (j' := 122) (pc' := 12) (ls' := [some (.ref 24), some (.int x1)]) (st' := [.int x1, .ref 24]) (n' := 94) (M' := (I, J, xrf)) (fun f => rfl) ?_
  obtain ⟨o, ho, h⟩ := Option.bind_eq_some_iff.mp h
  refine Rn.call (d1 := d + 1) (j1 := 120) (ls1 := [some (.ref 24), some (.int x1)]) (rest := []) (fun f => rfl) ?_
  refine p_X9_byteAt (d := d + 0) x1 I J (t := o) ho ?_
  exact p_X9_isDigit_3 x1 o.1 o.2.1 o.2.2 h hC
theorem p_X9_isDigit_1 {L : Nat} {xs : Nat → Int32} {d : Nat} {Q : xO → Prop} (x1 : Int32) (s0 : Int32) (I : xI) (J : xJ) {t : Int32 × xI × xJ} (h : f_X9_isDigit_1 x1 s0 I J = some t) (hC : (c_X9_isDigit Q) t) : Rn L xs (d + 2) 122 5 [some (.ref 24), some (.int x1)] [.int s0] 94 (I, J, xrf) Q := by
  unfold f_X9_isDigit_1 at h
  refine Rn.fi 2 (c := s0 < 48) (p1 := 24) (l1 := [some (.ref 24), some (.int x1)]) (s1 := []) (n1 := 94) (M1 := (I, J, xrf)) (p2 := 10) (l2 := [some (.ref 24), some (.int x1)]) (s2 := []) (n2 := 94) (M2 := (I, J, xrf)) (fun f => rfl) (fun hc => ?_) (fun hc => ?_)
  · rw [if_pos hc] at h
    exact p_X9_isDigit_5 x1 I J h hC
  · rw [if_neg hc] at h
    exact p_X9_isDigit_2 x1 I J h hC
theorem p_X9_isDigit_0 {L : Nat} {xs : Nat → Int32} {d : Nat} {Q : xO → Prop} (x1 : Int32) (I : xI) (J : xJ) {t : Int32 × xI × xJ} (h : f_X9_isDigit_0 x1 I J = some t) (hC : (c_X9_isDigit Q) t) : Rn L xs (d + 2) 122 0 [some (.ref 24), some (.int x1)] [] 94 (I, J, xrf) Q := by
  unfold f_X9_isDigit_0 at h
  refine Rn.go 2 (j' := 122) (pc' := 2) (ls' := [some (.ref 24), some (.int x1)]) (st' := [.int x1, .ref 24]) (n' := 94) (M' := (I, J, xrf)) (fun f => rfl) ?_
  obtain ⟨o, ho, h⟩ := Option.bind_eq_some_iff.mp h
  refine Rn.call (d1 := d + 1) (j1 := 120) (ls1 := [some (.ref 24), some (.int x1)]) (rest := []) (fun f => rfl) ?_
  refine p_X9_byteAt (d := d + 0) x1 I J (t := o) ho ?_
  exact p_X9_isDigit_1 x1 o.1 o.2.1 o.2.2 h hC
theorem p_X9_isDigit {L : Nat} {xs : Nat → Int32} {d : Nat} {Q : xO → Prop} (x1 : Int32) (I : xI) (J : xJ) {t : Int32 × xI × xJ} (h : f_X9_isDigit x1 I J = some t) (hC : Q ((some (.int t.1)), 94, (t.2.1, t.2.2, xrf))) : Rn L xs (d + 2) 122 0 [some (.ref 24), some (.int x1)] [] 94 (I, J, xrf) Q := p_X9_isDigit_0 x1 I J h hC
/-! X9_endOfRun -/
def c_X9_endOfRun (Q : xO → Prop) (t : Int32 × xI × xJ) : Prop := Q ((some (.int t.1)), 94, (t.2.1, t.2.2, xrf))
def c_X9_endOfRun_8 (L : Nat) (xs : Nat → Int32) (d : Nat) (Q : xO → Prop) (t : (Int32 × Int32 × xI × xJ) ⊕ (Int32 × xI × xJ)) : Prop := match t with
  | .inl s => Rn L xs (d + 3) 125 42 [some (.ref 24), some (.int s.1), some (.int s.2.1)] [] 94 (s.2.2.1, s.2.2.2, xrf) Q
  | .inr t => (c_X9_endOfRun Q) t
def c_X9_endOfRun_2 (L : Nat) (xs : Nat → Int32) (d : Nat) (Q : xO → Prop) (t : (Int32 × Int32 × xI × xJ) ⊕ (Int32 × xI × xJ)) : Prop := match t with
  | .inl s => Rn L xs (d + 3) 125 12 [some (.ref 24), some (.int s.1), some (.int s.2.1)] [] 94 (s.2.2.1, s.2.2.2, xrf) Q
  | .inr t => (c_X9_endOfRun Q) t
def f_X9_endOfRun_12 (x1 : Int32) (x2 : Int32) (I : xI) (J : xJ) : Option (Int32 × xI × xJ) := some (x2, I, J)
def f_X9_endOfRun_11 (x1 : Int32) (x2 : Int32) (I : xI) (J : xJ) : Option ((Int32 × Int32 × xI × xJ) ⊕ (Int32 × xI × xJ)) := some (.inl (x1, ((x2 + 1)), I, J))
def f_X9_endOfRun_10 (x1 : Int32) (x2 : Int32) (s0 : Int32) (I : xI) (J : xJ) : Option ((Int32 × Int32 × xI × xJ) ⊕ (Int32 × xI × xJ)) := if s0 = 0 then ((f_X9_endOfRun_12 x1 x2 I J)).map .inr else f_X9_endOfRun_11 x1 x2 I J
def f_X9_endOfRun_9 (x1 : Int32) (x2 : Int32) (I : xI) (J : xJ) : Option ((Int32 × Int32 × xI × xJ) ⊕ (Int32 × xI × xJ)) := (f_X9_isDigit x2 I J).bind fun o => f_X9_endOfRun_10 x1 x2 o.1 o.2.1 o.2.2
def b_X9_endOfRun_8 (x1 : Int32) (x2 : Int32) (I : xI) (J : xJ) : Option ((Int32 × Int32 × xI × xJ) ⊕ (Int32 × xI × xJ)) := if (I 24 1) ≤ x2 then ((f_X9_endOfRun_12 x1 x2 I J)).map .inr else f_X9_endOfRun_9 x1 x2 I J
def f_X9_endOfRun_8 (x1 : Int32) (x2 : Int32) (I : xI) (J : xJ) : Option (Int32 × xI × xJ) := xloop (fun s : Int32 × Int32 × xI × xJ => b_X9_endOfRun_8 s.1 s.2.1 s.2.2.1 s.2.2.2) 5000 (x1, x2, I, J)
def f_X9_endOfRun_7 (x1 : Int32) (x2 : Int32) (s0 : Int32) (I : xI) (J : xJ) : Option (Int32 × xI × xJ) := if s0 = 0 then f_X9_endOfRun_12 x1 x2 I J else f_X9_endOfRun_8 x1 x2 I J
def f_X9_endOfRun_6 (x1 : Int32) (x2 : Int32) (I : xI) (J : xJ) : Option (Int32 × xI × xJ) := (f_X9_isDigit x1 I J).bind fun o => f_X9_endOfRun_7 x1 x2 o.1 o.2.1 o.2.2
def f_X9_endOfRun_5 (x1 : Int32) (x2 : Int32) (I : xI) (J : xJ) : Option ((Int32 × Int32 × xI × xJ) ⊕ (Int32 × xI × xJ)) := some (.inl (x1, ((x2 + 1)), I, J))
def f_X9_endOfRun_4 (x1 : Int32) (x2 : Int32) (s0 : Int32) (I : xI) (J : xJ) : Option ((Int32 × Int32 × xI × xJ) ⊕ (Int32 × xI × xJ)) := if s0 = 0 then ((f_X9_endOfRun_12 x1 x2 I J)).map .inr else f_X9_endOfRun_5 x1 x2 I J
def f_X9_endOfRun_3 (x1 : Int32) (x2 : Int32) (I : xI) (J : xJ) : Option ((Int32 × Int32 × xI × xJ) ⊕ (Int32 × xI × xJ)) := (f_X9_isLetter x2 I J).bind fun o => f_X9_endOfRun_4 x1 x2 o.1 o.2.1 o.2.2
def b_X9_endOfRun_2 (x1 : Int32) (x2 : Int32) (I : xI) (J : xJ) : Option ((Int32 × Int32 × xI × xJ) ⊕ (Int32 × xI × xJ)) := if (I 24 1) ≤ x2 then ((f_X9_endOfRun_12 x1 x2 I J)).map .inr else f_X9_endOfRun_3 x1 x2 I J
def f_X9_endOfRun_2 (x1 : Int32) (x2 : Int32) (I : xI) (J : xJ) : Option (Int32 × xI × xJ) := xloop (fun s : Int32 × Int32 × xI × xJ => b_X9_endOfRun_2 s.1 s.2.1 s.2.2.1 s.2.2.2) 5000 (x1, x2, I, J)
def f_X9_endOfRun_1 (x1 : Int32) (x2 : Int32) (s0 : Int32) (I : xI) (J : xJ) : Option (Int32 × xI × xJ) := if s0 = 0 then f_X9_endOfRun_6 x1 x2 I J else f_X9_endOfRun_2 x1 x2 I J
def f_X9_endOfRun_0 (x1 : Int32) (I : xI) (J : xJ) : Option (Int32 × xI × xJ) := (f_X9_isLetter x1 I J).bind fun o => f_X9_endOfRun_1 x1 ((x1 + 1)) o.1 o.2.1 o.2.2
def f_X9_endOfRun (x1 : Int32) (I : xI) (J : xJ) : Option (Int32 × xI × xJ) := f_X9_endOfRun_0 x1 I J
theorem p_X9_endOfRun_12 {L : Nat} {xs : Nat → Int32} {d : Nat} {Q : xO → Prop} (x1 : Int32) (x2 : Int32) (I : xI) (J : xJ) {t : Int32 × xI × xJ} (h : f_X9_endOfRun_12 x1 x2 I J = some t) (hC : (c_X9_endOfRun Q) t) : Rn L xs (d + 3) 125 64 [some (.ref 24), some (.int x1), some (.int x2)] [] 94 (I, J, xrf) Q := by
  unfold f_X9_endOfRun_12 at h
  cases h
  exact Rn.ret 2 (o := ((some (.int x2)), 94, (I, J, xrf))) (fun f => rfl) hC
theorem p_X9_endOfRun_11 {L : Nat} {xs : Nat → Int32} {d : Nat} {Q : xO → Prop} (x1 : Int32) (x2 : Int32) (I : xI) (J : xJ) {t : (Int32 × Int32 × xI × xJ) ⊕ (Int32 × xI × xJ)} (h : f_X9_endOfRun_11 x1 x2 I J = some t) (hC : (c_X9_endOfRun_8 L xs d Q) t) : Rn L xs (d + 3) 125 58 [some (.ref 24), some (.int x1), some (.int x2)] [] 94 (I, J, xrf) Q := by
  unfold f_X9_endOfRun_11 at h
  refine Rn.go 2 (j' := 125) (pc' := 42) (ls' := [some (.ref 24), some (.int x1), some (.int ((x2 + 1)))]) (st' := []) (n' := 94) (M' := (I, J, xrf)) (fun f => rfl) ?_
  cases h; exact hC
theorem p_X9_endOfRun_10 {L : Nat} {xs : Nat → Int32} {d : Nat} {Q : xO → Prop} (x1 : Int32) (x2 : Int32) (s0 : Int32) (I : xI) (J : xJ) {t : (Int32 × Int32 × xI × xJ) ⊕ (Int32 × xI × xJ)} (h : f_X9_endOfRun_10 x1 x2 s0 I J = some t) (hC : (c_X9_endOfRun_8 L xs d Q) t) : Rn L xs (d + 3) 125 55 [some (.ref 24), some (.int x1), some (.int x2)] [.int s0] 94 (I, J, xrf) Q := by
  unfold f_X9_endOfRun_10 at h
  refine Rn.fi 1 (c := s0 = 0) (p1 := 64) (l1 := [some (.ref 24), some (.int x1), some (.int x2)]) (s1 := []) (n1 := 94) (M1 := (I, J, xrf)) (p2 := 58) (l2 := [some (.ref 24), some (.int x1), some (.int x2)]) (s2 := []) (n2 := 94) (M2 := (I, J, xrf)) (fun f => rfl) (fun hc => ?_) (fun hc => ?_)
  · rw [if_pos hc] at h
    obtain ⟨t0, h0, rfl⟩ := Option.map_eq_some_iff.mp h
    exact p_X9_endOfRun_12 x1 x2 I J h0 hC
  · rw [if_neg hc] at h
    exact p_X9_endOfRun_11 x1 x2 I J h hC
theorem p_X9_endOfRun_9 {L : Nat} {xs : Nat → Int32} {d : Nat} {Q : xO → Prop} (x1 : Int32) (x2 : Int32) (I : xI) (J : xJ) {t : (Int32 × Int32 × xI × xJ) ⊕ (Int32 × xI × xJ)} (h : f_X9_endOfRun_9 x1 x2 I J = some t) (hC : (c_X9_endOfRun_8 L xs d Q) t) : Rn L xs (d + 3) 125 50 [some (.ref 24), some (.int x1), some (.int x2)] [] 94 (I, J, xrf) Q := by
  unfold f_X9_endOfRun_9 at h
  refine Rn.go 2 (j' := 125) (pc' := 52) (ls' := [some (.ref 24), some (.int x1), some (.int x2)]) (st' := [.int x2, .ref 24]) (n' := 94) (M' := (I, J, xrf)) (fun f => rfl) ?_
  obtain ⟨o, ho, h⟩ := Option.bind_eq_some_iff.mp h
  refine Rn.call (d1 := d + 2) (j1 := 122) (ls1 := [some (.ref 24), some (.int x2)]) (rest := []) (fun f => rfl) ?_
  refine p_X9_isDigit (d := d + 0) x2 I J (t := o) ho ?_
  exact p_X9_endOfRun_10 x1 x2 o.1 o.2.1 o.2.2 h hC
theorem q_X9_endOfRun_8 {L : Nat} {xs : Nat → Int32} {d : Nat} {Q : xO → Prop} (x1 : Int32) (x2 : Int32) (I : xI) (J : xJ) {t : (Int32 × Int32 × xI × xJ) ⊕ (Int32 × xI × xJ)} (h : b_X9_endOfRun_8 x1 x2 I J = some t) (hC : (c_X9_endOfRun_8 L xs d Q) t) : Rn L xs (d + 3) 125 42 [some (.ref 24), some (.int x1), some (.int x2)] [] 94 (I, J, xrf) Q := by
  unfold b_X9_endOfRun_8 at h
  refine Rn.fi 4 (c := (I 24 1) ≤ x2) (p1 := 64) (l1 := [some (.ref 24), some (.int x1), some (.int x2)]) (s1 := []) (n1 := 94) (M1 := (I, J, xrf)) (p2 := 50) (l2 := [some (.ref 24), some (.int x1), some (.int x2)]) (s2 := []) (n2 := 94) (M2 := (I, J, xrf)) (fun f => rfl) (fun hc => ?_) (fun hc => ?_)
  · rw [if_pos hc] at h
    obtain ⟨t0, h0, rfl⟩ := Option.map_eq_some_iff.mp h
    exact p_X9_endOfRun_12 x1 x2 I J h0 hC
  · rw [if_neg hc] at h
    exact p_X9_endOfRun_9 x1 x2 I J h hC
theorem p_X9_endOfRun_8 {L : Nat} {xs : Nat → Int32} {d : Nat} {Q : xO → Prop} (x1 : Int32) (x2 : Int32) (I : xI) (J : xJ) {t : Int32 × xI × xJ} (h : f_X9_endOfRun_8 x1 x2 I J = some t) (hC : (c_X9_endOfRun Q) t) : Rn L xs (d + 3) 125 42 [some (.ref 24), some (.int x1), some (.int x2)] [] 94 (I, J, xrf) Q := by
  unfold f_X9_endOfRun_8 at h
  exact xloop_some (P := fun s : Int32 × Int32 × xI × xJ => Rn L xs (d + 3) 125 42 [some (.ref 24), some (.int s.1), some (.int s.2.1)] [] 94 (s.2.2.1, s.2.2.2, xrf) Q) t (fun s ⟨s', hb, hp⟩ => q_X9_endOfRun_8 s.1 s.2.1 s.2.2.1 s.2.2.2 hb hp) (fun s hb => q_X9_endOfRun_8 s.1 s.2.1 s.2.2.1 s.2.2.2 hb hC) _ _ h
theorem p_X9_endOfRun_7 {L : Nat} {xs : Nat → Int32} {d : Nat} {Q : xO → Prop} (x1 : Int32) (x2 : Int32) (s0 : Int32) (I : xI) (J : xJ) {t : Int32 × xI × xJ} (h : f_X9_endOfRun_7 x1 x2 s0 I J = some t) (hC : (c_X9_endOfRun Q) t) : Rn L xs (d + 3) 125 39 [some (.ref 24), some (.int x1), some (.int x2)] [.int s0] 94 (I, J, xrf) Q := by
  unfold f_X9_endOfRun_7 at h
  refine Rn.fi 1 (c := s0 = 0) (p1 := 64) (l1 := [some (.ref 24), some (.int x1), some (.int x2)]) (s1 := []) (n1 := 94) (M1 := (I, J, xrf)) (p2 := 42) (l2 := [some (.ref 24), some (.int x1), some (.int x2)]) (s2 := []) (n2 := 94) (M2 := (I, J, xrf)) (fun f => rfl) (fun hc => ?_) (fun hc => ?_)
  · rw [if_pos hc] at h
    exact p_X9_endOfRun_12 x1 x2 I J h hC
  · rw [if_neg hc] at h
    exact p_X9_endOfRun_8 x1 x2 I J h hC
theorem p_X9_endOfRun_6 {L : Nat} {xs : Nat → Int32} {d : Nat} {Q : xO → Prop} (x1 : Int32) (x2 : Int32) (I : xI) (J : xJ) {t : Int32 × xI × xJ} (h : f_X9_endOfRun_6 x1 x2 I J = some t) (hC : (c_X9_endOfRun Q) t) : Rn L xs (d + 3) 125 34 [some (.ref 24), some (.int x1), some (.int x2)] [] 94 (I, J, xrf) Q := by
  unfold f_X9_endOfRun_6 at h
  refine Rn.go 2 (j' := 125) (pc' := 36) (ls' := [some (.ref 24), some (.int x1), some (.int x2)]) (st' := [.int x1, .ref 24]) (n' := 94) (M' := (I, J, xrf)) (fun f => rfl) ?_
  obtain ⟨o, ho, h⟩ := Option.bind_eq_some_iff.mp h
  refine Rn.call (d1 := d + 2) (j1 := 122) (ls1 := [some (.ref 24), some (.int x1)]) (rest := []) (fun f => rfl) ?_
  refine p_X9_isDigit (d := d + 0) x1 I J (t := o) ho ?_
  exact p_X9_endOfRun_7 x1 x2 o.1 o.2.1 o.2.2 h hC
theorem p_X9_endOfRun_5 {L : Nat} {xs : Nat → Int32} {d : Nat} {Q : xO → Prop} (x1 : Int32) (x2 : Int32) (I : xI) (J : xJ) {t : (Int32 × Int32 × xI × xJ) ⊕ (Int32 × xI × xJ)} (h : f_X9_endOfRun_5 x1 x2 I J = some t) (hC : (c_X9_endOfRun_2 L xs d Q) t) : Rn L xs (d + 3) 125 28 [some (.ref 24), some (.int x1), some (.int x2)] [] 94 (I, J, xrf) Q := by
  unfold f_X9_endOfRun_5 at h
  refine Rn.go 2 (j' := 125) (pc' := 12) (ls' := [some (.ref 24), some (.int x1), some (.int ((x2 + 1)))]) (st' := []) (n' := 94) (M' := (I, J, xrf)) (fun f => rfl) ?_
  cases h; exact hC
theorem p_X9_endOfRun_4 {L : Nat} {xs : Nat → Int32} {d : Nat} {Q : xO → Prop} (x1 : Int32) (x2 : Int32) (s0 : Int32) (I : xI) (J : xJ) {t : (Int32 × Int32 × xI × xJ) ⊕ (Int32 × xI × xJ)} (h : f_X9_endOfRun_4 x1 x2 s0 I J = some t) (hC : (c_X9_endOfRun_2 L xs d Q) t) : Rn L xs (d + 3) 125 25 [some (.ref 24), some (.int x1), some (.int x2)] [.int s0] 94 (I, J, xrf) Q := by
  unfold f_X9_endOfRun_4 at h
  refine Rn.fi 1 (c := s0 = 0) (p1 := 64) (l1 := [some (.ref 24), some (.int x1), some (.int x2)]) (s1 := []) (n1 := 94) (M1 := (I, J, xrf)) (p2 := 28) (l2 := [some (.ref 24), some (.int x1), some (.int x2)]) (s2 := []) (n2 := 94) (M2 := (I, J, xrf)) (fun f => rfl) (fun hc => ?_) (fun hc => ?_)
  · rw [if_pos hc] at h
    obtain ⟨t0, h0, rfl⟩ := Option.map_eq_some_iff.mp h
    exact p_X9_endOfRun_12 x1 x2 I J h0 hC
  · rw [if_neg hc] at h
    exact p_X9_endOfRun_5 x1 x2 I J h hC
theorem p_X9_endOfRun_3 {L : Nat} {xs : Nat → Int32} {d : Nat} {Q : xO → Prop} (x1 : Int32) (x2 : Int32) (I : xI) (J : xJ) {t : (Int32 × Int32 × xI × xJ) ⊕ (Int32 × xI × xJ)} (h : f_X9_endOfRun_3 x1 x2 I J = some t) (hC : (c_X9_endOfRun_2 L xs d Q) t) : Rn L xs (d + 3) 125 20 [some (.ref 24), some (.int x1), some (.int x2)] [] 94 (I, J, xrf) Q := by
  unfold f_X9_endOfRun_3 at h
  refine Rn.go 2 (j' := 125) (pc' := 22) (ls' := [some (.ref 24), some (.int x1), some (.int x2)]) (st' := [.int x2, .ref 24]) (n' := 94) (M' := (I, J, xrf)) (fun f => rfl) ?_
  obtain ⟨o, ho, h⟩ := Option.bind_eq_some_iff.mp h
  refine Rn.call (d1 := d + 2) (j1 := 121) (ls1 := [some (.ref 24), some (.int x2)]) (rest := []) (fun f => rfl) ?_
  refine p_X9_isLetter (d := d + 0) x2 I J (t := o) ho ?_
  exact p_X9_endOfRun_4 x1 x2 o.1 o.2.1 o.2.2 h hC
theorem q_X9_endOfRun_2 {L : Nat} {xs : Nat → Int32} {d : Nat} {Q : xO → Prop} (x1 : Int32) (x2 : Int32) (I : xI) (J : xJ) {t : (Int32 × Int32 × xI × xJ) ⊕ (Int32 × xI × xJ)} (h : b_X9_endOfRun_2 x1 x2 I J = some t) (hC : (c_X9_endOfRun_2 L xs d Q) t) : Rn L xs (d + 3) 125 12 [some (.ref 24), some (.int x1), some (.int x2)] [] 94 (I, J, xrf) Q := by
  unfold b_X9_endOfRun_2 at h
  refine Rn.fi 4 (c := (I 24 1) ≤ x2) (p1 := 64) (l1 := [some (.ref 24), some (.int x1), some (.int x2)]) (s1 := []) (n1 := 94) (M1 := (I, J, xrf)) (p2 := 20) (l2 := [some (.ref 24), some (.int x1), some (.int x2)]) (s2 := []) (n2 := 94) (M2 := (I, J, xrf)) (fun f => rfl) (fun hc => ?_) (fun hc => ?_)
  · rw [if_pos hc] at h
    obtain ⟨t0, h0, rfl⟩ := Option.map_eq_some_iff.mp h
    exact p_X9_endOfRun_12 x1 x2 I J h0 hC
  · rw [if_neg hc] at h
    exact p_X9_endOfRun_3 x1 x2 I J h hC
theorem p_X9_endOfRun_2 {L : Nat} {xs : Nat → Int32} {d : Nat} {Q : xO → Prop} (x1 : Int32) (x2 : Int32) (I : xI) (J : xJ) {t : Int32 × xI × xJ} (h : f_X9_endOfRun_2 x1 x2 I J = some t) (hC : (c_X9_endOfRun Q) t) : Rn L xs (d + 3) 125 12 [some (.ref 24), some (.int x1), some (.int x2)] [] 94 (I, J, xrf) Q := by
  unfold f_X9_endOfRun_2 at h
  exact xloop_some (P := fun s : Int32 × Int32 × xI × xJ => Rn L xs (d + 3) 125 12 [some (.ref 24), some (.int s.1), some (.int s.2.1)] [] 94 (s.2.2.1, s.2.2.2, xrf) Q) t (fun s ⟨s', hb, hp⟩ => q_X9_endOfRun_2 s.1 s.2.1 s.2.2.1 s.2.2.2 hb hp) (fun s hb => q_X9_endOfRun_2 s.1 s.2.1 s.2.2.1 s.2.2.2 hb hC) _ _ h
theorem p_X9_endOfRun_1 {L : Nat} {xs : Nat → Int32} {d : Nat} {Q : xO → Prop} (x1 : Int32) (x2 : Int32) (s0 : Int32) (I : xI) (J : xJ) {t : Int32 × xI × xJ} (h : f_X9_endOfRun_1 x1 x2 s0 I J = some t) (hC : (c_X9_endOfRun Q) t) : Rn L xs (d + 3) 125 9 [some (.ref 24), some (.int x1), some (.int x2)] [.int s0] 94 (I, J, xrf) Q := by
  unfold f_X9_endOfRun_1 at h
  refine Rn.fi 1 (c := s0 = 0) (p1 := 34) (l1 := [some (.ref 24), some (.int x1), some (.int x2)]) (s1 := []) (n1 := 94) (M1 := (I, J, xrf)) (p2 := 12) (l2 := [some (.ref 24), some (.int x1), some (.int x2)]) (s2 := []) (n2 := 94) (M2 := (I, J, xrf)) (fun f => rfl) (fun hc => ?_) (fun hc => ?_)
  · rw [if_pos hc] at h
    exact p_X9_endOfRun_6 x1 x2 I J h hC
  · rw [if_neg hc] at h
    exact p_X9_endOfRun_2 x1 x2 I J h hC
theorem p_X9_endOfRun_0 {L : Nat} {xs : Nat → Int32} {d : Nat} {Q : xO → Prop} (x1 : Int32) (I : xI) (J : xJ) {t : Int32 × xI × xJ} (h : f_X9_endOfRun_0 x1 I J = some t) (hC : (c_X9_endOfRun Q) t) : Rn L xs (d + 3) 125 0 [some (.ref 24), some (.int x1), none] [] 94 (I, J, xrf) Q := by
  unfold f_X9_endOfRun_0 at h
  refine Rn.go 6 (j' := 125) (pc' := 6) (ls' := [some (.ref 24), some (.int x1), some (.int ((x1 + 1)))]) (st' := [.int x1, .ref 24]) (n' := 94) (M' := (I, J, xrf)) (fun f => rfl) ?_
  obtain ⟨o, ho, h⟩ := Option.bind_eq_some_iff.mp h
  refine Rn.call (d1 := d + 2) (j1 := 121) (ls1 := [some (.ref 24), some (.int x1)]) (rest := []) (fun f => rfl) ?_
  refine p_X9_isLetter (d := d + 0) x1 I J (t := o) ho ?_
  exact p_X9_endOfRun_1 x1 ((x1 + 1)) o.1 o.2.1 o.2.2 h hC
theorem p_X9_endOfRun {L : Nat} {xs : Nat → Int32} {d : Nat} {Q : xO → Prop} (x1 : Int32) (I : xI) (J : xJ) {t : Int32 × xI × xJ} (h : f_X9_endOfRun x1 I J = some t) (hC : Q ((some (.int t.1)), 94, (t.2.1, t.2.2, xrf))) : Rn L xs (d + 3) 125 0 [some (.ref 24), some (.int x1), none] [] 94 (I, J, xrf) Q := p_X9_endOfRun_0 x1 I J h hC
/-! X9_says -/
def c_X9_says (Q : xO → Prop) (t : Int32 × xI × xJ) : Prop := Q ((some (.int t.1)), 94, (t.2.1, t.2.2, xrf))
def c_X9_says_4 (L : Nat) (xs : Nat → Int32) (d : Nat) (Q : xO → Prop) (t : (Int32 × Int32 × Nat × Int32 × xI × xJ) ⊕ (Int32 × xI × xJ)) : Prop := match t with
  | .inl s => Rn L xs (d + 4) 126 13 [some (.ref 24), some (.int s.1), some (.int s.2.1), some (.ref s.2.2.1), some (.int s.2.2.2.1)] [] 94 (s.2.2.2.2.1, s.2.2.2.2.2, xrf) Q
  | .inr t => (c_X9_says Q) t
def f_X9_says_10 (x1 : Int32) (x2 : Int32) (w3 : Nat) (x4 : Int32) (I : xI) (J : xJ) : Option (Int32 × xI × xJ) := some (1, I, J)
def f_X9_says_9 (x1 : Int32) (x2 : Int32) (w3 : Nat) (x4 : Int32) (I : xI) (J : xJ) : Option ((Int32 × Int32 × Nat × Int32 × xI × xJ) ⊕ (Int32 × xI × xJ)) := some (.inl (x1, x2, w3, ((x4 + 1)), I, J))
def f_X9_says_8 (x1 : Int32) (x2 : Int32) (w3 : Nat) (x4 : Int32) (I : xI) (J : xJ) : Option (Int32 × xI × xJ) := some (0, I, J)
def f_X9_says_7 (x1 : Int32) (x2 : Int32) (w3 : Nat) (x4 : Int32) (s0 : Int32) (s1 : Int32) (I : xI) (J : xJ) : Option ((Int32 × Int32 × Nat × Int32 × xI × xJ) ⊕ (Int32 × xI × xJ)) := if s0 = s1 then f_X9_says_9 x1 x2 w3 x4 I J else ((f_X9_says_8 x1 x2 w3 x4 I J)).map .inr
def f_X9_says_6 (x1 : Int32) (x2 : Int32) (w3 : Nat) (x4 : Int32) (s0 : Int32) (I : xI) (J : xJ) : Option ((Int32 × Int32 × Nat × Int32 × xI × xJ) ⊕ (Int32 × xI × xJ)) := if ¬ zok w3 then none else if ¬ zok w3 ∨ x4 < 0 ∨ zlen w3 ≤ x4.toNatClampNeg then none else f_X9_says_7 x1 x2 w3 x4 s0 ((zchr w3 x4.toNatClampNeg)) I J
def f_X9_says_5 (x1 : Int32) (x2 : Int32) (w3 : Nat) (x4 : Int32) (I : xI) (J : xJ) : Option ((Int32 × Int32 × Nat × Int32 × xI × xJ) ⊕ (Int32 × xI × xJ)) := (f_X9_byteAt ((x1 + x4)) I J).bind fun o => f_X9_says_6 x1 x2 w3 x4 o.1 o.2.1 o.2.2
def b_X9_says_4 (x1 : Int32) (x2 : Int32) (w3 : Nat) (x4 : Int32) (I : xI) (J : xJ) : Option ((Int32 × Int32 × Nat × Int32 × xI × xJ) ⊕ (Int32 × xI × xJ)) := if x2 ≤ x4 then ((f_X9_says_10 x1 x2 w3 x4 I J)).map .inr else f_X9_says_5 x1 x2 w3 x4 I J
def f_X9_says_4 (x1 : Int32) (x2 : Int32) (w3 : Nat) (x4 : Int32) (I : xI) (J : xJ) : Option (Int32 × xI × xJ) := xloop (fun s : Int32 × Int32 × Nat × Int32 × xI × xJ => b_X9_says_4 s.1 s.2.1 s.2.2.1 s.2.2.2.1 s.2.2.2.2.1 s.2.2.2.2.2) 5000 (x1, x2, w3, x4, I, J)
def f_X9_says_3 (x1 : Int32) (x2 : Int32) (w3 : Nat) (I : xI) (J : xJ) : Option (Int32 × xI × xJ) := f_X9_says_4 x1 x2 w3 0 I J
def f_X9_says_2 (x1 : Int32) (x2 : Int32) (w3 : Nat) (I : xI) (J : xJ) : Option (Int32 × xI × xJ) := some (0, I, J)
def f_X9_says_1 (x1 : Int32) (x2 : Int32) (w3 : Nat) (s0 : Int32) (s1 : Int32) (I : xI) (J : xJ) : Option (Int32 × xI × xJ) := if s0 = s1 then f_X9_says_3 x1 x2 w3 I J else f_X9_says_2 x1 x2 w3 I J
def f_X9_says_0 (x1 : Int32) (x2 : Int32) (w3 : Nat) (I : xI) (J : xJ) : Option (Int32 × xI × xJ) := if ¬ zok w3 then none else if ¬ zok w3 then none else f_X9_says_1 x1 x2 w3 x2 ((Int32.ofNat (zlen w3))) I J
def f_X9_says (x1 : Int32) (x2 : Int32) (w3 : Nat) (I : xI) (J : xJ) : Option (Int32 × xI × xJ) := f_X9_says_0 x1 x2 w3 I J
theorem p_X9_says_10 {L : Nat} {xs : Nat → Int32} {d : Nat} {Q : xO → Prop} (x1 : Int32) (x2 : Int32) (w3 : Nat) (x4 : Int32) (I : xI) (J : xJ) {t : Int32 × xI × xJ} (h : f_X9_says_10 x1 x2 w3 x4 I J = some t) (hC : (c_X9_says Q) t) : Rn L xs (d + 4) 126 44 [some (.ref 24), some (.int x1), some (.int x2), some (.ref w3), some (.int x4)] [] 94 (I, J, xrf) Q := by
  unfold f_X9_says_10 at h
  cases h
  exact Rn.ret 2 (o := ((some (.int 1)), 94, (I, J, xrf))) (fun f => rfl) hC
theorem p_X9_says_9 {L : Nat} {xs : Nat → Int32} {d : Nat} {Q : xO → Prop} (x1 : Int32) (x2 : Int32) (w3 : Nat) (x4 : Int32) (I : xI) (J : xJ) {t : (Int32 × Int32 × Nat × Int32 × xI × xJ) ⊕ (Int32 × xI × xJ)} (h : f_X9_says_9 x1 x2 w3 x4 I J = some t) (hC : (c_X9_says_4 L xs d Q) t) : Rn L xs (d + 4) 126 38 [some (.ref 24), some (.int x1), some (.int x2), some (.ref w3), some (.int x4)] [] 94 (I, J, xrf) Q := by
  unfold f_X9_says_9 at h
  refine Rn.go 2 (j' := 126) (pc' := 13) (ls' := [some (.ref 24), some (.int x1), some (.int x2), some (.ref w3), some (.int ((x4 + 1)))]) (st' := []) (n' := 94) (M' := (I, J, xrf)) (fun f => rfl) ?_
  cases h; exact hC
theorem p_X9_says_8 {L : Nat} {xs : Nat → Int32} {d : Nat} {Q : xO → Prop} (x1 : Int32) (x2 : Int32) (w3 : Nat) (x4 : Int32) (I : xI) (J : xJ) {t : Int32 × xI × xJ} (h : f_X9_says_8 x1 x2 w3 x4 I J = some t) (hC : (c_X9_says Q) t) : Rn L xs (d + 4) 126 36 [some (.ref 24), some (.int x1), some (.int x2), some (.ref w3), some (.int x4)] [] 94 (I, J, xrf) Q := by
  unfold f_X9_says_8 at h
  cases h
  exact Rn.ret 2 (o := ((some (.int 0)), 94, (I, J, xrf))) (fun f => rfl) hC
theorem p_X9_says_7 {L : Nat} {xs : Nat → Int32} {d : Nat} {Q : xO → Prop} (x1 : Int32) (x2 : Int32) (w3 : Nat) (x4 : Int32) (s0 : Int32) (s1 : Int32) (I : xI) (J : xJ) {t : (Int32 × Int32 × Nat × Int32 × xI × xJ) ⊕ (Int32 × xI × xJ)} (h : f_X9_says_7 x1 x2 w3 x4 s0 s1 I J = some t) (hC : (c_X9_says_4 L xs d Q) t) : Rn L xs (d + 4) 126 33 [some (.ref 24), some (.int x1), some (.int x2), some (.ref w3), some (.int x4)] [.int s1, .int s0] 94 (I, J, xrf) Q := by
  unfold f_X9_says_7 at h
  refine Rn.fi 1 (c := s0 = s1) (p1 := 38) (l1 := [some (.ref 24), some (.int x1), some (.int x2), some (.ref w3), some (.int x4)]) (s1 := []) (n1 := 94) (M1 := (I, J, xrf)) (p2 := 36) (l2 := [some (.ref 24), some (.int x1), some (.int x2), some (.ref w3), some (.int x4)]) (s2 := []) (n2 := 94) (M2 := (I, J, xrf)) (fun f => rfl) (fun hc => ?_) (fun hc => ?_)
  · rw [if_pos hc] at h
    exact p_X9_says_9 x1 x2 w3 x4 I J h hC
  · rw [if_neg hc] at h
    obtain ⟨t0, h0, rfl⟩ := Option.map_eq_some_iff.mp h
    exact p_X9_says_8 x1 x2 w3 x4 I J h0 hC
theorem p_X9_says_6 {L : Nat} {xs : Nat → Int32} {d : Nat} {Q : xO → Prop} (x1 : Int32) (x2 : Int32) (w3 : Nat) (x4 : Int32) (s0 : Int32) (I : xI) (J : xJ) {t : (Int32 × Int32 × Nat × Int32 × xI × xJ) ⊕ (Int32 × xI × xJ)} (h : f_X9_says_6 x1 x2 w3 x4 s0 I J = some t) (hC : (c_X9_says_4 L xs d Q) t) : Rn L xs (d + 4) 126 27 [some (.ref 24), some (.int x1), some (.int x2), some (.ref w3), some (.int x4)] [.int s0] 94 (I, J, xrf) Q := by
  unfold f_X9_says_6 at h
  obtain ⟨hz, h⟩ := xif h
  refine Rn.goB 1 (c := Nat.blt w3 2999) (p1 := 28) (l1 := [some (.ref 24), some (.int x1), some (.int x2), some (.ref w3), some (.int x4)]) (s1 := [.ref w3, .int s0]) (n1 := 94) (M1 := (I, J, xrf)) (fun f => rfl) (zok_lt hz) ?_
  refine Rn.go 1 (j' := 126) (pc' := 30) (ls' := [some (.ref 24), some (.int x1), some (.int x2), some (.ref w3), some (.int x4)]) (st' := [.int x4, .ref w3, .int s0]) (n' := 94) (M' := (I, J, xrf)) (fun f => rfl) ?_
  obtain ⟨hc, h⟩ := xif h
  refine Rn.callB (c := Nat.blt w3 2999 && (Nat.beq 0 2 || Nat.beq (xcl 94 w3) 20)) (d1 := d + 3) (j1 := 302) (ls1 := [some (.ref w3), some (.int x4)]) (rest := [.int s0]) (fun f => rfl) (zok_cl (fun q => hc (Or.inl q))) ?_
  refine z_chr (d := d + 0) hc ?_
  exact p_X9_says_7 x1 x2 w3 x4 s0 ((zchr w3 x4.toNatClampNeg)) I J h hC
theorem p_X9_says_5 {L : Nat} {xs : Nat → Int32} {d : Nat} {Q : xO → Prop} (x1 : Int32) (x2 : Int32) (w3 : Nat) (x4 : Int32) (I : xI) (J : xJ) {t : (Int32 × Int32 × Nat × Int32 × xI × xJ) ⊕ (Int32 × xI × xJ)} (h : f_X9_says_5 x1 x2 w3 x4 I J = some t) (hC : (c_X9_says_4 L xs d Q) t) : Rn L xs (d + 4) 126 19 [some (.ref 24), some (.int x1), some (.int x2), some (.ref w3), some (.int x4)] [] 94 (I, J, xrf) Q := by
  unfold f_X9_says_5 at h
  refine Rn.go 4 (j' := 126) (pc' := 24) (ls' := [some (.ref 24), some (.int x1), some (.int x2), some (.ref w3), some (.int x4)]) (st' := [.int ((x1 + x4)), .ref 24]) (n' := 94) (M' := (I, J, xrf)) (fun f => rfl) ?_
  obtain ⟨o, ho, h⟩ := Option.bind_eq_some_iff.mp h
  refine Rn.call (d1 := d + 3) (j1 := 120) (ls1 := [some (.ref 24), some (.int ((x1 + x4)))]) (rest := []) (fun f => rfl) ?_
  refine p_X9_byteAt (d := d + 2) ((x1 + x4)) I J (t := o) ho ?_
  exact p_X9_says_6 x1 x2 w3 x4 o.1 o.2.1 o.2.2 h hC
theorem q_X9_says_4 {L : Nat} {xs : Nat → Int32} {d : Nat} {Q : xO → Prop} (x1 : Int32) (x2 : Int32) (w3 : Nat) (x4 : Int32) (I : xI) (J : xJ) {t : (Int32 × Int32 × Nat × Int32 × xI × xJ) ⊕ (Int32 × xI × xJ)} (h : b_X9_says_4 x1 x2 w3 x4 I J = some t) (hC : (c_X9_says_4 L xs d Q) t) : Rn L xs (d + 4) 126 13 [some (.ref 24), some (.int x1), some (.int x2), some (.ref w3), some (.int x4)] [] 94 (I, J, xrf) Q := by
  unfold b_X9_says_4 at h
  refine Rn.fi 3 (c := x2 ≤ x4) (p1 := 44) (l1 := [some (.ref 24), some (.int x1), some (.int x2), some (.ref w3), some (.int x4)]) (s1 := []) (n1 := 94) (M1 := (I, J, xrf)) (p2 := 19) (l2 := [some (.ref 24), some (.int x1), some (.int x2), some (.ref w3), some (.int x4)]) (s2 := []) (n2 := 94) (M2 := (I, J, xrf)) (fun f => rfl) (fun hc => ?_) (fun hc => ?_)
  · rw [if_pos hc] at h
    obtain ⟨t0, h0, rfl⟩ := Option.map_eq_some_iff.mp h
    exact p_X9_says_10 x1 x2 w3 x4 I J h0 hC
  · rw [if_neg hc] at h
    exact p_X9_says_5 x1 x2 w3 x4 I J h hC
theorem p_X9_says_4 {L : Nat} {xs : Nat → Int32} {d : Nat} {Q : xO → Prop} (x1 : Int32) (x2 : Int32) (w3 : Nat) (x4 : Int32) (I : xI) (J : xJ) {t : Int32 × xI × xJ} (h : f_X9_says_4 x1 x2 w3 x4 I J = some t) (hC : (c_X9_says Q) t) : Rn L xs (d + 4) 126 13 [some (.ref 24), some (.int x1), some (.int x2), some (.ref w3), some (.int x4)] [] 94 (I, J, xrf) Q := by
  unfold f_X9_says_4 at h
  exact xloop_some (P := fun s : Int32 × Int32 × Nat × Int32 × xI × xJ => Rn L xs (d + 4) 126 13 [some (.ref 24), some (.int s.1), some (.int s.2.1), some (.ref s.2.2.1), some (.int s.2.2.2.1)] [] 94 (s.2.2.2.2.1, s.2.2.2.2.2, xrf) Q) t (fun s ⟨s', hb, hp⟩ => q_X9_says_4 s.1 s.2.1 s.2.2.1 s.2.2.2.1 s.2.2.2.2.1 s.2.2.2.2.2 hb hp) (fun s hb => q_X9_says_4 s.1 s.2.1 s.2.2.1 s.2.2.2.1 s.2.2.2.2.1 s.2.2.2.2.2 hb hC) _ _ h
theorem p_X9_says_3 {L : Nat} {xs : Nat → Int32} {d : Nat} {Q : xO → Prop} (x1 : Int32) (x2 : Int32) (w3 : Nat) (I : xI) (J : xJ) {t : Int32 × xI × xJ} (h : f_X9_says_3 x1 x2 w3 I J = some t) (hC : (c_X9_says Q) t) : Rn L xs (d + 4) 126 10 [some (.ref 24), some (.int x1), some (.int x2), some (.ref w3), none] [] 94 (I, J, xrf) Q := by
  unfold f_X9_says_3 at h
  refine Rn.go 2 (j' := 126) (pc' := 13) (ls' := [some (.ref 24), some (.int x1), some (.int x2), some (.ref w3), some (.int 0)]) (st' := []) (n' := 94) (M' := (I, J, xrf)) (fun f => rfl) ?_
  exact p_X9_says_4 x1 x2 w3 0 I J h hC
theorem p_X9_says_2 {L : Nat} {xs : Nat → Int32} {d : Nat} {Q : xO → Prop} (x1 : Int32) (x2 : Int32) (w3 : Nat) (I : xI) (J : xJ) {t : Int32 × xI × xJ} (h : f_X9_says_2 x1 x2 w3 I J = some t) (hC : (c_X9_says Q) t) : Rn L xs (d + 4) 126 8 [some (.ref 24), some (.int x1), some (.int x2), some (.ref w3), none] [] 94 (I, J, xrf) Q := by
  unfold f_X9_says_2 at h
  cases h
  exact Rn.ret 2 (o := ((some (.int 0)), 94, (I, J, xrf))) (fun f => rfl) hC
theorem p_X9_says_1 {L : Nat} {xs : Nat → Int32} {d : Nat} {Q : xO → Prop} (x1 : Int32) (x2 : Int32) (w3 : Nat) (s0 : Int32) (s1 : Int32) (I : xI) (J : xJ) {t : Int32 × xI × xJ} (h : f_X9_says_1 x1 x2 w3 s0 s1 I J = some t) (hC : (c_X9_says Q) t) : Rn L xs (d + 4) 126 5 [some (.ref 24), some (.int x1), some (.int x2), some (.ref w3), none] [.int s1, .int s0] 94 (I, J, xrf) Q := by
  unfold f_X9_says_1 at h
  refine Rn.fi 1 (c := s0 = s1) (p1 := 10) (l1 := [some (.ref 24), some (.int x1), some (.int x2), some (.ref w3), none]) (s1 := []) (n1 := 94) (M1 := (I, J, xrf)) (p2 := 8) (l2 := [some (.ref 24), some (.int x1), some (.int x2), some (.ref w3), none]) (s2 := []) (n2 := 94) (M2 := (I, J, xrf)) (fun f => rfl) (fun hc => ?_) (fun hc => ?_)
  · rw [if_pos hc] at h
    exact p_X9_says_3 x1 x2 w3 I J h hC
  · rw [if_neg hc] at h
    exact p_X9_says_2 x1 x2 w3 I J h hC
theorem p_X9_says_0 {L : Nat} {xs : Nat → Int32} {d : Nat} {Q : xO → Prop} (x1 : Int32) (x2 : Int32) (w3 : Nat) (I : xI) (J : xJ) {t : Int32 × xI × xJ} (h : f_X9_says_0 x1 x2 w3 I J = some t) (hC : (c_X9_says Q) t) : Rn L xs (d + 4) 126 0 [some (.ref 24), some (.int x1), some (.int x2), some (.ref w3), none] [] 94 (I, J, xrf) Q := by
  unfold f_X9_says_0 at h
  obtain ⟨hz, h⟩ := xif h
  refine Rn.goB 2 (c := Nat.blt w3 2999) (p1 := 2) (l1 := [some (.ref 24), some (.int x1), some (.int x2), some (.ref w3), none]) (s1 := [.ref w3, .int x2]) (n1 := 94) (M1 := (I, J, xrf)) (fun f => rfl) (zok_lt hz) ?_
  obtain ⟨hc, h⟩ := xif h
  refine Rn.callB (c := Nat.blt w3 2999 && (Nat.beq 0 2 || Nat.beq (xcl 94 w3) 20)) (d1 := d + 3) (j1 := 300) (ls1 := [some (.ref w3)]) (rest := [.int x2]) (fun f => rfl) (zok_cl hc) ?_
  refine z_len (d := d + 0) hc ?_
  exact p_X9_says_1 x1 x2 w3 x2 ((Int32.ofNat (zlen w3))) I J h hC
theorem p_X9_says {L : Nat} {xs : Nat → Int32} {d : Nat} {Q : xO → Prop} (x1 : Int32) (x2 : Int32) (w3 : Nat) (I : xI) (J : xJ) {t : Int32 × xI × xJ} (h : f_X9_says x1 x2 w3 I J = some t) (hC : Q ((some (.int t.1)), 94, (t.2.1, t.2.2, xrf))) : Rn L xs (d + 4) 126 0 [some (.ref 24), some (.int x1), some (.int x2), some (.ref w3), none] [] 94 (I, J, xrf) Q := p_X9_says_0 x1 x2 w3 I J h hC
/-! X10_kindOf -/
def c_X10_kindOf (Q : xO → Prop) (t : Int32 × xI × xJ) : Prop := Q ((some (.int t.1)), 94, (t.2.1, t.2.2, xrf))
def f_X10_kindOf_31 (x1 : Int32) (x2 : Int32) (s0 : Int32) (I : xI) (J : xJ) : Option (Int32 × xI × xJ) := some (s0, I, J)
def f_X10_kindOf_30 (x1 : Int32) (x2 : Int32) (I : xI) (J : xJ) : Option (Int32 × xI × xJ) := f_X10_kindOf_31 x1 x2 0 I J
def f_X10_kindOf_29 (x1 : Int32) (x2 : Int32) (I : xI) (J : xJ) : Option (Int32 × xI × xJ) := f_X10_kindOf_31 x1 x2 1 I J
def f_X10_kindOf_28 (x1 : Int32) (x2 : Int32) (I : xI) (J : xJ) : Option (Int32 × xI × xJ) := if 8 < x2 then f_X10_kindOf_30 x1 x2 I J else f_X10_kindOf_29 x1 x2 I J
def f_X10_kindOf_27 (x1 : Int32) (x2 : Int32) (I : xI) (J : xJ) : Option (Int32 × xI × xJ) := some (8, I, J)
def f_X10_kindOf_26 (x1 : Int32) (x2 : Int32) (s0 : Int32) (I : xI) (J : xJ) : Option (Int32 × xI × xJ) := if s0 = 0 then f_X10_kindOf_28 x1 x2 I J else f_X10_kindOf_27 x1 x2 I J
def f_X10_kindOf_25 (x1 : Int32) (x2 : Int32) (I : xI) (J : xJ) : Option (Int32 × xI × xJ) := (f_X9_says x1 x2 2005 I J).bind fun o => f_X10_kindOf_26 x1 x2 o.1 o.2.1 o.2.2
def f_X10_kindOf_24 (x1 : Int32) (x2 : Int32) (I : xI) (J : xJ) : Option (Int32 × xI × xJ) := some (7, I, J)
def f_X10_kindOf_23 (x1 : Int32) (x2 : Int32) (s0 : Int32) (I : xI) (J : xJ) : Option (Int32 × xI × xJ) := if s0 = 0 then f_X10_kindOf_25 x1 x2 I J else f_X10_kindOf_24 x1 x2 I J
def f_X10_kindOf_22 (x1 : Int32) (x2 : Int32) (I : xI) (J : xJ) : Option (Int32 × xI × xJ) := (f_X9_says x1 x2 2004 I J).bind fun o => f_X10_kindOf_23 x1 x2 o.1 o.2.1 o.2.2
def f_X10_kindOf_21 (x1 : Int32) (x2 : Int32) (I : xI) (J : xJ) : Option (Int32 × xI × xJ) := some (6, I, J)
def f_X10_kindOf_20 (x1 : Int32) (x2 : Int32) (s0 : Int32) (I : xI) (J : xJ) : Option (Int32 × xI × xJ) := if s0 = 0 then f_X10_kindOf_22 x1 x2 I J else f_X10_kindOf_21 x1 x2 I J
def f_X10_kindOf_19 (x1 : Int32) (x2 : Int32) (I : xI) (J : xJ) : Option (Int32 × xI × xJ) := (f_X9_says x1 x2 2003 I J).bind fun o => f_X10_kindOf_20 x1 x2 o.1 o.2.1 o.2.2
def f_X10_kindOf_18 (x1 : Int32) (x2 : Int32) (I : xI) (J : xJ) : Option (Int32 × xI × xJ) := some (5, I, J)
def f_X10_kindOf_17 (x1 : Int32) (x2 : Int32) (s0 : Int32) (I : xI) (J : xJ) : Option (Int32 × xI × xJ) := if s0 = 0 then f_X10_kindOf_19 x1 x2 I J else f_X10_kindOf_18 x1 x2 I J
def f_X10_kindOf_16 (x1 : Int32) (x2 : Int32) (I : xI) (J : xJ) : Option (Int32 × xI × xJ) := (f_X9_says x1 x2 2002 I J).bind fun o => f_X10_kindOf_17 x1 x2 o.1 o.2.1 o.2.2
def f_X10_kindOf_15 (x1 : Int32) (x2 : Int32) (I : xI) (J : xJ) : Option (Int32 × xI × xJ) := some (4, I, J)
def f_X10_kindOf_14 (x1 : Int32) (x2 : Int32) (s0 : Int32) (I : xI) (J : xJ) : Option (Int32 × xI × xJ) := if s0 = 0 then f_X10_kindOf_16 x1 x2 I J else f_X10_kindOf_15 x1 x2 I J
def f_X10_kindOf_13 (x1 : Int32) (x2 : Int32) (I : xI) (J : xJ) : Option (Int32 × xI × xJ) := (f_X9_says x1 x2 2001 I J).bind fun o => f_X10_kindOf_14 x1 x2 o.1 o.2.1 o.2.2
def f_X10_kindOf_12 (x1 : Int32) (x2 : Int32) (s0 : Int32) (I : xI) (J : xJ) : Option (Int32 × xI × xJ) := some (s0, I, J)
def f_X10_kindOf_11 (x1 : Int32) (x2 : Int32) (I : xI) (J : xJ) : Option (Int32 × xI × xJ) := f_X10_kindOf_12 x1 x2 0 I J
def f_X10_kindOf_10 (x1 : Int32) (x2 : Int32) (I : xI) (J : xJ) : Option (Int32 × xI × xJ) := f_X10_kindOf_12 x1 x2 3 I J
def f_X10_kindOf_9 (x1 : Int32) (x2 : Int32) (s0 : Int32) (I : xI) (J : xJ) : Option (Int32 × xI × xJ) := if s0 = 59 then f_X10_kindOf_10 x1 x2 I J else f_X10_kindOf_11 x1 x2 I J
def f_X10_kindOf_8 (x1 : Int32) (x2 : Int32) (I : xI) (J : xJ) : Option (Int32 × xI × xJ) := (f_X9_byteAt x1 I J).bind fun o => f_X10_kindOf_9 x1 x2 o.1 o.2.1 o.2.2
def f_X10_kindOf_7 (x1 : Int32) (x2 : Int32) (s0 : Int32) (I : xI) (J : xJ) : Option (Int32 × xI × xJ) := if s0 = 0 then f_X10_kindOf_8 x1 x2 I J else f_X10_kindOf_13 x1 x2 I J
def f_X10_kindOf_6 (x1 : Int32) (x2 : Int32) (I : xI) (J : xJ) : Option (Int32 × xI × xJ) := (f_X9_isLetter x1 I J).bind fun o => f_X10_kindOf_7 x1 x2 o.1 o.2.1 o.2.2
def f_X10_kindOf_5 (x1 : Int32) (x2 : Int32) (s0 : Int32) (I : xI) (J : xJ) : Option (Int32 × xI × xJ) := some (s0, I, J)
def f_X10_kindOf_4 (x1 : Int32) (x2 : Int32) (I : xI) (J : xJ) : Option (Int32 × xI × xJ) := f_X10_kindOf_5 x1 x2 0 I J
def f_X10_kindOf_3 (x1 : Int32) (x2 : Int32) (I : xI) (J : xJ) : Option (Int32 × xI × xJ) := f_X10_kindOf_5 x1 x2 2 I J
def f_X10_kindOf_2 (x1 : Int32) (x2 : Int32) (I : xI) (J : xJ) : Option (Int32 × xI × xJ) := if 4 < x2 then f_X10_kindOf_4 x1 x2 I J else f_X10_kindOf_3 x1 x2 I J
def f_X10_kindOf_1 (x1 : Int32) (x2 : Int32) (s0 : Int32) (I : xI) (J : xJ) : Option (Int32 × xI × xJ) := if s0 = 0 then f_X10_kindOf_6 x1 x2 I J else f_X10_kindOf_2 x1 x2 I J
def f_X10_kindOf_0 (x1 : Int32) (x2 : Int32) (I : xI) (J : xJ) : Option (Int32 × xI × xJ) := (f_X9_isDigit x1 I J).bind fun o => f_X10_kindOf_1 x1 x2 o.1 o.2.1 o.2.2
def f_X10_kindOf (x1 : Int32) (x2 : Int32) (I : xI) (J : xJ) : Option (Int32 × xI × xJ) := f_X10_kindOf_0 x1 x2 I J
theorem p_X10_kindOf_31 {L : Nat} {xs : Nat → Int32} {d : Nat} {Q : xO → Prop} (x1 : Int32) (x2 : Int32) (s0 : Int32) (I : xI) (J : xJ) {t : Int32 × xI × xJ} (h : f_X10_kindOf_31 x1 x2 s0 I J = some t) (hC : (c_X10_kindOf Q) t) : Rn L xs (d + 5) 134 146 [some (.ref 26), some (.int x1), some (.int x2)] [.int s0] 94 (I, J, xrf) Q := by
  unfold f_X10_kindOf_31 at h
  cases h
  exact Rn.ret 1 (o := ((some (.int s0)), 94, (I, J, xrf))) (fun f => rfl) hC
theorem p_X10_kindOf_30 {L : Nat} {xs : Nat → Int32} {d : Nat} {Q : xO → Prop} (x1 : Int32) (x2 : Int32) (I : xI) (J : xJ) {t : Int32 × xI × xJ} (h : f_X10_kindOf_30 x1 x2 I J = some t) (hC : (c_X10_kindOf Q) t) : Rn L xs (d + 5) 134 145 [some (.ref 26), some (.int x1), some (.int x2)] [] 94 (I, J, xrf) Q := by
  unfold f_X10_kindOf_30 at h
  refine Rn.go 1 (j' := 134) (pc' := 146) (ls' := [some (.ref 26), some (.int x1), some (.int x2)]) (st' := [.int 0]) (n' := 94) (M' := (I, J, xrf)) (fun f => rfl) ?_
  exact p_X10_kindOf_31 x1 x2 0 I J h hC
theorem p_X10_kindOf_29 {L : Nat} {xs : Nat → Int32} {d : Nat} {Q : xO → Prop} (x1 : Int32) (x2 : Int32) (I : xI) (J : xJ) {t : Int32 × xI × xJ} (h : f_X10_kindOf_29 x1 x2 I J = some t) (hC : (c_X10_kindOf Q) t) : Rn L xs (d + 5) 134 141 [some (.ref 26), some (.int x1), some (.int x2)] [] 94 (I, J, xrf) Q := by
  unfold f_X10_kindOf_29 at h
  refine Rn.go 2 (j' := 134) (pc' := 146) (ls' := [some (.ref 26), some (.int x1), some (.int x2)]) (st' := [.int 1]) (n' := 94) (M' := (I, J, xrf)) (fun f => rfl) ?_
  exact p_X10_kindOf_31 x1 x2 1 I J h hC
theorem p_X10_kindOf_28 {L : Nat} {xs : Nat → Int32} {d : Nat} {Q : xO → Prop} (x1 : Int32) (x2 : Int32) (I : xI) (J : xJ) {t : Int32 × xI × xJ} (h : f_X10_kindOf_28 x1 x2 I J = some t) (hC : (c_X10_kindOf Q) t) : Rn L xs (d + 5) 134 135 [some (.ref 26), some (.int x1), some (.int x2)] [] 94 (I, J, xrf) Q := by
  unfold f_X10_kindOf_28 at h
  refine Rn.fi 3 (c := 8 < x2) (p1 := 145) (l1 := [some (.ref 26), some (.int x1), some (.int x2)]) (s1 := []) (n1 := 94) (M1 := (I, J, xrf)) (p2 := 141) (l2 := [some (.ref 26), some (.int x1), some (.int x2)]) (s2 := []) (n2 := 94) (M2 := (I, J, xrf)) (fun f => rfl) (fun hc => ?_) (fun hc => ?_)
  · rw [if_pos hc] at h
    exact p_X10_kindOf_30 x1 x2 I J h hC
  · rw [if_neg hc] at h
    exact p_X10_kindOf_29 x1 x2 I J h hC
theorem p_X10_kindOf_27 {L : Nat} {xs : Nat → Int32} {d : Nat} {Q : xO → Prop} (x1 : Int32) (x2 : Int32) (I : xI) (J : xJ) {t : Int32 × xI × xJ} (h : f_X10_kindOf_27 x1 x2 I J = some t) (hC : (c_X10_kindOf Q) t) : Rn L xs (d + 5) 134 132 [some (.ref 26), some (.int x1), some (.int x2)] [] 94 (I, J, xrf) Q := by
  unfold f_X10_kindOf_27 at h
  cases h
  exact Rn.ret 2 (o := ((some (.int 8)), 94, (I, J, xrf))) (fun f => rfl) hC
theorem p_X10_kindOf_26 {L : Nat} {xs : Nat → Int32} {d : Nat} {Q : xO → Prop} (x1 : Int32) (x2 : Int32) (s0 : Int32) (I : xI) (J : xJ) {t : Int32 × xI × xJ} (h : f_X10_kindOf_26 x1 x2 s0 I J = some t) (hC : (c_X10_kindOf Q) t) : Rn L xs (d + 5) 134 129 [some (.ref 26), some (.int x1), some (.int x2)] [.int s0] 94 (I, J, xrf) Q := by
  unfold f_X10_kindOf_26 at h
  refine Rn.fi 1 (c := s0 = 0) (p1 := 135) (l1 := [some (.ref 26), some (.int x1), some (.int x2)]) (s1 := []) (n1 := 94) (M1 := (I, J, xrf)) (p2 := 132) (l2 := [some (.ref 26), some (.int x1), some (.int x2)]) (s2 := []) (n2 := 94) (M2 := (I, J, xrf)) (fun f => rfl) (fun hc => ?_) (fun hc => ?_)
  · rw [if_pos hc] at h
    exact p_X10_kindOf_28 x1 x2 I J h hC
  · rw [if_neg hc] at h
    exact p_X10_kindOf_27 x1 x2 I J h hC
theorem p_X10_kindOf_25 {L : Nat} {xs : Nat → Int32} {d : Nat} {Q : xO → Prop} (x1 : Int32) (x2 : Int32) (I : xI) (J : xJ) {t : Int32 × xI × xJ} (h : f_X10_kindOf_25 x1 x2 I J = some t) (hC : (c_X10_kindOf Q) t) : Rn L xs (d + 5) 134 118 [some (.ref 26), some (.int x1), some (.int x2)] [] 94 (I, J, xrf) Q := by
  unfold f_X10_kindOf_25 at h
  refine Rn.go 5 (j' := 134) (pc' := 126) (ls' := [some (.ref 26), some (.int x1), some (.int x2)]) (st' := [.ref 2005, .int x2, .int x1, .ref 24]) (n' := 94) (M' := (I, J, xrf)) (fun f => rfl) ?_
  obtain ⟨o, ho, h⟩ := Option.bind_eq_some_iff.mp h
  refine Rn.call (d1 := d + 4) (j1 := 126) (ls1 := [some (.ref 24), some (.int x1), some (.int x2), some (.ref 2005), none]) (rest := []) (fun f => rfl) ?_
  refine p_X9_says (d := d + 0) x1 x2 2005 I J (t := o) ho ?_
  exact p_X10_kindOf_26 x1 x2 o.1 o.2.1 o.2.2 h hC
theorem p_X10_kindOf_24 {L : Nat} {xs : Nat → Int32} {d : Nat} {Q : xO → Prop} (x1 : Int32) (x2 : Int32) (I : xI) (J : xJ) {t : Int32 × xI × xJ} (h : f_X10_kindOf_24 x1 x2 I J = some t) (hC : (c_X10_kindOf Q) t) : Rn L xs (d + 5) 134 115 [some (.ref 26), some (.int x1), some (.int x2)] [] 94 (I, J, xrf) Q := by
  unfold f_X10_kindOf_24 at h
  cases h
  exact Rn.ret 2 (o := ((some (.int 7)), 94, (I, J, xrf))) (fun f => rfl) hC
theorem p_X10_kindOf_23 {L : Nat} {xs : Nat → Int32} {d : Nat} {Q : xO → Prop} (x1 : Int32) (x2 : Int32) (s0 : Int32) (I : xI) (J : xJ) {t : Int32 × xI × xJ} (h : f_X10_kindOf_23 x1 x2 s0 I J = some t) (hC : (c_X10_kindOf Q) t) : Rn L xs (d + 5) 134 112 [some (.ref 26), some (.int x1), some (.int x2)] [.int s0] 94 (I, J, xrf) Q := by
  unfold f_X10_kindOf_23 at h
  refine Rn.fi 1 (c := s0 = 0) (p1 := 118) (l1 := [some (.ref 26), some (.int x1), some (.int x2)]) (s1 := []) (n1 := 94) (M1 := (I, J, xrf)) (p2 := 115) (l2 := [some (.ref 26), some (.int x1), some (.int x2)]) (s2 := []) (n2 := 94) (M2 := (I, J, xrf)) (fun f => rfl) (fun hc => ?_) (fun hc => ?_)
  · rw [if_pos hc] at h
    exact p_X10_kindOf_25 x1 x2 I J h hC
  · rw [if_neg hc] at h
    exact p_X10_kindOf_24 x1 x2 I J h hC
theorem p_X10_kindOf_22 {L : Nat} {xs : Nat → Int32} {d : Nat} {Q : xO → Prop} (x1 : Int32) (x2 : Int32) (I : xI) (J : xJ) {t : Int32 × xI × xJ} (h : f_X10_kindOf_22 x1 x2 I J = some t) (hC : (c_X10_kindOf Q) t) : Rn L xs (d + 5) 134 101 [some (.ref 26), some (.int x1), some (.int x2)] [] 94 (I, J, xrf) Q := by
  unfold f_X10_kindOf_22 at h
  refine Rn.go 5 (j' := 134) (pc' := 109) (ls' := [some (.ref 26), some (.int x1), some (.int x2)]) (st' := [.ref 2004, .int x2, .int x1, .ref 24]) (n' := 94) (M' := (I, J, xrf)) (fun f => rfl) ?_
  obtain ⟨o, ho, h⟩ := Option.bind_eq_some_iff.mp h
  refine Rn.call (d1 := d + 4) (j1 := 126) (ls1 := [some (.ref 24), some (.int x1), some (.int x2), some (.ref 2004), none]) (rest := []) (fun f => rfl) ?_
  refine p_X9_says (d := d + 0) x1 x2 2004 I J (t := o) ho ?_
  exact p_X10_kindOf_23 x1 x2 o.1 o.2.1 o.2.2 h hC
theorem p_X10_kindOf_21 {L : Nat} {xs : Nat → Int32} {d : Nat} {Q : xO → Prop} (x1 : Int32) (x2 : Int32) (I : xI) (J : xJ) {t : Int32 × xI × xJ} (h : f_X10_kindOf_21 x1 x2 I J = some t) (hC : (c_X10_kindOf Q) t) : Rn L xs (d + 5) 134 98 [some (.ref 26), some (.int x1), some (.int x2)] [] 94 (I, J, xrf) Q := by
  unfold f_X10_kindOf_21 at h
  cases h
  exact Rn.ret 2 (o := ((some (.int 6)), 94, (I, J, xrf))) (fun f => rfl) hC
theorem p_X10_kindOf_20 {L : Nat} {xs : Nat → Int32} {d : Nat} {Q : xO → Prop} (x1 : Int32) (x2 : Int32) (s0 : Int32) (I : xI) (J : xJ) {t : Int32 × xI × xJ} (h : f_X10_kindOf_20 x1 x2 s0 I J = some t) (hC : (c_X10_kindOf Q) t) : Rn L xs (d + 5) 134 95 [some (.ref 26), some (.int x1), some (.int x2)] [.int s0] 94 (I, J, xrf) Q := by
  unfold f_X10_kindOf_20 at h
  refine Rn.fi 1 (c := s0 = 0) (p1 := 101) (l1 := [some (.ref 26), some (.int x1), some (.int x2)]) (s1 := []) (n1 := 94) (M1 := (I, J, xrf)) (p2 := 98) (l2 := [some (.ref 26), some (.int x1), some (.int x2)]) (s2 := []) (n2 := 94) (M2 := (I, J, xrf)) (fun f => rfl) (fun hc => ?_) (fun hc => ?_)
  · rw [if_pos hc] at h
    exact p_X10_kindOf_22 x1 x2 I J h hC
  · rw [if_neg hc] at h
    exact p_X10_kindOf_21 x1 x2 I J h hC
theorem p_X10_kindOf_19 {L : Nat} {xs : Nat → Int32} {d : Nat} {Q : xO → Prop} (x1 : Int32) (x2 : Int32) (I : xI) (J : xJ) {t : Int32 × xI × xJ} (h : f_X10_kindOf_19 x1 x2 I J = some t) (hC : (c_X10_kindOf Q) t) : Rn L xs (d + 5) 134 84 [some (.ref 26), some (.int x1), some (.int x2)] [] 94 (I, J, xrf) Q := by
  unfold f_X10_kindOf_19 at h
  refine Rn.go 5 (j' := 134) (pc' := 92) (ls' := [some (.ref 26), some (.int x1), some (.int x2)]) (st' := [.ref 2003, .int x2, .int x1, .ref 24]) (n' := 94) (M' := (I, J, xrf)) (fun f => rfl) ?_
  obtain ⟨o, ho, h⟩ := Option.bind_eq_some_iff.mp h
  refine Rn.call (d1 := d + 4) (j1 := 126) (ls1 := [some (.ref 24), some (.int x1), some (.int x2), some (.ref 2003), none]) (rest := []) (fun f => rfl) ?_
  refine p_X9_says (d := d + 0) x1 x2 2003 I J (t := o) ho ?_
  exact p_X10_kindOf_20 x1 x2 o.1 o.2.1 o.2.2 h hC
theorem p_X10_kindOf_18 {L : Nat} {xs : Nat → Int32} {d : Nat} {Q : xO → Prop} (x1 : Int32) (x2 : Int32) (I : xI) (J : xJ) {t : Int32 × xI × xJ} (h : f_X10_kindOf_18 x1 x2 I J = some t) (hC : (c_X10_kindOf Q) t) : Rn L xs (d + 5) 134 82 [some (.ref 26), some (.int x1), some (.int x2)] [] 94 (I, J, xrf) Q := by
  unfold f_X10_kindOf_18 at h
  cases h
  exact Rn.ret 2 (o := ((some (.int 5)), 94, (I, J, xrf))) (fun f => rfl) hC
theorem p_X10_kindOf_17 {L : Nat} {xs : Nat → Int32} {d : Nat} {Q : xO → Prop} (x1 : Int32) (x2 : Int32) (s0 : Int32) (I : xI) (J : xJ) {t : Int32 × xI × xJ} (h : f_X10_kindOf_17 x1 x2 s0 I J = some t) (hC : (c_X10_kindOf Q) t) : Rn L xs (d + 5) 134 79 [some (.ref 26), some (.int x1), some (.int x2)] [.int s0] 94 (I, J, xrf) Q := by
  unfold f_X10_kindOf_17 at h
  refine Rn.fi 1 (c := s0 = 0) (p1 := 84) (l1 := [some (.ref 26), some (.int x1), some (.int x2)]) (s1 := []) (n1 := 94) (M1 := (I, J, xrf)) (p2 := 82) (l2 := [some (.ref 26), some (.int x1), some (.int x2)]) (s2 := []) (n2 := 94) (M2 := (I, J, xrf)) (fun f => rfl) (fun hc => ?_) (fun hc => ?_)
  · rw [if_pos hc] at h
    exact p_X10_kindOf_19 x1 x2 I J h hC
  · rw [if_neg hc] at h
    exact p_X10_kindOf_18 x1 x2 I J h hC
theorem p_X10_kindOf_16 {L : Nat} {xs : Nat → Int32} {d : Nat} {Q : xO → Prop} (x1 : Int32) (x2 : Int32) (I : xI) (J : xJ) {t : Int32 × xI × xJ} (h : f_X10_kindOf_16 x1 x2 I J = some t) (hC : (c_X10_kindOf Q) t) : Rn L xs (d + 5) 134 68 [some (.ref 26), some (.int x1), some (.int x2)] [] 94 (I, J, xrf) Q := by
  unfold f_X10_kindOf_16 at h
  refine Rn.go 5 (j' := 134) (pc' := 76) (ls' := [some (.ref 26), some (.int x1), some (.int x2)]) (st' := [.ref 2002, .int x2, .int x1, .ref 24]) (n' := 94) (M' := (I, J, xrf)) (fun f => rfl) ?_
  obtain ⟨o, ho, h⟩ := Option.bind_eq_some_iff.mp h
  refine Rn.call (d1 := d + 4) (j1 := 126) (ls1 := [some (.ref 24), some (.int x1), some (.int x2), some (.ref 2002), none]) (rest := []) (fun f => rfl) ?_
  refine p_X9_says (d := d + 0) x1 x2 2002 I J (t := o) ho ?_
  exact p_X10_kindOf_17 x1 x2 o.1 o.2.1 o.2.2 h hC
theorem p_X10_kindOf_15 {L : Nat} {xs : Nat → Int32} {d : Nat} {Q : xO → Prop} (x1 : Int32) (x2 : Int32) (I : xI) (J : xJ) {t : Int32 × xI × xJ} (h : f_X10_kindOf_15 x1 x2 I J = some t) (hC : (c_X10_kindOf Q) t) : Rn L xs (d + 5) 134 66 [some (.ref 26), some (.int x1), some (.int x2)] [] 94 (I, J, xrf) Q := by
  unfold f_X10_kindOf_15 at h
  cases h
  exact Rn.ret 2 (o := ((some (.int 4)), 94, (I, J, xrf))) (fun f => rfl) hC
theorem p_X10_kindOf_14 {L : Nat} {xs : Nat → Int32} {d : Nat} {Q : xO → Prop} (x1 : Int32) (x2 : Int32) (s0 : Int32) (I : xI) (J : xJ) {t : Int32 × xI × xJ} (h : f_X10_kindOf_14 x1 x2 s0 I J = some t) (hC : (c_X10_kindOf Q) t) : Rn L xs (d + 5) 134 63 [some (.ref 26), some (.int x1), some (.int x2)] [.int s0] 94 (I, J, xrf) Q := by
  unfold f_X10_kindOf_14 at h
  refine Rn.fi 1 (c := s0 = 0) (p1 := 68) (l1 := [some (.ref 26), some (.int x1), some (.int x2)]) (s1 := []) (n1 := 94) (M1 := (I, J, xrf)) (p2 := 66) (l2 := [some (.ref 26), some (.int x1), some (.int x2)]) (s2 := []) (n2 := 94) (M2 := (I, J, xrf)) (fun f => rfl) (fun hc => ?_) (fun hc => ?_)
  · rw [if_pos hc] at h
    exact p_X10_kindOf_16 x1 x2 I J h hC
  · rw [if_neg hc] at h
    exact p_X10_kindOf_15 x1 x2 I J h hC
theorem p_X10_kindOf_13 {L : Nat} {xs : Nat → Int32} {d : Nat} {Q : xO → Prop} (x1 : Int32) (x2 : Int32) (I : xI) (J : xJ) {t : Int32 × xI × xJ} (h : f_X10_kindOf_13 x1 x2 I J = some t) (hC : (c_X10_kindOf Q) t) : Rn L xs (d + 5) 134 52 [some (.ref 26), some (.int x1), some (.int x2)] [] 94 (I, J, xrf) Q := by
  unfold f_X10_kindOf_13 at h
  refine Rn.go 5 (j' := 134) (pc' := 60) (ls' := [some (.ref 26), some (.int x1), some (.int x2)]) (st' := [.ref 2001, .int x2, .int x1, .ref 24]) (n' := 94) (M' := (I, J, xrf)) (fun f => rfl) ?_
  obtain ⟨o, ho, h⟩ := Option.bind_eq_some_iff.mp h
  refine Rn.call (d1 := d + 4) (j1 := 126) (ls1 := [some (.ref 24), some (.int x1), some (.int x2), some (.ref 2001), none]) (rest := []) (fun f => rfl) ?_
  refine p_X9_says (d := d + 0) x1 x2 2001 I J (t := o) ho ?_
  exact p_X10_kindOf_14 x1 x2 o.1 o.2.1 o.2.2 h hC
theorem p_X10_kindOf_12 {L : Nat} {xs : Nat → Int32} {d : Nat} {Q : xO → Prop} (x1 : Int32) (x2 : Int32) (s0 : Int32) (I : xI) (J : xJ) {t : Int32 × xI × xJ} (h : f_X10_kindOf_12 x1 x2 s0 I J = some t) (hC : (c_X10_kindOf Q) t) : Rn L xs (d + 5) 134 51 [some (.ref 26), some (.int x1), some (.int x2)] [.int s0] 94 (I, J, xrf) Q := by
  unfold f_X10_kindOf_12 at h
  cases h
  exact Rn.ret 1 (o := ((some (.int s0)), 94, (I, J, xrf))) (fun f => rfl) hC
theorem p_X10_kindOf_11 {L : Nat} {xs : Nat → Int32} {d : Nat} {Q : xO → Prop} (x1 : Int32) (x2 : Int32) (I : xI) (J : xJ) {t : Int32 × xI × xJ} (h : f_X10_kindOf_11 x1 x2 I J = some t) (hC : (c_X10_kindOf Q) t) : Rn L xs (d + 5) 134 50 [some (.ref 26), some (.int x1), some (.int x2)] [] 94 (I, J, xrf) Q := by
  unfold f_X10_kindOf_11 at h
  refine Rn.go 1 (j' := 134) (pc' := 51) (ls' := [some (.ref 26), some (.int x1), some (.int x2)]) (st' := [.int 0]) (n' := 94) (M' := (I, J, xrf)) (fun f => rfl) ?_
  exact p_X10_kindOf_12 x1 x2 0 I J h hC
theorem p_X10_kindOf_10 {L : Nat} {xs : Nat → Int32} {d : Nat} {Q : xO → Prop} (x1 : Int32) (x2 : Int32) (I : xI) (J : xJ) {t : Int32 × xI × xJ} (h : f_X10_kindOf_10 x1 x2 I J = some t) (hC : (c_X10_kindOf Q) t) : Rn L xs (d + 5) 134 46 [some (.ref 26), some (.int x1), some (.int x2)] [] 94 (I, J, xrf) Q := by
  unfold f_X10_kindOf_10 at h
  refine Rn.go 2 (j' := 134) (pc' := 51) (ls' := [some (.ref 26), some (.int x1), some (.int x2)]) (st' := [.int 3]) (n' := 94) (M' := (I, J, xrf)) (fun f => rfl) ?_
  exact p_X10_kindOf_12 x1 x2 3 I J h hC
theorem p_X10_kindOf_9 {L : Nat} {xs : Nat → Int32} {d : Nat} {Q : xO → Prop} (x1 : Int32) (x2 : Int32) (s0 : Int32) (I : xI) (J : xJ) {t : Int32 × xI × xJ} (h : f_X10_kindOf_9 x1 x2 s0 I J = some t) (hC : (c_X10_kindOf Q) t) : Rn L xs (d + 5) 134 41 [some (.ref 26), some (.int x1), some (.int x2)] [.int s0] 94 (I, J, xrf) Q := by
  unfold f_X10_kindOf_9 at h
  refine Rn.fi 2 (c := s0 = 59) (p1 := 46) (l1 := [some (.ref 26), some (.int x1), some (.int x2)]) (s1 := []) (n1 := 94) (M1 := (I, J, xrf)) (p2 := 50) (l2 := [some (.ref 26), some (.int x1), some (.int x2)]) (s2 := []) (n2 := 94) (M2 := (I, J, xrf)) (fun f => rfl) (fun hc => ?_) (fun hc => ?_)
  · rw [if_pos hc] at h
    exact p_X10_kindOf_10 x1 x2 I J h hC
  · rw [if_neg hc] at h
    exact p_X10_kindOf_11 x1 x2 I J h hC
theorem p_X10_kindOf_8 {L : Nat} {xs : Nat → Int32} {d : Nat} {Q : xO → Prop} (x1 : Int32) (x2 : Int32) (I : xI) (J : xJ) {t : Int32 × xI × xJ} (h : f_X10_kindOf_8 x1 x2 I J = some t) (hC : (c_X10_kindOf Q) t) : Rn L xs (d + 5) 134 33 [some (.ref 26), some (.int x1), some (.int x2)] [] 94 (I, J, xrf) Q := by
  unfold f_X10_kindOf_8 at h
  refine Rn.go 3 (j' := 134) (pc' := 38) (ls' := [some (.ref 26), some (.int x1), some (.int x2)]) (st' := [.int x1, .ref 24]) (n' := 94) (M' := (I, J, xrf)) (fun f => rfl) ?_
  obtain ⟨o, ho, h⟩ := Option.bind_eq_some_iff.mp h
  refine Rn.call (d1 := d + 4) (j1 := 120) (ls1 := [some (.ref 24), some (.int x1)]) (rest := []) (fun f => rfl) ?_
  refine p_X9_byteAt (d := d + 3) x1 I J (t := o) ho ?_
  exact p_X10_kindOf_9 x1 x2 o.1 o.2.1 o.2.2 h hC
theorem p_X10_kindOf_7 {L : Nat} {xs : Nat → Int32} {d : Nat} {Q : xO → Prop} (x1 : Int32) (x2 : Int32) (s0 : Int32) (I : xI) (J : xJ) {t : Int32 × xI × xJ} (h : f_X10_kindOf_7 x1 x2 s0 I J = some t) (hC : (c_X10_kindOf Q) t) : Rn L xs (d + 5) 134 30 [some (.ref 26), some (.int x1), some (.int x2)] [.int s0] 94 (I, J, xrf) Q := by
  unfold f_X10_kindOf_7 at h
  refine Rn.fi 1 (c := s0 = 0) (p1 := 33) (l1 := [some (.ref 26), some (.int x1), some (.int x2)]) (s1 := []) (n1 := 94) (M1 := (I, J, xrf)) (p2 := 52) (l2 := [some (.ref 26), some (.int x1), some (.int x2)]) (s2 := []) (n2 := 94) (M2 := (I, J, xrf)) (fun f => rfl) (fun hc => ?_) (fun hc => ?_)
  · rw [if_pos hc] at h
    exact p_X10_kindOf_8 x1 x2 I J h hC
  · rw [if_neg hc] at h
    exact p_X10_kindOf_13 x1 x2 I J h hC
theorem p_X10_kindOf_6 {L : Nat} {xs : Nat → Int32} {d : Nat} {Q : xO → Prop} (x1 : Int32) (x2 : Int32) (I : xI) (J : xJ) {t : Int32 × xI × xJ} (h : f_X10_kindOf_6 x1 x2 I J = some t) (hC : (c_X10_kindOf Q) t) : Rn L xs (d + 5) 134 22 [some (.ref 26), some (.int x1), some (.int x2)] [] 94 (I, J, xrf) Q := by
  unfold f_X10_kindOf_6 at h
  refine Rn.go 3 (j' := 134) (pc' := 27) (ls' := [some (.ref 26), some (.int x1), some (.int x2)]) (st' := [.int x1, .ref 24]) (n' := 94) (M' := (I, J, xrf)) (fun f => rfl) ?_
  obtain ⟨o, ho, h⟩ := Option.bind_eq_some_iff.mp h
  refine Rn.call (d1 := d + 4) (j1 := 121) (ls1 := [some (.ref 24), some (.int x1)]) (rest := []) (fun f => rfl) ?_
  refine p_X9_isLetter (d := d + 2) x1 I J (t := o) ho ?_
  exact p_X10_kindOf_7 x1 x2 o.1 o.2.1 o.2.2 h hC
theorem p_X10_kindOf_5 {L : Nat} {xs : Nat → Int32} {d : Nat} {Q : xO → Prop} (x1 : Int32) (x2 : Int32) (s0 : Int32) (I : xI) (J : xJ) {t : Int32 × xI × xJ} (h : f_X10_kindOf_5 x1 x2 s0 I J = some t) (hC : (c_X10_kindOf Q) t) : Rn L xs (d + 5) 134 21 [some (.ref 26), some (.int x1), some (.int x2)] [.int s0] 94 (I, J, xrf) Q := by
  unfold f_X10_kindOf_5 at h
  cases h
  exact Rn.ret 1 (o := ((some (.int s0)), 94, (I, J, xrf))) (fun f => rfl) hC
theorem p_X10_kindOf_4 {L : Nat} {xs : Nat → Int32} {d : Nat} {Q : xO → Prop} (x1 : Int32) (x2 : Int32) (I : xI) (J : xJ) {t : Int32 × xI × xJ} (h : f_X10_kindOf_4 x1 x2 I J = some t) (hC : (c_X10_kindOf Q) t) : Rn L xs (d + 5) 134 20 [some (.ref 26), some (.int x1), some (.int x2)] [] 94 (I, J, xrf) Q := by
  unfold f_X10_kindOf_4 at h
  refine Rn.go 1 (j' := 134) (pc' := 21) (ls' := [some (.ref 26), some (.int x1), some (.int x2)]) (st' := [.int 0]) (n' := 94) (M' := (I, J, xrf)) (fun f => rfl) ?_
  exact p_X10_kindOf_5 x1 x2 0 I J h hC
theorem p_X10_kindOf_3 {L : Nat} {xs : Nat → Int32} {d : Nat} {Q : xO → Prop} (x1 : Int32) (x2 : Int32) (I : xI) (J : xJ) {t : Int32 × xI × xJ} (h : f_X10_kindOf_3 x1 x2 I J = some t) (hC : (c_X10_kindOf Q) t) : Rn L xs (d + 5) 134 16 [some (.ref 26), some (.int x1), some (.int x2)] [] 94 (I, J, xrf) Q := by
  unfold f_X10_kindOf_3 at h
  refine Rn.go 2 (j' := 134) (pc' := 21) (ls' := [some (.ref 26), some (.int x1), some (.int x2)]) (st' := [.int 2]) (n' := 94) (M' := (I, J, xrf)) (fun f => rfl) ?_
  exact p_X10_kindOf_5 x1 x2 2 I J h hC
theorem p_X10_kindOf_2 {L : Nat} {xs : Nat → Int32} {d : Nat} {Q : xO → Prop} (x1 : Int32) (x2 : Int32) (I : xI) (J : xJ) {t : Int32 × xI × xJ} (h : f_X10_kindOf_2 x1 x2 I J = some t) (hC : (c_X10_kindOf Q) t) : Rn L xs (d + 5) 134 11 [some (.ref 26), some (.int x1), some (.int x2)] [] 94 (I, J, xrf) Q := by
  unfold f_X10_kindOf_2 at h
  refine Rn.fi 3 (c := 4 < x2) (p1 := 20) (l1 := [some (.ref 26), some (.int x1), some (.int x2)]) (s1 := []) (n1 := 94) (M1 := (I, J, xrf)) (p2 := 16) (l2 := [some (.ref 26), some (.int x1), some (.int x2)]) (s2 := []) (n2 := 94) (M2 := (I, J, xrf)) (fun f => rfl) (fun hc => ?_) (fun hc => ?_)
  · rw [if_pos hc] at h
    exact p_X10_kindOf_4 x1 x2 I J h hC
  · rw [if_neg hc] at h
    exact p_X10_kindOf_3 x1 x2 I J h hC
theorem p_X10_kindOf_1 {L : Nat} {xs : Nat → Int32} {d : Nat} {Q : xO → Prop} (x1 : Int32) (x2 : Int32) (s0 : Int32) (I : xI) (J : xJ) {t : Int32 × xI × xJ} (h : f_X10_kindOf_1 x1 x2 s0 I J = some t) (hC : (c_X10_kindOf Q) t) : Rn L xs (d + 5) 134 8 [some (.ref 26), some (.int x1), some (.int x2)] [.int s0] 94 (I, J, xrf) Q := by
  unfold f_X10_kindOf_1 at h
  refine Rn.fi 1 (c := s0 = 0) (p1 := 22) (l1 := [some (.ref 26), some (.int x1), some (.int x2)]) (s1 := []) (n1 := 94) (M1 := (I, J, xrf)) (p2 := 11) (l2 := [some (.ref 26), some (.int x1), some (.int x2)]) (s2 := []) (n2 := 94) (M2 := (I, J, xrf)) (fun f => rfl) (fun hc => ?_) (fun hc => ?_)
  · rw [if_pos hc] at h
    exact p_X10_kindOf_6 x1 x2 I J h hC
  · rw [if_neg hc] at h
    exact p_X10_kindOf_2 x1 x2 I J h hC
theorem p_X10_kindOf_0 {L : Nat} {xs : Nat → Int32} {d : Nat} {Q : xO → Prop} (x1 : Int32) (x2 : Int32) (I : xI) (J : xJ) {t : Int32 × xI × xJ} (h : f_X10_kindOf_0 x1 x2 I J = some t) (hC : (c_X10_kindOf Q) t) : Rn L xs (d + 5) 134 0 [some (.ref 26), some (.int x1), some (.int x2)] [] 94 (I, J, xrf) Q := by
  unfold f_X10_kindOf_0 at h
  refine Rn.go 3 (j' := 134) (pc' := 5) (ls' := [some (.ref 26), some (.int x1), some (.int x2)]) (st' := [.int x1, .ref 24]) (n' := 94) (M' := (I, J, xrf)) (fun f => rfl) ?_
  obtain ⟨o, ho, h⟩ := Option.bind_eq_some_iff.mp h
  refine Rn.call (d1 := d + 4) (j1 := 122) (ls1 := [some (.ref 24), some (.int x1)]) (rest := []) (fun f => rfl) ?_
  refine p_X9_isDigit (d := d + 2) x1 I J (t := o) ho ?_
  exact p_X10_kindOf_1 x1 x2 o.1 o.2.1 o.2.2 h hC
theorem p_X10_kindOf {L : Nat} {xs : Nat → Int32} {d : Nat} {Q : xO → Prop} (x1 : Int32) (x2 : Int32) (I : xI) (J : xJ) {t : Int32 × xI × xJ} (h : f_X10_kindOf x1 x2 I J = some t) (hC : Q ((some (.int t.1)), 94, (t.2.1, t.2.2, xrf))) : Rn L xs (d + 5) 134 0 [some (.ref 26), some (.int x1), some (.int x2)] [] 94 (I, J, xrf) Q := p_X10_kindOf_0 x1 x2 I J h hC
/-! X10_fits -/
def c_X10_fits (Q : xO → Prop) (t : Int32 × xI × xJ) : Prop := Q ((some (.int t.1)), 94, (t.2.1, t.2.2, xrf))
def f_X10_fits_7 (x0 : Int32) (x1 : Int32) (s0 : Int32) (I : xI) (J : xJ) : Option (Int32 × xI × xJ) := if s0 = 0 ∨ s0 = 1 then some (s0, I, J) else none
def f_X10_fits_5 (x0 : Int32) (x1 : Int32) (I : xI) (J : xJ) : Option (Int32 × xI × xJ) := f_X10_fits_7 x0 x1 1 I J
def f_X10_fits_6 (x0 : Int32) (x1 : Int32) (I : xI) (J : xJ) : Option (Int32 × xI × xJ) := f_X10_fits_7 x0 x1 0 I J
def f_X10_fits_4 (x0 : Int32) (x1 : Int32) (I : xI) (J : xJ) : Option (Int32 × xI × xJ) := if x1 = 8 then f_X10_fits_5 x0 x1 I J else f_X10_fits_6 x0 x1 I J
def f_X10_fits_3 (x0 : Int32) (x1 : Int32) (I : xI) (J : xJ) : Option (Int32 × xI × xJ) := if x0 = 116 then f_X10_fits_4 x0 x1 I J else f_X10_fits_6 x0 x1 I J
def f_X10_fits_2 (x0 : Int32) (x1 : Int32) (I : xI) (J : xJ) : Option (Int32 × xI × xJ) := if x1 = 1 then f_X10_fits_5 x0 x1 I J else f_X10_fits_3 x0 x1 I J
def f_X10_fits_15 (x0 : Int32) (x1 : Int32) (s0 : Int32) (I : xI) (J : xJ) : Option (Int32 × xI × xJ) := if s0 = 0 ∨ s0 = 1 then some (s0, I, J) else none
def f_X10_fits_13 (x0 : Int32) (x1 : Int32) (I : xI) (J : xJ) : Option (Int32 × xI × xJ) := f_X10_fits_15 x0 x1 1 I J
def f_X10_fits_14 (x0 : Int32) (x1 : Int32) (I : xI) (J : xJ) : Option (Int32 × xI × xJ) := f_X10_fits_15 x0 x1 0 I J
def f_X10_fits_12 (x0 : Int32) (x1 : Int32) (I : xI) (J : xJ) : Option (Int32 × xI × xJ) := if x1 = 8 then f_X10_fits_13 x0 x1 I J else f_X10_fits_14 x0 x1 I J
def f_X10_fits_11 (x0 : Int32) (x1 : Int32) (I : xI) (J : xJ) : Option (Int32 × xI × xJ) := if x0 = 97 then f_X10_fits_12 x0 x1 I J else f_X10_fits_14 x0 x1 I J
def f_X10_fits_10 (x0 : Int32) (x1 : Int32) (I : xI) (J : xJ) : Option (Int32 × xI × xJ) := if x1 = 2 then f_X10_fits_13 x0 x1 I J else f_X10_fits_11 x0 x1 I J
def f_X10_fits_19 (x0 : Int32) (x1 : Int32) (s0 : Int32) (I : xI) (J : xJ) : Option (Int32 × xI × xJ) := if s0 = 0 ∨ s0 = 1 then some (s0, I, J) else none
def f_X10_fits_18 (x0 : Int32) (x1 : Int32) (I : xI) (J : xJ) : Option (Int32 × xI × xJ) := f_X10_fits_19 x0 x1 0 I J
def f_X10_fits_17 (x0 : Int32) (x1 : Int32) (I : xI) (J : xJ) : Option (Int32 × xI × xJ) := f_X10_fits_19 x0 x1 1 I J
def f_X10_fits_16 (x0 : Int32) (x1 : Int32) (I : xI) (J : xJ) : Option (Int32 × xI × xJ) := if x1 = 3 then f_X10_fits_17 x0 x1 I J else f_X10_fits_18 x0 x1 I J
def f_X10_fits_9 (x0 : Int32) (x1 : Int32) (I : xI) (J : xJ) : Option (Int32 × xI × xJ) := if x0 = 97 then f_X10_fits_10 x0 x1 I J else f_X10_fits_16 x0 x1 I J
def f_X10_fits_8 (x0 : Int32) (x1 : Int32) (I : xI) (J : xJ) : Option (Int32 × xI × xJ) := if x0 = 105 then f_X10_fits_10 x0 x1 I J else f_X10_fits_9 x0 x1 I J
def f_X10_fits_1 (x0 : Int32) (x1 : Int32) (I : xI) (J : xJ) : Option (Int32 × xI × xJ) := if x0 = 116 then f_X10_fits_2 x0 x1 I J else f_X10_fits_8 x0 x1 I J
def f_X10_fits_0 (x0 : Int32) (x1 : Int32) (I : xI) (J : xJ) : Option (Int32 × xI × xJ) := if x0 = 110 then f_X10_fits_2 x0 x1 I J else f_X10_fits_1 x0 x1 I J
def f_X10_fits (x0 : Int32) (x1 : Int32) (I : xI) (J : xJ) : Option (Int32 × xI × xJ) := f_X10_fits_0 x0 x1 I J
theorem p_X10_fits_7 {L : Nat} {xs : Nat → Int32} {d : Nat} {Q : xO → Prop} (x0 : Int32) (x1 : Int32) (s0 : Int32) (I : xI) (J : xJ) {t : Int32 × xI × xJ} (h : f_X10_fits_7 x0 x1 s0 I J = some t) (hC : (c_X10_fits Q) t) : Rn L xs (d + 1) 136 34 [some (.int x0), some (.int x1)] [.int s0] 94 (I, J, xrf) Q := by
  unfold f_X10_fits_7 at h
  obtain ⟨hc, h⟩ := xifT h
  cases h
  exact Rn.retT 1 (c := s0 = 0 ∨ s0 = 1) (o := ((some (.int s0)), 94, (I, J, xrf))) (fun f => rfl) hc hC
theorem p_X10_fits_5 {L : Nat} {xs : Nat → Int32} {d : Nat} {Q : xO → Prop} (x0 : Int32) (x1 : Int32) (I : xI) (J : xJ) {t : Int32 × xI × xJ} (h : f_X10_fits_5 x0 x1 I J = some t) (hC : (c_X10_fits Q) t) : Rn L xs (d + 1) 136 29 [some (.int x0), some (.int x1)] [] 94 (I, J, xrf) Q := by
  unfold f_X10_fits_5 at h
  refine Rn.go 2 (j' := 136) (pc' := 34) (ls' := [some (.int x0), some (.int x1)]) (st' := [.int 1]) (n' := 94) (M' := (I, J, xrf)) (fun f => rfl) ?_
  exact p_X10_fits_7 x0 x1 1 I J h hC
theorem p_X10_fits_6 {L : Nat} {xs : Nat → Int32} {d : Nat} {Q : xO → Prop} (x0 : Int32) (x1 : Int32) (I : xI) (J : xJ) {t : Int32 × xI × xJ} (h : f_X10_fits_6 x0 x1 I J = some t) (hC : (c_X10_fits Q) t) : Rn L xs (d + 1) 136 33 [some (.int x0), some (.int x1)] [] 94 (I, J, xrf) Q := by
  unfold f_X10_fits_6 at h
  refine Rn.go 1 (j' := 136) (pc' := 34) (ls' := [some (.int x0), some (.int x1)]) (st' := [.int 0]) (n' := 94) (M' := (I, J, xrf)) (fun f => rfl) ?_
  exact p_X10_fits_7 x0 x1 0 I J h hC
theorem p_X10_fits_4 {L : Nat} {xs : Nat → Int32} {d : Nat} {Q : xO → Prop} (x0 : Int32) (x1 : Int32) (I : xI) (J : xJ) {t : Int32 × xI × xJ} (h : f_X10_fits_4 x0 x1 I J = some t) (hC : (c_X10_fits Q) t) : Rn L xs (d + 1) 136 23 [some (.int x0), some (.int x1)] [] 94 (I, J, xrf) Q := by
  unfold f_X10_fits_4 at h
  refine Rn.fi 3 (c := x1 = 8) (p1 := 29) (l1 := [some (.int x0), some (.int x1)]) (s1 := []) (n1 := 94) (M1 := (I, J, xrf)) (p2 := 33) (l2 := [some (.int x0), some (.int x1)]) (s2 := []) (n2 := 94) (M2 := (I, J, xrf)) (fun f => rfl) (fun hc => ?_) (fun hc => ?_)
  · rw [if_pos hc] at h
    exact p_X10_fits_5 x0 x1 I J h hC
  · rw [if_neg hc] at h
    exact p_X10_fits_6 x0 x1 I J h hC
theorem p_X10_fits_3 {L : Nat} {xs : Nat → Int32} {d : Nat} {Q : xO → Prop} (x0 : Int32) (x1 : Int32) (I : xI) (J : xJ) {t : Int32 × xI × xJ} (h : f_X10_fits_3 x0 x1 I J = some t) (hC : (c_X10_fits Q) t) : Rn L xs (d + 1) 136 17 [some (.int x0), some (.int x1)] [] 94 (I, J, xrf) Q := by
  unfold f_X10_fits_3 at h
  refine Rn.fi 3 (c := x0 = 116) (p1 := 23) (l1 := [some (.int x0), some (.int x1)]) (s1 := []) (n1 := 94) (M1 := (I, J, xrf)) (p2 := 33) (l2 := [some (.int x0), some (.int x1)]) (s2 := []) (n2 := 94) (M2 := (I, J, xrf)) (fun f => rfl) (fun hc => ?_) (fun hc => ?_)
  · rw [if_pos hc] at h
    exact p_X10_fits_4 x0 x1 I J h hC
  · rw [if_neg hc] at h
    exact p_X10_fits_6 x0 x1 I J h hC
theorem p_X10_fits_2 {L : Nat} {xs : Nat → Int32} {d : Nat} {Q : xO → Prop} (x0 : Int32) (x1 : Int32) (I : xI) (J : xJ) {t : Int32 × xI × xJ} (h : f_X10_fits_2 x0 x1 I J = some t) (hC : (c_X10_fits Q) t) : Rn L xs (d + 1) 136 12 [some (.int x0), some (.int x1)] [] 94 (I, J, xrf) Q := by
  unfold f_X10_fits_2 at h
  refine Rn.fi 3 (c := x1 = 1) (p1 := 29) (l1 := [some (.int x0), some (.int x1)]) (s1 := []) (n1 := 94) (M1 := (I, J, xrf)) (p2 := 17) (l2 := [some (.int x0), some (.int x1)]) (s2 := []) (n2 := 94) (M2 := (I, J, xrf)) (fun f => rfl) (fun hc => ?_) (fun hc => ?_)
  · rw [if_pos hc] at h
    exact p_X10_fits_5 x0 x1 I J h hC
  · rw [if_neg hc] at h
    exact p_X10_fits_3 x0 x1 I J h hC
theorem p_X10_fits_15 {L : Nat} {xs : Nat → Int32} {d : Nat} {Q : xO → Prop} (x0 : Int32) (x1 : Int32) (s0 : Int32) (I : xI) (J : xJ) {t : Int32 × xI × xJ} (h : f_X10_fits_15 x0 x1 s0 I J = some t) (hC : (c_X10_fits Q) t) : Rn L xs (d + 1) 136 69 [some (.int x0), some (.int x1)] [.int s0] 94 (I, J, xrf) Q := by
  unfold f_X10_fits_15 at h
  obtain ⟨hc, h⟩ := xifT h
  cases h
  exact Rn.retT 1 (c := s0 = 0 ∨ s0 = 1) (o := ((some (.int s0)), 94, (I, J, xrf))) (fun f => rfl) hc hC
theorem p_X10_fits_13 {L : Nat} {xs : Nat → Int32} {d : Nat} {Q : xO → Prop} (x0 : Int32) (x1 : Int32) (I : xI) (J : xJ) {t : Int32 × xI × xJ} (h : f_X10_fits_13 x0 x1 I J = some t) (hC : (c_X10_fits Q) t) : Rn L xs (d + 1) 136 64 [some (.int x0), some (.int x1)] [] 94 (I, J, xrf) Q := by
  unfold f_X10_fits_13 at h
  refine Rn.go 2 (j' := 136) (pc' := 69) (ls' := [some (.int x0), some (.int x1)]) (st' := [.int 1]) (n' := 94) (M' := (I, J, xrf)) (fun f => rfl) ?_
  exact p_X10_fits_15 x0 x1 1 I J h hC
theorem p_X10_fits_14 {L : Nat} {xs : Nat → Int32} {d : Nat} {Q : xO → Prop} (x0 : Int32) (x1 : Int32) (I : xI) (J : xJ) {t : Int32 × xI × xJ} (h : f_X10_fits_14 x0 x1 I J = some t) (hC : (c_X10_fits Q) t) : Rn L xs (d + 1) 136 68 [some (.int x0), some (.int x1)] [] 94 (I, J, xrf) Q := by
  unfold f_X10_fits_14 at h
  refine Rn.go 1 (j' := 136) (pc' := 69) (ls' := [some (.int x0), some (.int x1)]) (st' := [.int 0]) (n' := 94) (M' := (I, J, xrf)) (fun f => rfl) ?_
  exact p_X10_fits_15 x0 x1 0 I J h hC
theorem p_X10_fits_12 {L : Nat} {xs : Nat → Int32} {d : Nat} {Q : xO → Prop} (x0 : Int32) (x1 : Int32) (I : xI) (J : xJ) {t : Int32 × xI × xJ} (h : f_X10_fits_12 x0 x1 I J = some t) (hC : (c_X10_fits Q) t) : Rn L xs (d + 1) 136 58 [some (.int x0), some (.int x1)] [] 94 (I, J, xrf) Q := by
  unfold f_X10_fits_12 at h
  refine Rn.fi 3 (c := x1 = 8) (p1 := 64) (l1 := [some (.int x0), some (.int x1)]) (s1 := []) (n1 := 94) (M1 := (I, J, xrf)) (p2 := 68) (l2 := [some (.int x0), some (.int x1)]) (s2 := []) (n2 := 94) (M2 := (I, J, xrf)) (fun f => rfl) (fun hc => ?_) (fun hc => ?_)
  · rw [if_pos hc] at h
    exact p_X10_fits_13 x0 x1 I J h hC
  · rw [if_neg hc] at h
    exact p_X10_fits_14 x0 x1 I J h hC
theorem p_X10_fits_11 {L : Nat} {xs : Nat → Int32} {d : Nat} {Q : xO → Prop} (x0 : Int32) (x1 : Int32) (I : xI) (J : xJ) {t : Int32 × xI × xJ} (h : f_X10_fits_11 x0 x1 I J = some t) (hC : (c_X10_fits Q) t) : Rn L xs (d + 1) 136 52 [some (.int x0), some (.int x1)] [] 94 (I, J, xrf) Q := by
  unfold f_X10_fits_11 at h
  refine Rn.fi 3 (c := x0 = 97) (p1 := 58) (l1 := [some (.int x0), some (.int x1)]) (s1 := []) (n1 := 94) (M1 := (I, J, xrf)) (p2 := 68) (l2 := [some (.int x0), some (.int x1)]) (s2 := []) (n2 := 94) (M2 := (I, J, xrf)) (fun f => rfl) (fun hc => ?_) (fun hc => ?_)
  · rw [if_pos hc] at h
    exact p_X10_fits_12 x0 x1 I J h hC
  · rw [if_neg hc] at h
    exact p_X10_fits_14 x0 x1 I J h hC
theorem p_X10_fits_10 {L : Nat} {xs : Nat → Int32} {d : Nat} {Q : xO → Prop} (x0 : Int32) (x1 : Int32) (I : xI) (J : xJ) {t : Int32 × xI × xJ} (h : f_X10_fits_10 x0 x1 I J = some t) (hC : (c_X10_fits Q) t) : Rn L xs (d + 1) 136 47 [some (.int x0), some (.int x1)] [] 94 (I, J, xrf) Q := by
  unfold f_X10_fits_10 at h
  refine Rn.fi 3 (c := x1 = 2) (p1 := 64) (l1 := [some (.int x0), some (.int x1)]) (s1 := []) (n1 := 94) (M1 := (I, J, xrf)) (p2 := 52) (l2 := [some (.int x0), some (.int x1)]) (s2 := []) (n2 := 94) (M2 := (I, J, xrf)) (fun f => rfl) (fun hc => ?_) (fun hc => ?_)
  · rw [if_pos hc] at h
    exact p_X10_fits_13 x0 x1 I J h hC
  · rw [if_neg hc] at h
    exact p_X10_fits_11 x0 x1 I J h hC
theorem p_X10_fits_19 {L : Nat} {xs : Nat → Int32} {d : Nat} {Q : xO → Prop} (x0 : Int32) (x1 : Int32) (s0 : Int32) (I : xI) (J : xJ) {t : Int32 × xI × xJ} (h : f_X10_fits_19 x0 x1 s0 I J = some t) (hC : (c_X10_fits Q) t) : Rn L xs (d + 1) 136 80 [some (.int x0), some (.int x1)] [.int s0] 94 (I, J, xrf) Q := by
  unfold f_X10_fits_19 at h
  obtain ⟨hc, h⟩ := xifT h
  cases h
  exact Rn.retT 1 (c := s0 = 0 ∨ s0 = 1) (o := ((some (.int s0)), 94, (I, J, xrf))) (fun f => rfl) hc hC
theorem p_X10_fits_18 {L : Nat} {xs : Nat → Int32} {d : Nat} {Q : xO → Prop} (x0 : Int32) (x1 : Int32) (I : xI) (J : xJ) {t : Int32 × xI × xJ} (h : f_X10_fits_18 x0 x1 I J = some t) (hC : (c_X10_fits Q) t) : Rn L xs (d + 1) 136 79 [some (.int x0), some (.int x1)] [] 94 (I, J, xrf) Q := by
  unfold f_X10_fits_18 at h
  refine Rn.go 1 (j' := 136) (pc' := 80) (ls' := [some (.int x0), some (.int x1)]) (st' := [.int 0]) (n' := 94) (M' := (I, J, xrf)) (fun f => rfl) ?_
  exact p_X10_fits_19 x0 x1 0 I J h hC
theorem p_X10_fits_17 {L : Nat} {xs : Nat → Int32} {d : Nat} {Q : xO → Prop} (x0 : Int32) (x1 : Int32) (I : xI) (J : xJ) {t : Int32 × xI × xJ} (h : f_X10_fits_17 x0 x1 I J = some t) (hC : (c_X10_fits Q) t) : Rn L xs (d + 1) 136 75 [some (.int x0), some (.int x1)] [] 94 (I, J, xrf) Q := by
  unfold f_X10_fits_17 at h
  refine Rn.go 2 (j' := 136) (pc' := 80) (ls' := [some (.int x0), some (.int x1)]) (st' := [.int 1]) (n' := 94) (M' := (I, J, xrf)) (fun f => rfl) ?_
  exact p_X10_fits_19 x0 x1 1 I J h hC
theorem p_X10_fits_16 {L : Nat} {xs : Nat → Int32} {d : Nat} {Q : xO → Prop} (x0 : Int32) (x1 : Int32) (I : xI) (J : xJ) {t : Int32 × xI × xJ} (h : f_X10_fits_16 x0 x1 I J = some t) (hC : (c_X10_fits Q) t) : Rn L xs (d + 1) 136 70 [some (.int x0), some (.int x1)] [] 94 (I, J, xrf) Q := by
  unfold f_X10_fits_16 at h
  refine Rn.fi 3 (c := x1 = 3) (p1 := 75) (l1 := [some (.int x0), some (.int x1)]) (s1 := []) (n1 := 94) (M1 := (I, J, xrf)) (p2 := 79) (l2 := [some (.int x0), some (.int x1)]) (s2 := []) (n2 := 94) (M2 := (I, J, xrf)) (fun f => rfl) (fun hc => ?_) (fun hc => ?_)
  · rw [if_pos hc] at h
    exact p_X10_fits_17 x0 x1 I J h hC
  · rw [if_neg hc] at h
    exact p_X10_fits_18 x0 x1 I J h hC
theorem p_X10_fits_9 {L : Nat} {xs : Nat → Int32} {d : Nat} {Q : xO → Prop} (x0 : Int32) (x1 : Int32) (I : xI) (J : xJ) {t : Int32 × xI × xJ} (h : f_X10_fits_9 x0 x1 I J = some t) (hC : (c_X10_fits Q) t) : Rn L xs (d + 1) 136 41 [some (.int x0), some (.int x1)] [] 94 (I, J, xrf) Q := by
  unfold f_X10_fits_9 at h
  refine Rn.fi 3 (c := x0 = 97) (p1 := 47) (l1 := [some (.int x0), some (.int x1)]) (s1 := []) (n1 := 94) (M1 := (I, J, xrf)) (p2 := 70) (l2 := [some (.int x0), some (.int x1)]) (s2 := []) (n2 := 94) (M2 := (I, J, xrf)) (fun f => rfl) (fun hc => ?_) (fun hc => ?_)
  · rw [if_pos hc] at h
    exact p_X10_fits_10 x0 x1 I J h hC
  · rw [if_neg hc] at h
    exact p_X10_fits_16 x0 x1 I J h hC
theorem p_X10_fits_8 {L : Nat} {xs : Nat → Int32} {d : Nat} {Q : xO → Prop} (x0 : Int32) (x1 : Int32) (I : xI) (J : xJ) {t : Int32 × xI × xJ} (h : f_X10_fits_8 x0 x1 I J = some t) (hC : (c_X10_fits Q) t) : Rn L xs (d + 1) 136 35 [some (.int x0), some (.int x1)] [] 94 (I, J, xrf) Q := by
  unfold f_X10_fits_8 at h
  refine Rn.fi 3 (c := x0 = 105) (p1 := 47) (l1 := [some (.int x0), some (.int x1)]) (s1 := []) (n1 := 94) (M1 := (I, J, xrf)) (p2 := 41) (l2 := [some (.int x0), some (.int x1)]) (s2 := []) (n2 := 94) (M2 := (I, J, xrf)) (fun f => rfl) (fun hc => ?_) (fun hc => ?_)
  · rw [if_pos hc] at h
    exact p_X10_fits_10 x0 x1 I J h hC
  · rw [if_neg hc] at h
    exact p_X10_fits_9 x0 x1 I J h hC
theorem p_X10_fits_1 {L : Nat} {xs : Nat → Int32} {d : Nat} {Q : xO → Prop} (x0 : Int32) (x1 : Int32) (I : xI) (J : xJ) {t : Int32 × xI × xJ} (h : f_X10_fits_1 x0 x1 I J = some t) (hC : (c_X10_fits Q) t) : Rn L xs (d + 1) 136 6 [some (.int x0), some (.int x1)] [] 94 (I, J, xrf) Q := by
  unfold f_X10_fits_1 at h
  refine Rn.fi 3 (c := x0 = 116) (p1 := 12) (l1 := [some (.int x0), some (.int x1)]) (s1 := []) (n1 := 94) (M1 := (I, J, xrf)) (p2 := 35) (l2 := [some (.int x0), some (.int x1)]) (s2 := []) (n2 := 94) (M2 := (I, J, xrf)) (fun f => rfl) (fun hc => ?_) (fun hc => ?_)
  · rw [if_pos hc] at h
    exact p_X10_fits_2 x0 x1 I J h hC
  · rw [if_neg hc] at h
    exact p_X10_fits_8 x0 x1 I J h hC
theorem p_X10_fits_0 {L : Nat} {xs : Nat → Int32} {d : Nat} {Q : xO → Prop} (x0 : Int32) (x1 : Int32) (I : xI) (J : xJ) {t : Int32 × xI × xJ} (h : f_X10_fits_0 x0 x1 I J = some t) (hC : (c_X10_fits Q) t) : Rn L xs (d + 1) 136 0 [some (.int x0), some (.int x1)] [] 94 (I, J, xrf) Q := by
  unfold f_X10_fits_0 at h
  refine Rn.fi 3 (c := x0 = 110) (p1 := 12) (l1 := [some (.int x0), some (.int x1)]) (s1 := []) (n1 := 94) (M1 := (I, J, xrf)) (p2 := 6) (l2 := [some (.int x0), some (.int x1)]) (s2 := []) (n2 := 94) (M2 := (I, J, xrf)) (fun f => rfl) (fun hc => ?_) (fun hc => ?_)
  · rw [if_pos hc] at h
    exact p_X10_fits_2 x0 x1 I J h hC
  · rw [if_neg hc] at h
    exact p_X10_fits_1 x0 x1 I J h hC
theorem p_X10_fits {L : Nat} {xs : Nat → Int32} {d : Nat} {Q : xO → Prop} (x0 : Int32) (x1 : Int32) (I : xI) (J : xJ) {t : Int32 × xI × xJ} (h : f_X10_fits x0 x1 I J = some t) (hC : Q ((some (.int t.1)), 94, (t.2.1, t.2.2, xrf))) : Rn L xs (d + 1) 136 0 [some (.int x0), some (.int x1)] [] 94 (I, J, xrf) Q := p_X10_fits_0 x0 x1 I J h hC
/-! X10_fail -/
def c_X10_fail (Q : xO → Prop) (t : Unit × xI × xJ) : Prop := Q (none, 94, (t.2.1, t.2.2, xrf))
def f_X10_fail_3 (x1 : Int32) (x2 : Int32) (I : xI) (J : xJ) : Option (Unit × xI × xJ) := some ((), I, J)
def f_X10_fail_2 (x1 : Int32) (x2 : Int32) (I : xI) (J : xJ) : Option (Unit × xI × xJ) := f_X10_fail_3 x1 x2 ((xup ((xup I 26 5 x1)) 26 6 x2)) J
def f_X10_fail_1 (x1 : Int32) (x2 : Int32) (I : xI) (J : xJ) : Option (Unit × xI × xJ) := if x1 = 0 then f_X10_fail_3 x1 x2 I J else f_X10_fail_2 x1 x2 I J
def f_X10_fail_0 (x1 : Int32) (x2 : Int32) (I : xI) (J : xJ) : Option (Unit × xI × xJ) := if (I 26 5) = 0 then f_X10_fail_1 x1 x2 I J else f_X10_fail_3 x1 x2 I J
def f_X10_fail (x1 : Int32) (x2 : Int32) (I : xI) (J : xJ) : Option (Unit × xI × xJ) := f_X10_fail_0 x1 x2 I J
theorem p_X10_fail_3 {L : Nat} {xs : Nat → Int32} {d : Nat} {Q : xO → Prop} (x1 : Int32) (x2 : Int32) (I : xI) (J : xJ) {t : Unit × xI × xJ} (h : f_X10_fail_3 x1 x2 I J = some t) (hC : (c_X10_fail Q) t) : Rn L xs (d + 1) 131 21 [some (.ref 26), some (.int x1), some (.int x2)] [] 94 (I, J, xrf) Q := by
  unfold f_X10_fail_3 at h
  cases h
  exact Rn.ret 1 (o := (none, 94, (I, J, xrf))) (fun f => rfl) hC
theorem p_X10_fail_2 {L : Nat} {xs : Nat → Int32} {d : Nat} {Q : xO → Prop} (x1 : Int32) (x2 : Int32) (I : xI) (J : xJ) {t : Unit × xI × xJ} (h : f_X10_fail_2 x1 x2 I J = some t) (hC : (c_X10_fail Q) t) : Rn L xs (d + 1) 131 11 [some (.ref 26), some (.int x1), some (.int x2)] [] 94 (I, J, xrf) Q := by
  unfold f_X10_fail_2 at h
  refine Rn.go 6 (j' := 131) (pc' := 21) (ls' := [some (.ref 26), some (.int x1), some (.int x2)]) (st' := []) (n' := 94) (M' := ((xup ((xup I 26 5 x1)) 26 6 x2), J, xrf)) (fun f => rfl) ?_
  exact p_X10_fail_3 x1 x2 ((xup ((xup I 26 5 x1)) 26 6 x2)) J h hC
theorem p_X10_fail_1 {L : Nat} {xs : Nat → Int32} {d : Nat} {Q : xO → Prop} (x1 : Int32) (x2 : Int32) (I : xI) (J : xJ) {t : Unit × xI × xJ} (h : f_X10_fail_1 x1 x2 I J = some t) (hC : (c_X10_fail Q) t) : Rn L xs (d + 1) 131 7 [some (.ref 26), some (.int x1), some (.int x2)] [] 94 (I, J, xrf) Q := by
  unfold f_X10_fail_1 at h
  refine Rn.fi 2 (c := x1 = 0) (p1 := 21) (l1 := [some (.ref 26), some (.int x1), some (.int x2)]) (s1 := []) (n1 := 94) (M1 := (I, J, xrf)) (p2 := 11) (l2 := [some (.ref 26), some (.int x1), some (.int x2)]) (s2 := []) (n2 := 94) (M2 := (I, J, xrf)) (fun f => rfl) (fun hc => ?_) (fun hc => ?_)
  · rw [if_pos hc] at h
    exact p_X10_fail_3 x1 x2 I J h hC
  · rw [if_neg hc] at h
    exact p_X10_fail_2 x1 x2 I J h hC
theorem p_X10_fail_0 {L : Nat} {xs : Nat → Int32} {d : Nat} {Q : xO → Prop} (x1 : Int32) (x2 : Int32) (I : xI) (J : xJ) {t : Unit × xI × xJ} (h : f_X10_fail_0 x1 x2 I J = some t) (hC : (c_X10_fail Q) t) : Rn L xs (d + 1) 131 0 [some (.ref 26), some (.int x1), some (.int x2)] [] 94 (I, J, xrf) Q := by
  unfold f_X10_fail_0 at h
  refine Rn.fi 3 (c := (I 26 5) = 0) (p1 := 7) (l1 := [some (.ref 26), some (.int x1), some (.int x2)]) (s1 := []) (n1 := 94) (M1 := (I, J, xrf)) (p2 := 21) (l2 := [some (.ref 26), some (.int x1), some (.int x2)]) (s2 := []) (n2 := 94) (M2 := (I, J, xrf)) (fun f => rfl) (fun hc => ?_) (fun hc => ?_)
  · rw [if_pos hc] at h
    exact p_X10_fail_1 x1 x2 I J h hC
  · rw [if_neg hc] at h
    exact p_X10_fail_3 x1 x2 I J h hC
theorem p_X10_fail {L : Nat} {xs : Nat → Int32} {d : Nat} {Q : xO → Prop} (x1 : Int32) (x2 : Int32) (I : xI) (J : xJ) {t : Unit × xI × xJ} (h : f_X10_fail x1 x2 I J = some t) (hC : Q (none, 94, (t.2.1, t.2.2, xrf))) : Rn L xs (d + 1) 131 0 [some (.ref 26), some (.int x1), some (.int x2)] [] 94 (I, J, xrf) Q := p_X10_fail_0 x1 x2 I J h hC
/-! X10_keep -/
def c_X10_keep (Q : xO → Prop) (t : Unit × xI × xJ) : Prop := Q (none, 94, (t.2.1, t.2.2, xrf))
def f_X10_keep_3 (x1 : Int32) (x2 : Int32) (x3 : Int32) (I : xI) (J : xJ) : Option (Unit × xI × xJ) := if (I 26 4) < 0 ∨ 400 ≤ ((I 26 4)).toNatClampNeg then none else if (((xup I 27 ((I 26 4)).toNatClampNeg x1)) 26 4) < 0 ∨ 400 ≤ ((((xup I 27 ((I 26 4)).toNatClampNeg x1)) 26 4)).toNatClampNeg then none else if (((xup ((xup I 27 ((I 26 4)).toNatClampNeg x1)) 28 ((((xup I 27 ((I 26 4)).toNatClampNeg x1)) 26 4)).toNatClampNeg x2)) 26 4) < 0 ∨ 400 ≤ ((((xup ((xup I 27 ((I 26 4)).toNatClampNeg x1)) 28 ((((xup I 27 ((I 26 4)).toNatClampNeg x1)) 26 4)).toNatClampNeg x2)) 26 4)).toNatClampNeg then none else some ((), (xup ((xup ((xup ((xup I 27 ((I 26 4)).toNatClampNeg x1)) 28 ((((xup I 27 ((I 26 4)).toNatClampNeg x1)) 26 4)).toNatClampNeg x2)) 29 ((((xup ((xup I 27 ((I 26 4)).toNatClampNeg x1)) 28 ((((xup I 27 ((I 26 4)).toNatClampNeg x1)) 26 4)).toNatClampNeg x2)) 26 4)).toNatClampNeg x3)) 26 4 (((((xup ((xup ((xup I 27 ((I 26 4)).toNatClampNeg x1)) 28 ((((xup I 27 ((I 26 4)).toNatClampNeg x1)) 26 4)).toNatClampNeg x2)) 29 ((((xup ((xup I 27 ((I 26 4)).toNatClampNeg x1)) 28 ((((xup I 27 ((I 26 4)).toNatClampNeg x1)) 26 4)).toNatClampNeg x2)) 26 4)).toNatClampNeg x3)) 26 4) + 1))), J)
def f_X10_keep_2 (x1 : Int32) (x2 : Int32) (x3 : Int32) (I : xI) (J : xJ) : Option (Unit × xI × xJ) := some ((), I, J)
def f_X10_keep_1 (x1 : Int32) (x2 : Int32) (x3 : Int32) (I : xI) (J : xJ) : Option (Unit × xI × xJ) := (f_X10_fail 2 x2 I J).bind fun o => f_X10_keep_2 x1 x2 x3 o.2.1 o.2.2
def f_X10_keep_0 (x1 : Int32) (x2 : Int32) (x3 : Int32) (I : xI) (J : xJ) : Option (Unit × xI × xJ) := if (I 26 4) < 400 then f_X10_keep_3 x1 x2 x3 I J else f_X10_keep_1 x1 x2 x3 I J
def f_X10_keep (x1 : Int32) (x2 : Int32) (x3 : Int32) (I : xI) (J : xJ) : Option (Unit × xI × xJ) := f_X10_keep_0 x1 x2 x3 I J
theorem p_X10_keep_3 {L : Nat} {xs : Nat → Int32} {d : Nat} {Q : xO → Prop} (x1 : Int32) (x2 : Int32) (x3 : Int32) (I : xI) (J : xJ) {t : Unit × xI × xJ} (h : f_X10_keep_3 x1 x2 x3 I J = some t) (hC : (c_X10_keep Q) t) : Rn L xs (d + 2) 132 17 [some (.ref 26), some (.int x1), some (.int x2), some (.int x3)] [] 94 (I, J, xrf) Q := by
  unfold f_X10_keep_3 at h
  obtain ⟨hc, h⟩ := xif h
  refine Rn.ok 6 (c := (I 26 4) < 0 ∨ 400 ≤ ((I 26 4)).toNatClampNeg) (p1 := 27) (l1 := [some (.ref 26), some (.int x1), some (.int x2), some (.int x3)]) (s1 := []) (n1 := 94) (M1 := ((xup I 27 ((I 26 4)).toNatClampNeg x1), J, xrf)) (fun f => rfl) hc ?_
  obtain ⟨hc, h⟩ := xif h
  refine Rn.ok 6 (c := (((xup I 27 ((I 26 4)).toNatClampNeg x1)) 26 4) < 0 ∨ 400 ≤ ((((xup I 27 ((I 26 4)).toNatClampNeg x1)) 26 4)).toNatClampNeg) (p1 := 37) (l1 := [some (.ref 26), some (.int x1), some (.int x2), some (.int x3)]) (s1 := []) (n1 := 94) (M1 := ((xup ((xup I 27 ((I 26 4)).toNatClampNeg x1)) 28 ((((xup I 27 ((I 26 4)).toNatClampNeg x1)) 26 4)).toNatClampNeg x2), J, xrf)) (fun f => rfl) hc ?_
  obtain ⟨hc, h⟩ := xif h
  refine Rn.ok 6 (c := (((xup ((xup I 27 ((I 26 4)).toNatClampNeg x1)) 28 ((((xup I 27 ((I 26 4)).toNatClampNeg x1)) 26 4)).toNatClampNeg x2)) 26 4) < 0 ∨ 400 ≤ ((((xup ((xup I 27 ((I 26 4)).toNatClampNeg x1)) 28 ((((xup I 27 ((I 26 4)).toNatClampNeg x1)) 26 4)).toNatClampNeg x2)) 26 4)).toNatClampNeg) (p1 := 47) (l1 := [some (.ref 26), some (.int x1), some (.int x2), some (.int x3)]) (s1 := []) (n1 := 94) (M1 := ((xup ((xup ((xup I 27 ((I 26 4)).toNatClampNeg x1)) 28 ((((xup I 27 ((I 26 4)).toNatClampNeg x1)) 26 4)).toNatClampNeg x2)) 29 ((((xup ((xup I 27 ((I 26 4)).toNatClampNeg x1)) 28 ((((xup I 27 ((I 26 4)).toNatClampNeg x1)) 26 4)).toNatClampNeg x2)) 26 4)).toNatClampNeg x3), J, xrf)) (fun f => rfl) hc ?_
  cases h
  exact Rn.ret 7 (o := (none, 94, ((xup ((xup ((xup ((xup I 27 ((I 26 4)).toNatClampNeg x1)) 28 ((((xup I 27 ((I 26 4)).toNatClampNeg x1)) 26 4)).toNatClampNeg x2)) 29 ((((xup ((xup I 27 ((I 26 4)).toNatClampNeg x1)) 28 ((((xup I 27 ((I 26 4)).toNatClampNeg x1)) 26 4)).toNatClampNeg x2)) 26 4)).toNatClampNeg x3)) 26 4 (((((xup ((xup ((xup I 27 ((I 26 4)).toNatClampNeg x1)) 28 ((((xup I 27 ((I 26 4)).toNatClampNeg x1)) 26 4)).toNatClampNeg x2)) 29 ((((xup ((xup I 27 ((I 26 4)).toNatClampNeg x1)) 28 ((((xup I 27 ((I 26 4)).toNatClampNeg x1)) 26 4)).toNatClampNeg x2)) 26 4)).toNatClampNeg x3)) 26 4) + 1))), J, xrf))) (fun f => rfl) hC
theorem p_X10_keep_2 {L : Nat} {xs : Nat → Int32} {d : Nat} {Q : xO → Prop} (x1 : Int32) (x2 : Int32) (x3 : Int32) (I : xI) (J : xJ) {t : Unit × xI × xJ} (h : f_X10_keep_2 x1 x2 x3 I J = some t) (hC : (c_X10_keep Q) t) : Rn L xs (d + 2) 132 16 [some (.ref 26), some (.int x1), some (.int x2), some (.int x3)] [] 94 (I, J, xrf) Q := by
  unfold f_X10_keep_2 at h
  cases h
  exact Rn.ret 1 (o := (none, 94, (I, J, xrf))) (fun f => rfl) hC
theorem p_X10_keep_1 {L : Nat} {xs : Nat → Int32} {d : Nat} {Q : xO → Prop} (x1 : Int32) (x2 : Int32) (x3 : Int32) (I : xI) (J : xJ) {t : Unit × xI × xJ} (h : f_X10_keep_1 x1 x2 x3 I J = some t) (hC : (c_X10_keep Q) t) : Rn L xs (d + 2) 132 10 [some (.ref 26), some (.int x1), some (.int x2), some (.int x3)] [] 94 (I, J, xrf) Q := by
  unfold f_X10_keep_1 at h
  refine Rn.go 3 (j' := 132) (pc' := 13) (ls' := [some (.ref 26), some (.int x1), some (.int x2), some (.int x3)]) (st' := [.int x2, .int 2, .ref 26]) (n' := 94) (M' := (I, J, xrf)) (fun f => rfl) ?_
  obtain ⟨o, ho, h⟩ := Option.bind_eq_some_iff.mp h
  refine Rn.call (d1 := d + 1) (j1 := 131) (ls1 := [some (.ref 26), some (.int 2), some (.int x2)]) (rest := []) (fun f => rfl) ?_
  refine p_X10_fail (d := d + 0) 2 x2 I J (t := o) ho ?_
  exact p_X10_keep_2 x1 x2 x3 o.2.1 o.2.2 h hC
theorem p_X10_keep_0 {L : Nat} {xs : Nat → Int32} {d : Nat} {Q : xO → Prop} (x1 : Int32) (x2 : Int32) (x3 : Int32) (I : xI) (J : xJ) {t : Unit × xI × xJ} (h : f_X10_keep_0 x1 x2 x3 I J = some t) (hC : (c_X10_keep Q) t) : Rn L xs (d + 2) 132 0 [some (.ref 26), some (.int x1), some (.int x2), some (.int x3)] [] 94 (I, J, xrf) Q := by
  unfold f_X10_keep_0 at h
  refine Rn.fi 4 (c := (I 26 4) < 400) (p1 := 17) (l1 := [some (.ref 26), some (.int x1), some (.int x2), some (.int x3)]) (s1 := []) (n1 := 94) (M1 := (I, J, xrf)) (p2 := 10) (l2 := [some (.ref 26), some (.int x1), some (.int x2), some (.int x3)]) (s2 := []) (n2 := 94) (M2 := (I, J, xrf)) (fun f => rfl) (fun hc => ?_) (fun hc => ?_)
  · rw [if_pos hc] at h
    exact p_X10_keep_3 x1 x2 x3 I J h hC
  · rw [if_neg hc] at h
    exact p_X10_keep_1 x1 x2 x3 I J h hC
theorem p_X10_keep {L : Nat} {xs : Nat → Int32} {d : Nat} {Q : xO → Prop} (x1 : Int32) (x2 : Int32) (x3 : Int32) (I : xI) (J : xJ) {t : Unit × xI × xJ} (h : f_X10_keep x1 x2 x3 I J = some t) (hC : Q (none, 94, (t.2.1, t.2.2, xrf))) : Rn L xs (d + 2) 132 0 [some (.ref 26), some (.int x1), some (.int x2), some (.int x3)] [] 94 (I, J, xrf) Q := p_X10_keep_0 x1 x2 x3 I J h hC
/-! X10_shapeOf -/
def c_X10_shapeOf (Q : xO → Prop) (t : Nat × xI × xJ) : Prop := Q ((some (.ref t.1)), 94, (t.2.1, t.2.2, xrf))
def f_X10_shapeOf_2 (x0 : Int32) (I : xI) (J : xJ) : Option (Nat × xI × xJ) := some (2006, I, J)
def f_X10_shapeOf_3 (x0 : Int32) (I : xI) (J : xJ) : Option (Nat × xI × xJ) := some (2007, I, J)
def f_X10_shapeOf_4 (x0 : Int32) (I : xI) (J : xJ) : Option (Nat × xI × xJ) := some (2008, I, J)
def f_X10_shapeOf_5 (x0 : Int32) (I : xI) (J : xJ) : Option (Nat × xI × xJ) := some (2009, I, J)
def f_X10_shapeOf_6 (x0 : Int32) (I : xI) (J : xJ) : Option (Nat × xI × xJ) := some (2000, I, J)
def f_X10_shapeOf_1 (x0 : Int32) (s0 : Int32) (I : xI) (J : xJ) : Option (Nat × xI × xJ) := if s0 = 4 then f_X10_shapeOf_2 x0 I J else if s0 = 5 then f_X10_shapeOf_3 x0 I J else if s0 = 6 then f_X10_shapeOf_4 x0 I J else if s0 = 7 then f_X10_shapeOf_5 x0 I J else f_X10_shapeOf_6 x0 I J
def f_X10_shapeOf_0 (x0 : Int32) (I : xI) (J : xJ) : Option (Nat × xI × xJ) := f_X10_shapeOf_1 x0 x0 I J
def f_X10_shapeOf (x0 : Int32) (I : xI) (J : xJ) : Option (Nat × xI × xJ) := f_X10_shapeOf_0 x0 I J
theorem p_X10_shapeOf_2 {L : Nat} {xs : Nat → Int32} {d : Nat} {Q : xO → Prop} (x0 : Int32) (I : xI) (J : xJ) {t : Nat × xI × xJ} (h : f_X10_shapeOf_2 x0 I J = some t) (hC : (c_X10_shapeOf Q) t) : Rn L xs (d + 1) 135 32 [some (.int x0)] [] 94 (I, J, xrf) Q := by
  unfold f_X10_shapeOf_2 at h
  cases h
  exact Rn.ret 2 (o := ((some (.ref 2006)), 94, (I, J, xrf))) (fun f => rfl) hC
theorem p_X10_shapeOf_3 {L : Nat} {xs : Nat → Int32} {d : Nat} {Q : xO → Prop} (x0 : Int32) (I : xI) (J : xJ) {t : Nat × xI × xJ} (h : f_X10_shapeOf_3 x0 I J = some t) (hC : (c_X10_shapeOf Q) t) : Rn L xs (d + 1) 135 35 [some (.int x0)] [] 94 (I, J, xrf) Q := by
  unfold f_X10_shapeOf_3 at h
  cases h
  exact Rn.ret 2 (o := ((some (.ref 2007)), 94, (I, J, xrf))) (fun f => rfl) hC
theorem p_X10_shapeOf_4 {L : Nat} {xs : Nat → Int32} {d : Nat} {Q : xO → Prop} (x0 : Int32) (I : xI) (J : xJ) {t : Nat × xI × xJ} (h : f_X10_shapeOf_4 x0 I J = some t) (hC : (c_X10_shapeOf Q) t) : Rn L xs (d + 1) 135 38 [some (.int x0)] [] 94 (I, J, xrf) Q := by
  unfold f_X10_shapeOf_4 at h
  cases h
  exact Rn.ret 2 (o := ((some (.ref 2008)), 94, (I, J, xrf))) (fun f => rfl) hC
theorem p_X10_shapeOf_5 {L : Nat} {xs : Nat → Int32} {d : Nat} {Q : xO → Prop} (x0 : Int32) (I : xI) (J : xJ) {t : Nat × xI × xJ} (h : f_X10_shapeOf_5 x0 I J = some t) (hC : (c_X10_shapeOf Q) t) : Rn L xs (d + 1) 135 41 [some (.int x0)] [] 94 (I, J, xrf) Q := by
  unfold f_X10_shapeOf_5 at h
  cases h
  exact Rn.ret 2 (o := ((some (.ref 2009)), 94, (I, J, xrf))) (fun f => rfl) hC
theorem p_X10_shapeOf_6 {L : Nat} {xs : Nat → Int32} {d : Nat} {Q : xO → Prop} (x0 : Int32) (I : xI) (J : xJ) {t : Nat × xI × xJ} (h : f_X10_shapeOf_6 x0 I J = some t) (hC : (c_X10_shapeOf Q) t) : Rn L xs (d + 1) 135 44 [some (.int x0)] [] 94 (I, J, xrf) Q := by
  unfold f_X10_shapeOf_6 at h
  cases h
  exact Rn.ret 2 (o := ((some (.ref 2000)), 94, (I, J, xrf))) (fun f => rfl) hC
theorem p_X10_shapeOf_1 {L : Nat} {xs : Nat → Int32} {d : Nat} {Q : xO → Prop} (x0 : Int32) (s0 : Int32) (I : xI) (J : xJ) {t : Nat × xI × xJ} (h : f_X10_shapeOf_1 x0 s0 I J = some t) (hC : (c_X10_shapeOf Q) t) : Rn L xs (d + 1) 135 1 [some (.int x0)] [.int s0] 94 (I, J, xrf) Q := by
  unfold f_X10_shapeOf_1 at h
  by_cases hc0 : s0 = 4
  · rw [if_pos hc0] at h; subst hc0
    refine Rn.go 1 (j' := 135) (pc' := 32) (ls' := [some (.int x0)]) (st' := []) (n' := 94) (M' := (I, J, xrf)) (fun f => rfl) ?_
    exact p_X10_shapeOf_2 x0 I J h hC
  rw [if_neg hc0] at h
  by_cases hc1 : s0 = 5
  · rw [if_pos hc1] at h; subst hc1
    refine Rn.go 1 (j' := 135) (pc' := 35) (ls' := [some (.int x0)]) (st' := []) (n' := 94) (M' := (I, J, xrf)) (fun f => rfl) ?_
    exact p_X10_shapeOf_3 x0 I J h hC
  rw [if_neg hc1] at h
  by_cases hc2 : s0 = 6
  · rw [if_pos hc2] at h; subst hc2
    refine Rn.go 1 (j' := 135) (pc' := 38) (ls' := [some (.int x0)]) (st' := []) (n' := 94) (M' := (I, J, xrf)) (fun f => rfl) ?_
    exact p_X10_shapeOf_4 x0 I J h hC
  rw [if_neg hc2] at h
  by_cases hc3 : s0 = 7
  · rw [if_pos hc3] at h; subst hc3
    refine Rn.go 1 (j' := 135) (pc' := 41) (ls' := [some (.int x0)]) (st' := []) (n' := 94) (M' := (I, J, xrf)) (fun f => rfl) ?_
    exact p_X10_shapeOf_5 x0 I J h hC
  rw [if_neg hc3] at h
  have ho : Int32.toInt s0 < 4 ∨ 7 < Int32.toInt s0 := xsw_out (fun i h1 h2 => by
      have hh : i = 4 ∨ i = 5 ∨ i = 6 ∨ i = 7 := (by omega)
      rcases hh with rfl | rfl | rfl | rfl
      · exact hc0
      · exact hc1
      · exact hc2
      · exact hc3)
  refine Rn.go 1 (d' := (d + 1)) (j' := 135) (pc' := 44) (ls' := [some (.int x0)]) (st' := []) (n' := 94) (M' := (I, J, xrf)) (fun f => by show (if Int32.toInt s0 < 4 ∨ 7 < Int32.toInt s0 then _ else _) = _; rw [if_pos ho] <;> rfl) ?_
  exact p_X10_shapeOf_6 x0 I J h hC
theorem p_X10_shapeOf_0 {L : Nat} {xs : Nat → Int32} {d : Nat} {Q : xO → Prop} (x0 : Int32) (I : xI) (J : xJ) {t : Nat × xI × xJ} (h : f_X10_shapeOf_0 x0 I J = some t) (hC : (c_X10_shapeOf Q) t) : Rn L xs (d + 1) 135 0 [some (.int x0)] [] 94 (I, J, xrf) Q := by
  unfold f_X10_shapeOf_0 at h
  refine Rn.go 1 (j' := 135) (pc' := 1) (ls' := [some (.int x0)]) (st' := [.int x0]) (n' := 94) (M' := (I, J, xrf)) (fun f => rfl) ?_
  exact p_X10_shapeOf_1 x0 x0 I J h hC
theorem p_X10_shapeOf {L : Nat} {xs : Nat → Int32} {d : Nat} {Q : xO → Prop} (x0 : Int32) (I : xI) (J : xJ) {t : Nat × xI × xJ} (h : f_X10_shapeOf x0 I J = some t) (hC : Q ((some (.ref t.1)), 94, (t.2.1, t.2.2, xrf))) : Rn L xs (d + 1) 135 0 [some (.int x0)] [] 94 (I, J, xrf) Q := p_X10_shapeOf_0 x0 I J h hC
/-! X10_beginning -/
def c_X10_beginning (Q : xO → Prop) (t : Int32 × xI × xJ) : Prop := Q ((some (.int t.1)), 94, (t.2.1, t.2.2, xrf))
def f_X10_beginning_10 (x1 : Int32) (s0 : Int32) (I : xI) (J : xJ) : Option (Int32 × xI × xJ) := some (s0, I, J)
def f_X10_beginning_9 (x1 : Int32) (I : xI) (J : xJ) : Option (Int32 × xI × xJ) := f_X10_beginning_10 x1 0 I J
def f_X10_beginning_8 (x1 : Int32) (I : xI) (J : xJ) : Option (Int32 × xI × xJ) := f_X10_beginning_10 x1 2 I J
def f_X10_beginning_7 (x1 : Int32) (s1 : Int32) (s2 : Int32) (I : xI) (J : xJ) : Option (Int32 × xI × xJ) := if (((xup I 26 7 ((s1 + s2)))) 26 7) ≤ 6 then f_X10_beginning_9 x1 ((xup I 26 7 ((s1 + s2)))) J else f_X10_beginning_8 x1 ((xup I 26 7 ((s1 + s2)))) J
def f_X10_beginning_6 (x1 : Int32) (s1 : Int32) (I : xI) (J : xJ) : Option (Int32 × xI × xJ) := f_X10_beginning_7 x1 s1 0 I J
def f_X10_beginning_5 (x1 : Int32) (s1 : Int32) (I : xI) (J : xJ) : Option (Int32 × xI × xJ) := f_X10_beginning_7 x1 s1 1 I J
def f_X10_beginning_4 (x1 : Int32) (I : xI) (J : xJ) : Option (Int32 × xI × xJ) := if x1 = 4 then f_X10_beginning_5 x1 ((I 26 7)) I J else f_X10_beginning_6 x1 ((I 26 7)) I J
def f_X10_beginning_3 (x1 : Int32) (I : xI) (J : xJ) : Option (Int32 × xI × xJ) := some (1, I, J)
def f_X10_beginning_2 (x1 : Int32) (s0 : Int32) (I : xI) (J : xJ) : Option (Int32 × xI × xJ) := if s0 = 0 then f_X10_beginning_4 x1 I J else f_X10_beginning_3 x1 I J
def f_X10_beginning_1 (x1 : Int32) (v0 : Nat) (I : xI) (J : xJ) : Option (Int32 × xI × xJ) := if ¬ zok v0 then none else f_X10_beginning_2 x1 ((if zlen v0 = 0 then 1 else 0)) I J
def f_X10_beginning_0 (x1 : Int32) (I : xI) (J : xJ) : Option (Int32 × xI × xJ) := (f_X10_shapeOf x1 I J).bind fun o => f_X10_beginning_1 x1 o.1 o.2.1 o.2.2
def f_X10_beginning (x1 : Int32) (I : xI) (J : xJ) : Option (Int32 × xI × xJ) := f_X10_beginning_0 x1 I J
theorem p_X10_beginning_10 {L : Nat} {xs : Nat → Int32} {d : Nat} {Q : xO → Prop} (x1 : Int32) (s0 : Int32) (I : xI) (J : xJ) {t : Int32 × xI × xJ} (h : f_X10_beginning_10 x1 s0 I J = some t) (hC : (c_X10_beginning Q) t) : Rn L xs (d + 4) 133 45 [some (.ref 26), some (.int x1)] [.int s0] 94 (I, J, xrf) Q := by
  unfold f_X10_beginning_10 at h
  cases h
  exact Rn.ret 1 (o := ((some (.int s0)), 94, (I, J, xrf))) (fun f => rfl) hC
theorem p_X10_beginning_9 {L : Nat} {xs : Nat → Int32} {d : Nat} {Q : xO → Prop} (x1 : Int32) (I : xI) (J : xJ) {t : Int32 × xI × xJ} (h : f_X10_beginning_9 x1 I J = some t) (hC : (c_X10_beginning Q) t) : Rn L xs (d + 4) 133 44 [some (.ref 26), some (.int x1)] [] 94 (I, J, xrf) Q := by
  unfold f_X10_beginning_9 at h
  refine Rn.go 1 (j' := 133) (pc' := 45) (ls' := [some (.ref 26), some (.int x1)]) (st' := [.int 0]) (n' := 94) (M' := (I, J, xrf)) (fun f => rfl) ?_
  exact p_X10_beginning_10 x1 0 I J h hC
theorem p_X10_beginning_8 {L : Nat} {xs : Nat → Int32} {d : Nat} {Q : xO → Prop} (x1 : Int32) (I : xI) (J : xJ) {t : Int32 × xI × xJ} (h : f_X10_beginning_8 x1 I J = some t) (hC : (c_X10_beginning Q) t) : Rn L xs (d + 4) 133 40 [some (.ref 26), some (.int x1)] [] 94 (I, J, xrf) Q := by
  unfold f_X10_beginning_8 at h
  refine Rn.go 2 (j' := 133) (pc' := 45) (ls' := [some (.ref 26), some (.int x1)]) (st' := [.int 2]) (n' := 94) (M' := (I, J, xrf)) (fun f => rfl) ?_
  exact p_X10_beginning_10 x1 2 I J h hC
theorem p_X10_beginning_7 {L : Nat} {xs : Nat → Int32} {d : Nat} {Q : xO → Prop} (x1 : Int32) (s1 : Int32) (s2 : Int32) (I : xI) (J : xJ) {t : Int32 × xI × xJ} (h : f_X10_beginning_7 x1 s1 s2 I J = some t) (hC : (c_X10_beginning Q) t) : Rn L xs (d + 4) 133 27 [some (.ref 26), some (.int x1)] [.int s2, .int s1, .ref 26] 94 (I, J, xrf) Q := by
  unfold f_X10_beginning_7 at h
  refine Rn.fi 6 (c := (((xup I 26 7 ((s1 + s2)))) 26 7) ≤ 6) (p1 := 44) (l1 := [some (.ref 26), some (.int x1)]) (s1 := []) (n1 := 94) (M1 := ((xup I 26 7 ((s1 + s2))), J, xrf)) (p2 := 40) (l2 := [some (.ref 26), some (.int x1)]) (s2 := []) (n2 := 94) (M2 := ((xup I 26 7 ((s1 + s2))), J, xrf)) (fun f => rfl) (fun hc => ?_) (fun hc => ?_)
  · rw [if_pos hc] at h
    exact p_X10_beginning_9 x1 ((xup I 26 7 ((s1 + s2)))) J h hC
  · rw [if_neg hc] at h
    exact p_X10_beginning_8 x1 ((xup I 26 7 ((s1 + s2)))) J h hC
theorem p_X10_beginning_6 {L : Nat} {xs : Nat → Int32} {d : Nat} {Q : xO → Prop} (x1 : Int32) (s1 : Int32) (I : xI) (J : xJ) {t : Int32 × xI × xJ} (h : f_X10_beginning_6 x1 s1 I J = some t) (hC : (c_X10_beginning Q) t) : Rn L xs (d + 4) 133 26 [some (.ref 26), some (.int x1)] [.int s1, .ref 26] 94 (I, J, xrf) Q := by
  unfold f_X10_beginning_6 at h
  refine Rn.go 1 (j' := 133) (pc' := 27) (ls' := [some (.ref 26), some (.int x1)]) (st' := [.int 0, .int s1, .ref 26]) (n' := 94) (M' := (I, J, xrf)) (fun f => rfl) ?_
  exact p_X10_beginning_7 x1 s1 0 I J h hC
theorem p_X10_beginning_5 {L : Nat} {xs : Nat → Int32} {d : Nat} {Q : xO → Prop} (x1 : Int32) (s1 : Int32) (I : xI) (J : xJ) {t : Int32 × xI × xJ} (h : f_X10_beginning_5 x1 s1 I J = some t) (hC : (c_X10_beginning Q) t) : Rn L xs (d + 4) 133 22 [some (.ref 26), some (.int x1)] [.int s1, .ref 26] 94 (I, J, xrf) Q := by
  unfold f_X10_beginning_5 at h
  refine Rn.go 2 (j' := 133) (pc' := 27) (ls' := [some (.ref 26), some (.int x1)]) (st' := [.int 1, .int s1, .ref 26]) (n' := 94) (M' := (I, J, xrf)) (fun f => rfl) ?_
  exact p_X10_beginning_7 x1 s1 1 I J h hC
theorem p_X10_beginning_4 {L : Nat} {xs : Nat → Int32} {d : Nat} {Q : xO → Prop} (x1 : Int32) (I : xI) (J : xJ) {t : Int32 × xI × xJ} (h : f_X10_beginning_4 x1 I J = some t) (hC : (c_X10_beginning Q) t) : Rn L xs (d + 4) 133 12 [some (.ref 26), some (.int x1)] [] 94 (I, J, xrf) Q := by
  unfold f_X10_beginning_4 at h
  refine Rn.fi 6 (c := x1 = 4) (p1 := 22) (l1 := [some (.ref 26), some (.int x1)]) (s1 := [.int ((I 26 7)), .ref 26]) (n1 := 94) (M1 := (I, J, xrf)) (p2 := 26) (l2 := [some (.ref 26), some (.int x1)]) (s2 := [.int ((I 26 7)), .ref 26]) (n2 := 94) (M2 := (I, J, xrf)) (fun f => rfl) (fun hc => ?_) (fun hc => ?_)
  · rw [if_pos hc] at h
    exact p_X10_beginning_5 x1 ((I 26 7)) I J h hC
  · rw [if_neg hc] at h
    exact p_X10_beginning_6 x1 ((I 26 7)) I J h hC
theorem p_X10_beginning_3 {L : Nat} {xs : Nat → Int32} {d : Nat} {Q : xO → Prop} (x1 : Int32) (I : xI) (J : xJ) {t : Int32 × xI × xJ} (h : f_X10_beginning_3 x1 I J = some t) (hC : (c_X10_beginning Q) t) : Rn L xs (d + 4) 133 10 [some (.ref 26), some (.int x1)] [] 94 (I, J, xrf) Q := by
  unfold f_X10_beginning_3 at h
  cases h
  exact Rn.ret 2 (o := ((some (.int 1)), 94, (I, J, xrf))) (fun f => rfl) hC
theorem p_X10_beginning_2 {L : Nat} {xs : Nat → Int32} {d : Nat} {Q : xO → Prop} (x1 : Int32) (s0 : Int32) (I : xI) (J : xJ) {t : Int32 × xI × xJ} (h : f_X10_beginning_2 x1 s0 I J = some t) (hC : (c_X10_beginning Q) t) : Rn L xs (d + 4) 133 7 [some (.ref 26), some (.int x1)] [.int s0] 94 (I, J, xrf) Q := by
  unfold f_X10_beginning_2 at h
  refine Rn.fi 1 (c := s0 = 0) (p1 := 12) (l1 := [some (.ref 26), some (.int x1)]) (s1 := []) (n1 := 94) (M1 := (I, J, xrf)) (p2 := 10) (l2 := [some (.ref 26), some (.int x1)]) (s2 := []) (n2 := 94) (M2 := (I, J, xrf)) (fun f => rfl) (fun hc => ?_) (fun hc => ?_)
  · rw [if_pos hc] at h
    exact p_X10_beginning_4 x1 I J h hC
  · rw [if_neg hc] at h
    exact p_X10_beginning_3 x1 I J h hC
theorem p_X10_beginning_1 {L : Nat} {xs : Nat → Int32} {d : Nat} {Q : xO → Prop} (x1 : Int32) (v0 : Nat) (I : xI) (J : xJ) {t : Int32 × xI × xJ} (h : f_X10_beginning_1 x1 v0 I J = some t) (hC : (c_X10_beginning Q) t) : Rn L xs (d + 4) 133 4 [some (.ref 26), some (.int x1)] [.ref v0] 94 (I, J, xrf) Q := by
  unfold f_X10_beginning_1 at h
  obtain ⟨hc, h⟩ := xif h
  refine Rn.callB (c := Nat.blt v0 2999 && (Nat.beq 0 2 || Nat.beq (xcl 94 v0) 20)) (d1 := d + 3) (j1 := 301) (ls1 := [some (.ref v0)]) (rest := []) (fun f => rfl) (zok_cl hc) ?_
  refine z_emp (d := d + 0) hc ?_
  exact p_X10_beginning_2 x1 ((if zlen v0 = 0 then 1 else 0)) I J h hC
theorem p_X10_beginning_0 {L : Nat} {xs : Nat → Int32} {d : Nat} {Q : xO → Prop} (x1 : Int32) (I : xI) (J : xJ) {t : Int32 × xI × xJ} (h : f_X10_beginning_0 x1 I J = some t) (hC : (c_X10_beginning Q) t) : Rn L xs (d + 4) 133 0 [some (.ref 26), some (.int x1)] [] 94 (I, J, xrf) Q := by
  unfold f_X10_beginning_0 at h
  refine Rn.go 1 (j' := 133) (pc' := 1) (ls' := [some (.ref 26), some (.int x1)]) (st' := [.int x1]) (n' := 94) (M' := (I, J, xrf)) (fun f => rfl) ?_
  obtain ⟨o, ho, h⟩ := Option.bind_eq_some_iff.mp h
  refine Rn.call (d1 := d + 3) (j1 := 135) (ls1 := [some (.int x1)]) (rest := []) (fun f => rfl) ?_
  refine p_X10_shapeOf (d := d + 2) x1 I J (t := o) ho ?_
  exact p_X10_beginning_1 x1 o.1 o.2.1 o.2.2 h hC
theorem p_X10_beginning {L : Nat} {xs : Nat → Int32} {d : Nat} {Q : xO → Prop} (x1 : Int32) (I : xI) (J : xJ) {t : Int32 × xI × xJ} (h : f_X10_beginning x1 I J = some t) (hC : Q ((some (.int t.1)), 94, (t.2.1, t.2.2, xrf))) : Rn L xs (d + 4) 133 0 [some (.ref 26), some (.int x1)] [] 94 (I, J, xrf) Q := p_X10_beginning_0 x1 I J h hC
/-! X10_scan -/
def c_X10_scan (Q : xO → Prop) (t : Unit × xI × xJ) : Prop := Q (none, 94, (t.2.1, t.2.2, xrf))
def c_X10_scan_2 (L : Nat) (xs : Nat → Int32) (d : Nat) (Q : xO → Prop) (t : (Nat × Int32 × Int32 × Int32 × (Option Value) × (Option Value) × xI × xJ) ⊕ (Unit × xI × xJ)) : Prop := match t with
  | .inl s => Rn L xs (d + 6) 130 37 [some (.ref 26), some (.ref s.1), some (.int s.2.1), some (.int s.2.2.1), some (.int s.2.2.2.1), s.2.2.2.2.1, s.2.2.2.2.2.1] [] 94 (s.2.2.2.2.2.2.1, s.2.2.2.2.2.2.2, xrf) Q
  | .inr t => (c_X10_scan Q) t
def f_X10_scan_26 (w1 : Nat) (x2 : Int32) (x3 : Int32) (x4 : Int32) (z5 : Option Value) (z6 : Option Value) (I : xI) (J : xJ) : Option (Unit × xI × xJ) := some ((), I, J)
def f_X10_scan_25 (w1 : Nat) (x2 : Int32) (x3 : Int32) (x4 : Int32) (z5 : Option Value) (z6 : Option Value) (I : xI) (J : xJ) : Option (Unit × xI × xJ) := (f_X10_fail 1 ((I 24 1)) I J).bind fun o => f_X10_scan_26 w1 x2 x3 x4 z5 z6 o.2.1 o.2.2
def f_X10_scan_24 (w1 : Nat) (x2 : Int32) (x3 : Int32) (x4 : Int32) (z5 : Option Value) (z6 : Option Value) (s0 : Int32) (s1 : Int32) (I : xI) (J : xJ) : Option (Unit × xI × xJ) := if s1 ≤ s0 then f_X10_scan_26 w1 x2 x3 x4 z5 z6 I J else f_X10_scan_25 w1 x2 x3 x4 z5 z6 I J
def f_X10_scan_23 (w1 : Nat) (x2 : Int32) (x3 : Int32) (x4 : Int32) (z5 : Option Value) (z6 : Option Value) (I : xI) (J : xJ) : Option (Unit × xI × xJ) := if ¬ zok w1 then none else if ¬ zok w1 then none else f_X10_scan_24 w1 x2 x3 x4 z5 z6 x2 ((Int32.ofNat (zlen w1))) I J
def f_X10_scan_22 (w1 : Nat) (x2 : Int32) (x3 : Int32) (x4 : Int32) (x5 : Int32) (x6 : Int32) (s0 : Int32) (I : xI) (J : xJ) : Option ((Nat × Int32 × Int32 × Int32 × (Option Value) × (Option Value) × xI × xJ) ⊕ (Unit × xI × xJ)) := some (.inl (w1, x2, s0, ((x4 + 1)), (some (.int x5)), (some (.int x6)), I, J))
def f_X10_scan_21 (w1 : Nat) (x2 : Int32) (x3 : Int32) (x4 : Int32) (x5 : Int32) (x6 : Int32) (I : xI) (J : xJ) : Option ((Nat × Int32 × Int32 × Int32 × (Option Value) × (Option Value) × xI × xJ) ⊕ (Unit × xI × xJ)) := (f_X9_skipBlanks x5 I J).bind fun o => f_X10_scan_22 w1 x2 x3 x4 x5 x6 o.1 o.2.1 o.2.2
def f_X10_scan_20 (w1 : Nat) (x2 : Int32) (x3 : Int32) (x4 : Int32) (x5 : Int32) (x6 : Int32) (I : xI) (J : xJ) : Option ((Nat × Int32 × Int32 × Int32 × (Option Value) × (Option Value) × xI × xJ) ⊕ (Unit × xI × xJ)) := (f_X10_keep x6 x3 ((x5 - x3)) I J).bind fun o => f_X10_scan_21 w1 x2 x3 x4 x5 x6 o.2.1 o.2.2
def f_X10_scan_19 (w1 : Nat) (x2 : Int32) (x3 : Int32) (x4 : Int32) (x5 : Int32) (x6 : Int32) (v0 : Nat) (I : xI) (J : xJ) : Option ((Nat × Int32 × Int32 × Int32 × (Option Value) × (Option Value) × xI × xJ) ⊕ (Unit × xI × xJ)) := if ¬ zok v0 then none else f_X10_scan_20 v0 0 x3 x4 x5 x6 I J
def f_X10_scan_18 (w1 : Nat) (x2 : Int32) (x3 : Int32) (x4 : Int32) (x5 : Int32) (x6 : Int32) (I : xI) (J : xJ) : Option ((Nat × Int32 × Int32 × Int32 × (Option Value) × (Option Value) × xI × xJ) ⊕ (Unit × xI × xJ)) := (f_X10_shapeOf x6 I J).bind fun o => f_X10_scan_19 w1 x2 x3 x4 x5 x6 o.1 o.2.1 o.2.2
def f_X10_scan_17 (w1 : Nat) (x2 : Int32) (x3 : Int32) (x4 : Int32) (x5 : Int32) (x6 : Int32) (s1 : Int32) (I : xI) (J : xJ) : Option ((Nat × Int32 × Int32 × Int32 × (Option Value) × (Option Value) × xI × xJ) ⊕ (Unit × xI × xJ)) := (f_X10_fail s1 x3 I J).bind fun o => f_X10_scan_18 w1 x2 x3 x4 x5 x6 o.2.1 o.2.2
def f_X10_scan_16 (w1 : Nat) (x2 : Int32) (x3 : Int32) (x4 : Int32) (x5 : Int32) (x6 : Int32) (I : xI) (J : xJ) : Option ((Nat × Int32 × Int32 × Int32 × (Option Value) × (Option Value) × xI × xJ) ⊕ (Unit × xI × xJ)) := (f_X10_beginning x6 I J).bind fun o => f_X10_scan_17 w1 x2 x3 x4 x5 x6 o.1 o.2.1 o.2.2
def f_X10_scan_15 (w1 : Nat) (x2 : Int32) (x3 : Int32) (x4 : Int32) (x5 : Int32) (x6 : Int32) (I : xI) (J : xJ) : Option ((Nat × Int32 × Int32 × Int32 × (Option Value) × (Option Value) × xI × xJ) ⊕ (Unit × xI × xJ)) := f_X10_scan_20 w1 ((x2 + 1)) x3 x4 x5 x6 I J
def f_X10_scan_14 (w1 : Nat) (x2 : Int32) (x3 : Int32) (x4 : Int32) (x5 : Int32) (x6 : Int32) (s1 : Int32) (I : xI) (J : xJ) : Option ((Nat × Int32 × Int32 × Int32 × (Option Value) × (Option Value) × xI × xJ) ⊕ (Unit × xI × xJ)) := (f_X10_fail s1 x3 I J).bind fun o => f_X10_scan_15 w1 x2 x3 x4 x5 x6 o.2.1 o.2.2
def f_X10_scan_13 (w1 : Nat) (x2 : Int32) (x3 : Int32) (x4 : Int32) (x5 : Int32) (x6 : Int32) (I : xI) (J : xJ) : Option ((Nat × Int32 × Int32 × Int32 × (Option Value) × (Option Value) × xI × xJ) ⊕ (Unit × xI × xJ)) := f_X10_scan_14 w1 x2 x3 x4 x5 x6 1 I J
def f_X10_scan_12 (w1 : Nat) (x2 : Int32) (x3 : Int32) (x4 : Int32) (x5 : Int32) (x6 : Int32) (I : xI) (J : xJ) : Option ((Nat × Int32 × Int32 × Int32 × (Option Value) × (Option Value) × xI × xJ) ⊕ (Unit × xI × xJ)) := f_X10_scan_14 w1 x2 x3 x4 x5 x6 0 I J
def f_X10_scan_11 (w1 : Nat) (x2 : Int32) (x3 : Int32) (x4 : Int32) (x5 : Int32) (x6 : Int32) (s1 : Int32) (I : xI) (J : xJ) : Option ((Nat × Int32 × Int32 × Int32 × (Option Value) × (Option Value) × xI × xJ) ⊕ (Unit × xI × xJ)) := if s1 = 0 then f_X10_scan_13 w1 x2 x3 x4 x5 x6 I J else f_X10_scan_12 w1 x2 x3 x4 x5 x6 I J
def f_X10_scan_10 (w1 : Nat) (x2 : Int32) (x3 : Int32) (x4 : Int32) (x5 : Int32) (x6 : Int32) (s1 : Int32) (I : xI) (J : xJ) : Option ((Nat × Int32 × Int32 × Int32 × (Option Value) × (Option Value) × xI × xJ) ⊕ (Unit × xI × xJ)) := (f_X10_fits s1 x6 I J).bind fun o => f_X10_scan_11 w1 x2 x3 x4 x5 x6 o.1 o.2.1 o.2.2
def f_X10_scan_9 (w1 : Nat) (x2 : Int32) (x3 : Int32) (x4 : Int32) (x5 : Int32) (x6 : Int32) (I : xI) (J : xJ) : Option ((Nat × Int32 × Int32 × Int32 × (Option Value) × (Option Value) × xI × xJ) ⊕ (Unit × xI × xJ)) := if ¬ zok w1 then none else if ¬ zok w1 ∨ x2 < 0 ∨ zlen w1 ≤ x2.toNatClampNeg then none else f_X10_scan_10 w1 x2 x3 x4 x5 x6 ((zchr w1 x2.toNatClampNeg)) I J
def f_X10_scan_8 (w1 : Nat) (x2 : Int32) (x3 : Int32) (x4 : Int32) (x5 : Int32) (x6 : Int32) (s0 : Int32) (s1 : Int32) (I : xI) (J : xJ) : Option ((Nat × Int32 × Int32 × Int32 × (Option Value) × (Option Value) × xI × xJ) ⊕ (Unit × xI × xJ)) := if s1 ≤ s0 then f_X10_scan_16 w1 x2 x3 x4 x5 x6 I J else f_X10_scan_9 w1 x2 x3 x4 x5 x6 I J
def f_X10_scan_7 (w1 : Nat) (x2 : Int32) (x3 : Int32) (x4 : Int32) (x5 : Int32) (z6 : Option Value) (s0 : Int32) (I : xI) (J : xJ) : Option ((Nat × Int32 × Int32 × Int32 × (Option Value) × (Option Value) × xI × xJ) ⊕ (Unit × xI × xJ)) := if ¬ zok w1 then none else if ¬ zok w1 then none else f_X10_scan_8 w1 x2 x3 x4 x5 s0 x2 ((Int32.ofNat (zlen w1))) I J
def f_X10_scan_6 (w1 : Nat) (x2 : Int32) (x3 : Int32) (x4 : Int32) (z5 : Option Value) (z6 : Option Value) (s0 : Int32) (I : xI) (J : xJ) : Option ((Nat × Int32 × Int32 × Int32 × (Option Value) × (Option Value) × xI × xJ) ⊕ (Unit × xI × xJ)) := (f_X10_kindOf x3 ((s0 - x3)) I J).bind fun o => f_X10_scan_7 w1 x2 x3 x4 s0 z6 o.1 o.2.1 o.2.2
def f_X10_scan_5 (w1 : Nat) (x2 : Int32) (x3 : Int32) (x4 : Int32) (z5 : Option Value) (z6 : Option Value) (I : xI) (J : xJ) : Option ((Nat × Int32 × Int32 × Int32 × (Option Value) × (Option Value) × xI × xJ) ⊕ (Unit × xI × xJ)) := (f_X9_endOfRun x3 I J).bind fun o => f_X10_scan_6 w1 x2 x3 x4 z5 z6 o.1 o.2.1 o.2.2
def f_X10_scan_4 (w1 : Nat) (x2 : Int32) (x3 : Int32) (x4 : Int32) (z5 : Option Value) (z6 : Option Value) (I : xI) (J : xJ) : Option ((Nat × Int32 × Int32 × Int32 × (Option Value) × (Option Value) × xI × xJ) ⊕ (Unit × xI × xJ)) := if (I 26 5) = 0 then f_X10_scan_5 w1 x2 x3 x4 z5 z6 I J else ((f_X10_scan_23 w1 x2 x3 x4 z5 z6 I J)).map .inr
def f_X10_scan_3 (w1 : Nat) (x2 : Int32) (x3 : Int32) (x4 : Int32) (z5 : Option Value) (z6 : Option Value) (I : xI) (J : xJ) : Option ((Nat × Int32 × Int32 × Int32 × (Option Value) × (Option Value) × xI × xJ) ⊕ (Unit × xI × xJ)) := if (I 24 1) ≤ x3 then ((f_X10_scan_23 w1 x2 x3 x4 z5 z6 I J)).map .inr else f_X10_scan_4 w1 x2 x3 x4 z5 z6 I J
def b_X10_scan_2 (w1 : Nat) (x2 : Int32) (x3 : Int32) (x4 : Int32) (z5 : Option Value) (z6 : Option Value) (I : xI) (J : xJ) : Option ((Nat × Int32 × Int32 × Int32 × (Option Value) × (Option Value) × xI × xJ) ⊕ (Unit × xI × xJ)) := if 400 < x4 then ((f_X10_scan_23 w1 x2 x3 x4 z5 z6 I J)).map .inr else f_X10_scan_3 w1 x2 x3 x4 z5 z6 I J
def f_X10_scan_2 (w1 : Nat) (x2 : Int32) (x3 : Int32) (x4 : Int32) (z5 : Option Value) (z6 : Option Value) (I : xI) (J : xJ) : Option (Unit × xI × xJ) := xloop (fun s : Nat × Int32 × Int32 × Int32 × (Option Value) × (Option Value) × xI × xJ => b_X10_scan_2 s.1 s.2.1 s.2.2.1 s.2.2.2.1 s.2.2.2.2.1 s.2.2.2.2.2.1 s.2.2.2.2.2.2.1 s.2.2.2.2.2.2.2) 5000 (w1, x2, x3, x4, z5, z6, I, J)
def f_X10_scan_1 (w1 : Nat) (x2 : Int32) (s0 : Int32) (I : xI) (J : xJ) : Option (Unit × xI × xJ) := f_X10_scan_2 w1 x2 s0 0 none none I J
def f_X10_scan_0 (I : xI) (J : xJ) : Option (Unit × xI × xJ) := (f_X9_skipBlanks 0 ((xup ((xup ((xup ((xup I 26 4 0)) 26 5 0)) 26 6 ((-1)))) 26 7 0)) J).bind fun o => f_X10_scan_1 2000 0 o.1 o.2.1 o.2.2
def f_X10_scan (I : xI) (J : xJ) : Option (Unit × xI × xJ) := f_X10_scan_0 I J
theorem p_X10_scan_26 {L : Nat} {xs : Nat → Int32} {d : Nat} {Q : xO → Prop} (w1 : Nat) (x2 : Int32) (x3 : Int32) (x4 : Int32) (z5 : Option Value) (z6 : Option Value) (I : xI) (J : xJ) {t : Unit × xI × xJ} (h : f_X10_scan_26 w1 x2 x3 x4 z5 z6 I J = some t) (hC : (c_X10_scan Q) t) : Rn L xs (d + 6) 130 187 [some (.ref 26), some (.ref w1), some (.int x2), some (.int x3), some (.int x4), z5, z6] [] 94 (I, J, xrf) Q := by
  unfold f_X10_scan_26 at h
  cases h
  exact Rn.ret 1 (o := (none, 94, (I, J, xrf))) (fun f => rfl) hC
theorem p_X10_scan_25 {L : Nat} {xs : Nat → Int32} {d : Nat} {Q : xO → Prop} (w1 : Nat) (x2 : Int32) (x3 : Int32) (x4 : Int32) (z5 : Option Value) (z6 : Option Value) (I : xI) (J : xJ) {t : Unit × xI × xJ} (h : f_X10_scan_25 w1 x2 x3 x4 z5 z6 I J = some t) (hC : (c_X10_scan Q) t) : Rn L xs (d + 6) 130 175 [some (.ref 26), some (.ref w1), some (.int x2), some (.int x3), some (.int x4), z5, z6] [] 94 (I, J, xrf) Q := by
  unfold f_X10_scan_25 at h
  refine Rn.go 5 (j' := 130) (pc' := 184) (ls' := [some (.ref 26), some (.ref w1), some (.int x2), some (.int x3), some (.int x4), z5, z6]) (st' := [.int ((I 24 1)), .int 1, .ref 26]) (n' := 94) (M' := (I, J, xrf)) (fun f => rfl) ?_
  obtain ⟨o, ho, h⟩ := Option.bind_eq_some_iff.mp h
  refine Rn.call (d1 := d + 5) (j1 := 131) (ls1 := [some (.ref 26), some (.int 1), some (.int ((I 24 1)))]) (rest := []) (fun f => rfl) ?_
  refine p_X10_fail (d := d + 4) 1 ((I 24 1)) I J (t := o) ho ?_
  exact p_X10_scan_26 w1 x2 x3 x4 z5 z6 o.2.1 o.2.2 h hC
theorem p_X10_scan_24 {L : Nat} {xs : Nat → Int32} {d : Nat} {Q : xO → Prop} (w1 : Nat) (x2 : Int32) (x3 : Int32) (x4 : Int32) (z5 : Option Value) (z6 : Option Value) (s0 : Int32) (s1 : Int32) (I : xI) (J : xJ) {t : Unit × xI × xJ} (h : f_X10_scan_24 w1 x2 x3 x4 z5 z6 s0 s1 I J = some t) (hC : (c_X10_scan Q) t) : Rn L xs (d + 6) 130 172 [some (.ref 26), some (.ref w1), some (.int x2), some (.int x3), some (.int x4), z5, z6] [.int s1, .int s0] 94 (I, J, xrf) Q := by
  unfold f_X10_scan_24 at h
  refine Rn.fi 1 (c := s1 ≤ s0) (p1 := 187) (l1 := [some (.ref 26), some (.ref w1), some (.int x2), some (.int x3), some (.int x4), z5, z6]) (s1 := []) (n1 := 94) (M1 := (I, J, xrf)) (p2 := 175) (l2 := [some (.ref 26), some (.ref w1), some (.int x2), some (.int x3), some (.int x4), z5, z6]) (s2 := []) (n2 := 94) (M2 := (I, J, xrf)) (fun f => rfl) (fun hc => ?_) (fun hc => ?_)
  · rw [if_pos hc] at h
    exact p_X10_scan_26 w1 x2 x3 x4 z5 z6 I J h hC
  · rw [if_neg hc] at h
    exact p_X10_scan_25 w1 x2 x3 x4 z5 z6 I J h hC
theorem p_X10_scan_23 {L : Nat} {xs : Nat → Int32} {d : Nat} {Q : xO → Prop} (w1 : Nat) (x2 : Int32) (x3 : Int32) (x4 : Int32) (z5 : Option Value) (z6 : Option Value) (I : xI) (J : xJ) {t : Unit × xI × xJ} (h : f_X10_scan_23 w1 x2 x3 x4 z5 z6 I J = some t) (hC : (c_X10_scan Q) t) : Rn L xs (d + 6) 130 167 [some (.ref 26), some (.ref w1), some (.int x2), some (.int x3), some (.int x4), z5, z6] [] 94 (I, J, xrf) Q := by
  unfold f_X10_scan_23 at h
  obtain ⟨hz, h⟩ := xif h
  refine Rn.goB 2 (c := Nat.blt w1 2999) (p1 := 169) (l1 := [some (.ref 26), some (.ref w1), some (.int x2), some (.int x3), some (.int x4), z5, z6]) (s1 := [.ref w1, .int x2]) (n1 := 94) (M1 := (I, J, xrf)) (fun f => rfl) (zok_lt hz) ?_
  obtain ⟨hc, h⟩ := xif h
  refine Rn.callB (c := Nat.blt w1 2999 && (Nat.beq 0 2 || Nat.beq (xcl 94 w1) 20)) (d1 := d + 5) (j1 := 300) (ls1 := [some (.ref w1)]) (rest := [.int x2]) (fun f => rfl) (zok_cl hc) ?_
  refine z_len (d := d + 2) hc ?_
  exact p_X10_scan_24 w1 x2 x3 x4 z5 z6 x2 ((Int32.ofNat (zlen w1))) I J h hC
theorem p_X10_scan_22 {L : Nat} {xs : Nat → Int32} {d : Nat} {Q : xO → Prop} (w1 : Nat) (x2 : Int32) (x3 : Int32) (x4 : Int32) (x5 : Int32) (x6 : Int32) (s0 : Int32) (I : xI) (J : xJ) {t : (Nat × Int32 × Int32 × Int32 × (Option Value) × (Option Value) × xI × xJ) ⊕ (Unit × xI × xJ)} (h : f_X10_scan_22 w1 x2 x3 x4 x5 x6 s0 I J = some t) (hC : (c_X10_scan_2 L xs d Q) t) : Rn L xs (d + 6) 130 160 [some (.ref 26), some (.ref w1), some (.int x2), some (.int x3), some (.int x4), some (.int x5), some (.int x6)] [.int s0] 94 (I, J, xrf) Q := by
  unfold f_X10_scan_22 at h
  refine Rn.go 3 (j' := 130) (pc' := 37) (ls' := [some (.ref 26), some (.ref w1), some (.int x2), some (.int s0), some (.int ((x4 + 1))), some (.int x5), some (.int x6)]) (st' := []) (n' := 94) (M' := (I, J, xrf)) (fun f => rfl) ?_
  cases h; exact hC
theorem p_X10_scan_21 {L : Nat} {xs : Nat → Int32} {d : Nat} {Q : xO → Prop} (w1 : Nat) (x2 : Int32) (x3 : Int32) (x4 : Int32) (x5 : Int32) (x6 : Int32) (I : xI) (J : xJ) {t : (Nat × Int32 × Int32 × Int32 × (Option Value) × (Option Value) × xI × xJ) ⊕ (Unit × xI × xJ)} (h : f_X10_scan_21 w1 x2 x3 x4 x5 x6 I J = some t) (hC : (c_X10_scan_2 L xs d Q) t) : Rn L xs (d + 6) 130 151 [some (.ref 26), some (.ref w1), some (.int x2), some (.int x3), some (.int x4), some (.int x5), some (.int x6)] [] 94 (I, J, xrf) Q := by
  unfold f_X10_scan_21 at h
  refine Rn.go 3 (j' := 130) (pc' := 157) (ls' := [some (.ref 26), some (.ref w1), some (.int x2), some (.int x3), some (.int x4), some (.int x5), some (.int x6)]) (st' := [.int x5, .ref 24]) (n' := 94) (M' := (I, J, xrf)) (fun f => rfl) ?_
  obtain ⟨o, ho, h⟩ := Option.bind_eq_some_iff.mp h
  refine Rn.call (d1 := d + 5) (j1 := 124) (ls1 := [some (.ref 24), some (.int x5), none]) (rest := []) (fun f => rfl) ?_
  refine p_X9_skipBlanks (d := d + 2) x5 I J (t := o) ho ?_
  exact p_X10_scan_22 w1 x2 x3 x4 x5 x6 o.1 o.2.1 o.2.2 h hC
theorem p_X10_scan_20 {L : Nat} {xs : Nat → Int32} {d : Nat} {Q : xO → Prop} (w1 : Nat) (x2 : Int32) (x3 : Int32) (x4 : Int32) (x5 : Int32) (x6 : Int32) (I : xI) (J : xJ) {t : (Nat × Int32 × Int32 × Int32 × (Option Value) × (Option Value) × xI × xJ) ⊕ (Unit × xI × xJ)} (h : f_X10_scan_20 w1 x2 x3 x4 x5 x6 I J = some t) (hC : (c_X10_scan_2 L xs d Q) t) : Rn L xs (d + 6) 130 140 [some (.ref 26), some (.ref w1), some (.int x2), some (.int x3), some (.int x4), some (.int x5), some (.int x6)] [] 94 (I, J, xrf) Q := by
  unfold f_X10_scan_20 at h
  refine Rn.go 6 (j' := 130) (pc' := 148) (ls' := [some (.ref 26), some (.ref w1), some (.int x2), some (.int x3), some (.int x4), some (.int x5), some (.int x6)]) (st' := [.int ((x5 - x3)), .int x3, .int x6, .ref 26]) (n' := 94) (M' := (I, J, xrf)) (fun f => rfl) ?_
  obtain ⟨o, ho, h⟩ := Option.bind_eq_some_iff.mp h
  refine Rn.call (d1 := d + 5) (j1 := 132) (ls1 := [some (.ref 26), some (.int x6), some (.int x3), some (.int ((x5 - x3)))]) (rest := []) (fun f => rfl) ?_
  refine p_X10_keep (d := d + 3) x6 x3 ((x5 - x3)) I J (t := o) ho ?_
  exact p_X10_scan_21 w1 x2 x3 x4 x5 x6 o.2.1 o.2.2 h hC
theorem p_X10_scan_19 {L : Nat} {xs : Nat → Int32} {d : Nat} {Q : xO → Prop} (w1 : Nat) (x2 : Int32) (x3 : Int32) (x4 : Int32) (x5 : Int32) (x6 : Int32) (v0 : Nat) (I : xI) (J : xJ) {t : (Nat × Int32 × Int32 × Int32 × (Option Value) × (Option Value) × xI × xJ) ⊕ (Unit × xI × xJ)} (h : f_X10_scan_19 w1 x2 x3 x4 x5 x6 v0 I J = some t) (hC : (c_X10_scan_2 L xs d Q) t) : Rn L xs (d + 6) 130 137 [some (.ref 26), some (.ref w1), some (.int x2), some (.int x3), some (.int x4), some (.int x5), some (.int x6)] [.ref v0] 94 (I, J, xrf) Q := by
  unfold f_X10_scan_19 at h
  obtain ⟨hz, h⟩ := xif h
  refine Rn.goB 1 (c := Nat.blt v0 2999) (p1 := 138) (l1 := [some (.ref 26), some (.ref v0), some (.int x2), some (.int x3), some (.int x4), some (.int x5), some (.int x6)]) (s1 := []) (n1 := 94) (M1 := (I, J, xrf)) (fun f => rfl) (zok_lt hz) ?_
  refine Rn.go 2 (j' := 130) (pc' := 140) (ls' := [some (.ref 26), some (.ref v0), some (.int 0), some (.int x3), some (.int x4), some (.int x5), some (.int x6)]) (st' := []) (n' := 94) (M' := (I, J, xrf)) (fun f => rfl) ?_
  exact p_X10_scan_20 v0 0 x3 x4 x5 x6 I J h hC
theorem p_X10_scan_18 {L : Nat} {xs : Nat → Int32} {d : Nat} {Q : xO → Prop} (w1 : Nat) (x2 : Int32) (x3 : Int32) (x4 : Int32) (x5 : Int32) (x6 : Int32) (I : xI) (J : xJ) {t : (Nat × Int32 × Int32 × Int32 × (Option Value) × (Option Value) × xI × xJ) ⊕ (Unit × xI × xJ)} (h : f_X10_scan_18 w1 x2 x3 x4 x5 x6 I J = some t) (hC : (c_X10_scan_2 L xs d Q) t) : Rn L xs (d + 6) 130 132 [some (.ref 26), some (.ref w1), some (.int x2), some (.int x3), some (.int x4), some (.int x5), some (.int x6)] [] 94 (I, J, xrf) Q := by
  unfold f_X10_scan_18 at h
  refine Rn.go 1 (j' := 130) (pc' := 134) (ls' := [some (.ref 26), some (.ref w1), some (.int x2), some (.int x3), some (.int x4), some (.int x5), some (.int x6)]) (st' := [.int x6]) (n' := 94) (M' := (I, J, xrf)) (fun f => rfl) ?_
  obtain ⟨o, ho, h⟩ := Option.bind_eq_some_iff.mp h
  refine Rn.call (d1 := d + 5) (j1 := 135) (ls1 := [some (.int x6)]) (rest := []) (fun f => rfl) ?_
  refine p_X10_shapeOf (d := d + 4) x6 I J (t := o) ho ?_
  exact p_X10_scan_19 w1 x2 x3 x4 x5 x6 o.1 o.2.1 o.2.2 h hC
theorem p_X10_scan_17 {L : Nat} {xs : Nat → Int32} {d : Nat} {Q : xO → Prop} (w1 : Nat) (x2 : Int32) (x3 : Int32) (x4 : Int32) (x5 : Int32) (x6 : Int32) (s1 : Int32) (I : xI) (J : xJ) {t : (Nat × Int32 × Int32 × Int32 × (Option Value) × (Option Value) × xI × xJ) ⊕ (Unit × xI × xJ)} (h : f_X10_scan_17 w1 x2 x3 x4 x5 x6 s1 I J = some t) (hC : (c_X10_scan_2 L xs d Q) t) : Rn L xs (d + 6) 130 128 [some (.ref 26), some (.ref w1), some (.int x2), some (.int x3), some (.int x4), some (.int x5), some (.int x6)] [.int s1, .ref 26] 94 (I, J, xrf) Q := by
  unfold f_X10_scan_17 at h
  refine Rn.go 1 (j' := 130) (pc' := 129) (ls' := [some (.ref 26), some (.ref w1), some (.int x2), some (.int x3), some (.int x4), some (.int x5), some (.int x6)]) (st' := [.int x3, .int s1, .ref 26]) (n' := 94) (M' := (I, J, xrf)) (fun f => rfl) ?_
  obtain ⟨o, ho, h⟩ := Option.bind_eq_some_iff.mp h
  refine Rn.call (d1 := d + 5) (j1 := 131) (ls1 := [some (.ref 26), some (.int s1), some (.int x3)]) (rest := []) (fun f => rfl) ?_
  refine p_X10_fail (d := d + 4) s1 x3 I J (t := o) ho ?_
  exact p_X10_scan_18 w1 x2 x3 x4 x5 x6 o.2.1 o.2.2 h hC
theorem p_X10_scan_16 {L : Nat} {xs : Nat → Int32} {d : Nat} {Q : xO → Prop} (w1 : Nat) (x2 : Int32) (x3 : Int32) (x4 : Int32) (x5 : Int32) (x6 : Int32) (I : xI) (J : xJ) {t : (Nat × Int32 × Int32 × Int32 × (Option Value) × (Option Value) × xI × xJ) ⊕ (Unit × xI × xJ)} (h : f_X10_scan_16 w1 x2 x3 x4 x5 x6 I J = some t) (hC : (c_X10_scan_2 L xs d Q) t) : Rn L xs (d + 6) 130 121 [some (.ref 26), some (.ref w1), some (.int x2), some (.int x3), some (.int x4), some (.int x5), some (.int x6)] [] 94 (I, J, xrf) Q := by
  unfold f_X10_scan_16 at h
  refine Rn.go 3 (j' := 130) (pc' := 125) (ls' := [some (.ref 26), some (.ref w1), some (.int x2), some (.int x3), some (.int x4), some (.int x5), some (.int x6)]) (st' := [.int x6, .ref 26, .ref 26]) (n' := 94) (M' := (I, J, xrf)) (fun f => rfl) ?_
  obtain ⟨o, ho, h⟩ := Option.bind_eq_some_iff.mp h
  refine Rn.call (d1 := d + 5) (j1 := 133) (ls1 := [some (.ref 26), some (.int x6)]) (rest := [.ref 26]) (fun f => rfl) ?_
  refine p_X10_beginning (d := d + 1) x6 I J (t := o) ho ?_
  exact p_X10_scan_17 w1 x2 x3 x4 x5 x6 o.1 o.2.1 o.2.2 h hC
theorem p_X10_scan_15 {L : Nat} {xs : Nat → Int32} {d : Nat} {Q : xO → Prop} (w1 : Nat) (x2 : Int32) (x3 : Int32) (x4 : Int32) (x5 : Int32) (x6 : Int32) (I : xI) (J : xJ) {t : (Nat × Int32 × Int32 × Int32 × (Option Value) × (Option Value) × xI × xJ) ⊕ (Unit × xI × xJ)} (h : f_X10_scan_15 w1 x2 x3 x4 x5 x6 I J = some t) (hC : (c_X10_scan_2 L xs d Q) t) : Rn L xs (d + 6) 130 115 [some (.ref 26), some (.ref w1), some (.int x2), some (.int x3), some (.int x4), some (.int x5), some (.int x6)] [] 94 (I, J, xrf) Q := by
  unfold f_X10_scan_15 at h
  refine Rn.go 2 (j' := 130) (pc' := 140) (ls' := [some (.ref 26), some (.ref w1), some (.int ((x2 + 1))), some (.int x3), some (.int x4), some (.int x5), some (.int x6)]) (st' := []) (n' := 94) (M' := (I, J, xrf)) (fun f => rfl) ?_
  exact p_X10_scan_20 w1 ((x2 + 1)) x3 x4 x5 x6 I J h hC
theorem p_X10_scan_14 {L : Nat} {xs : Nat → Int32} {d : Nat} {Q : xO → Prop} (w1 : Nat) (x2 : Int32) (x3 : Int32) (x4 : Int32) (x5 : Int32) (x6 : Int32) (s1 : Int32) (I : xI) (J : xJ) {t : (Nat × Int32 × Int32 × Int32 × (Option Value) × (Option Value) × xI × xJ) ⊕ (Unit × xI × xJ)} (h : f_X10_scan_14 w1 x2 x3 x4 x5 x6 s1 I J = some t) (hC : (c_X10_scan_2 L xs d Q) t) : Rn L xs (d + 6) 130 111 [some (.ref 26), some (.ref w1), some (.int x2), some (.int x3), some (.int x4), some (.int x5), some (.int x6)] [.int s1, .ref 26] 94 (I, J, xrf) Q := by
  unfold f_X10_scan_14 at h
  refine Rn.go 1 (j' := 130) (pc' := 112) (ls' := [some (.ref 26), some (.ref w1), some (.int x2), some (.int x3), some (.int x4), some (.int x5), some (.int x6)]) (st' := [.int x3, .int s1, .ref 26]) (n' := 94) (M' := (I, J, xrf)) (fun f => rfl) ?_
  obtain ⟨o, ho, h⟩ := Option.bind_eq_some_iff.mp h
  refine Rn.call (d1 := d + 5) (j1 := 131) (ls1 := [some (.ref 26), some (.int s1), some (.int x3)]) (rest := []) (fun f => rfl) ?_
  refine p_X10_fail (d := d + 4) s1 x3 I J (t := o) ho ?_
  exact p_X10_scan_15 w1 x2 x3 x4 x5 x6 o.2.1 o.2.2 h hC
theorem p_X10_scan_13 {L : Nat} {xs : Nat → Int32} {d : Nat} {Q : xO → Prop} (w1 : Nat) (x2 : Int32) (x3 : Int32) (x4 : Int32) (x5 : Int32) (x6 : Int32) (I : xI) (J : xJ) {t : (Nat × Int32 × Int32 × Int32 × (Option Value) × (Option Value) × xI × xJ) ⊕ (Unit × xI × xJ)} (h : f_X10_scan_13 w1 x2 x3 x4 x5 x6 I J = some t) (hC : (c_X10_scan_2 L xs d Q) t) : Rn L xs (d + 6) 130 110 [some (.ref 26), some (.ref w1), some (.int x2), some (.int x3), some (.int x4), some (.int x5), some (.int x6)] [.ref 26] 94 (I, J, xrf) Q := by
  unfold f_X10_scan_13 at h
  refine Rn.go 1 (j' := 130) (pc' := 111) (ls' := [some (.ref 26), some (.ref w1), some (.int x2), some (.int x3), some (.int x4), some (.int x5), some (.int x6)]) (st' := [.int 1, .ref 26]) (n' := 94) (M' := (I, J, xrf)) (fun f => rfl) ?_
  exact p_X10_scan_14 w1 x2 x3 x4 x5 x6 1 I J h hC
theorem p_X10_scan_12 {L : Nat} {xs : Nat → Int32} {d : Nat} {Q : xO → Prop} (w1 : Nat) (x2 : Int32) (x3 : Int32) (x4 : Int32) (x5 : Int32) (x6 : Int32) (I : xI) (J : xJ) {t : (Nat × Int32 × Int32 × Int32 × (Option Value) × (Option Value) × xI × xJ) ⊕ (Unit × xI × xJ)} (h : f_X10_scan_12 w1 x2 x3 x4 x5 x6 I J = some t) (hC : (c_X10_scan_2 L xs d Q) t) : Rn L xs (d + 6) 130 106 [some (.ref 26), some (.ref w1), some (.int x2), some (.int x3), some (.int x4), some (.int x5), some (.int x6)] [.ref 26] 94 (I, J, xrf) Q := by
  unfold f_X10_scan_12 at h
  refine Rn.go 2 (j' := 130) (pc' := 111) (ls' := [some (.ref 26), some (.ref w1), some (.int x2), some (.int x3), some (.int x4), some (.int x5), some (.int x6)]) (st' := [.int 0, .ref 26]) (n' := 94) (M' := (I, J, xrf)) (fun f => rfl) ?_
  exact p_X10_scan_14 w1 x2 x3 x4 x5 x6 0 I J h hC
theorem p_X10_scan_11 {L : Nat} {xs : Nat → Int32} {d : Nat} {Q : xO → Prop} (w1 : Nat) (x2 : Int32) (x3 : Int32) (x4 : Int32) (x5 : Int32) (x6 : Int32) (s1 : Int32) (I : xI) (J : xJ) {t : (Nat × Int32 × Int32 × Int32 × (Option Value) × (Option Value) × xI × xJ) ⊕ (Unit × xI × xJ)} (h : f_X10_scan_11 w1 x2 x3 x4 x5 x6 s1 I J = some t) (hC : (c_X10_scan_2 L xs d Q) t) : Rn L xs (d + 6) 130 103 [some (.ref 26), some (.ref w1), some (.int x2), some (.int x3), some (.int x4), some (.int x5), some (.int x6)] [.int s1, .ref 26] 94 (I, J, xrf) Q := by
  unfold f_X10_scan_11 at h
  refine Rn.fi 1 (c := s1 = 0) (p1 := 110) (l1 := [some (.ref 26), some (.ref w1), some (.int x2), some (.int x3), some (.int x4), some (.int x5), some (.int x6)]) (s1 := [.ref 26]) (n1 := 94) (M1 := (I, J, xrf)) (p2 := 106) (l2 := [some (.ref 26), some (.ref w1), some (.int x2), some (.int x3), some (.int x4), some (.int x5), some (.int x6)]) (s2 := [.ref 26]) (n2 := 94) (M2 := (I, J, xrf)) (fun f => rfl) (fun hc => ?_) (fun hc => ?_)
  · rw [if_pos hc] at h
    exact p_X10_scan_13 w1 x2 x3 x4 x5 x6 I J h hC
  · rw [if_neg hc] at h
    exact p_X10_scan_12 w1 x2 x3 x4 x5 x6 I J h hC
theorem p_X10_scan_10 {L : Nat} {xs : Nat → Int32} {d : Nat} {Q : xO → Prop} (w1 : Nat) (x2 : Int32) (x3 : Int32) (x4 : Int32) (x5 : Int32) (x6 : Int32) (s1 : Int32) (I : xI) (J : xJ) {t : (Nat × Int32 × Int32 × Int32 × (Option Value) × (Option Value) × xI × xJ) ⊕ (Unit × xI × xJ)} (h : f_X10_scan_10 w1 x2 x3 x4 x5 x6 s1 I J = some t) (hC : (c_X10_scan_2 L xs d Q) t) : Rn L xs (d + 6) 130 98 [some (.ref 26), some (.ref w1), some (.int x2), some (.int x3), some (.int x4), some (.int x5), some (.int x6)] [.int s1, .ref 26] 94 (I, J, xrf) Q := by
  unfold f_X10_scan_10 at h
  refine Rn.go 1 (j' := 130) (pc' := 100) (ls' := [some (.ref 26), some (.ref w1), some (.int x2), some (.int x3), some (.int x4), some (.int x5), some (.int x6)]) (st' := [.int x6, .int s1, .ref 26]) (n' := 94) (M' := (I, J, xrf)) (fun f => rfl) ?_
  obtain ⟨o, ho, h⟩ := Option.bind_eq_some_iff.mp h
  refine Rn.call (d1 := d + 5) (j1 := 136) (ls1 := [some (.int s1), some (.int x6)]) (rest := [.ref 26]) (fun f => rfl) ?_
  refine p_X10_fits (d := d + 4) s1 x6 I J (t := o) ho ?_
  exact p_X10_scan_11 w1 x2 x3 x4 x5 x6 o.1 o.2.1 o.2.2 h hC
theorem p_X10_scan_9 {L : Nat} {xs : Nat → Int32} {d : Nat} {Q : xO → Prop} (w1 : Nat) (x2 : Int32) (x3 : Int32) (x4 : Int32) (x5 : Int32) (x6 : Int32) (I : xI) (J : xJ) {t : (Nat × Int32 × Int32 × Int32 × (Option Value) × (Option Value) × xI × xJ) ⊕ (Unit × xI × xJ)} (h : f_X10_scan_9 w1 x2 x3 x4 x5 x6 I J = some t) (hC : (c_X10_scan_2 L xs d Q) t) : Rn L xs (d + 6) 130 92 [some (.ref 26), some (.ref w1), some (.int x2), some (.int x3), some (.int x4), some (.int x5), some (.int x6)] [] 94 (I, J, xrf) Q := by
  unfold f_X10_scan_9 at h
  obtain ⟨hz, h⟩ := xif h
  refine Rn.goB 2 (c := Nat.blt w1 2999) (p1 := 94) (l1 := [some (.ref 26), some (.ref w1), some (.int x2), some (.int x3), some (.int x4), some (.int x5), some (.int x6)]) (s1 := [.ref w1, .ref 26]) (n1 := 94) (M1 := (I, J, xrf)) (fun f => rfl) (zok_lt hz) ?_
  refine Rn.go 1 (j' := 130) (pc' := 95) (ls' := [some (.ref 26), some (.ref w1), some (.int x2), some (.int x3), some (.int x4), some (.int x5), some (.int x6)]) (st' := [.int x2, .ref w1, .ref 26]) (n' := 94) (M' := (I, J, xrf)) (fun f => rfl) ?_
  obtain ⟨hc, h⟩ := xif h
  refine Rn.callB (c := Nat.blt w1 2999 && (Nat.beq 0 2 || Nat.beq (xcl 94 w1) 20)) (d1 := d + 5) (j1 := 302) (ls1 := [some (.ref w1), some (.int x2)]) (rest := [.ref 26]) (fun f => rfl) (zok_cl (fun q => hc (Or.inl q))) ?_
  refine z_chr (d := d + 2) hc ?_
  exact p_X10_scan_10 w1 x2 x3 x4 x5 x6 ((zchr w1 x2.toNatClampNeg)) I J h hC
theorem p_X10_scan_8 {L : Nat} {xs : Nat → Int32} {d : Nat} {Q : xO → Prop} (w1 : Nat) (x2 : Int32) (x3 : Int32) (x4 : Int32) (x5 : Int32) (x6 : Int32) (s0 : Int32) (s1 : Int32) (I : xI) (J : xJ) {t : (Nat × Int32 × Int32 × Int32 × (Option Value) × (Option Value) × xI × xJ) ⊕ (Unit × xI × xJ)} (h : f_X10_scan_8 w1 x2 x3 x4 x5 x6 s0 s1 I J = some t) (hC : (c_X10_scan_2 L xs d Q) t) : Rn L xs (d + 6) 130 89 [some (.ref 26), some (.ref w1), some (.int x2), some (.int x3), some (.int x4), some (.int x5), some (.int x6)] [.int s1, .int s0] 94 (I, J, xrf) Q := by
  unfold f_X10_scan_8 at h
  refine Rn.fi 1 (c := s1 ≤ s0) (p1 := 121) (l1 := [some (.ref 26), some (.ref w1), some (.int x2), some (.int x3), some (.int x4), some (.int x5), some (.int x6)]) (s1 := []) (n1 := 94) (M1 := (I, J, xrf)) (p2 := 92) (l2 := [some (.ref 26), some (.ref w1), some (.int x2), some (.int x3), some (.int x4), some (.int x5), some (.int x6)]) (s2 := []) (n2 := 94) (M2 := (I, J, xrf)) (fun f => rfl) (fun hc => ?_) (fun hc => ?_)
  · rw [if_pos hc] at h
    exact p_X10_scan_16 w1 x2 x3 x4 x5 x6 I J h hC
  · rw [if_neg hc] at h
    exact p_X10_scan_9 w1 x2 x3 x4 x5 x6 I J h hC
theorem p_X10_scan_7 {L : Nat} {xs : Nat → Int32} {d : Nat} {Q : xO → Prop} (w1 : Nat) (x2 : Int32) (x3 : Int32) (x4 : Int32) (x5 : Int32) (z6 : Option Value) (s0 : Int32) (I : xI) (J : xJ) {t : (Nat × Int32 × Int32 × Int32 × (Option Value) × (Option Value) × xI × xJ) ⊕ (Unit × xI × xJ)} (h : f_X10_scan_7 w1 x2 x3 x4 x5 z6 s0 I J = some t) (hC : (c_X10_scan_2 L xs d Q) t) : Rn L xs (d + 6) 130 82 [some (.ref 26), some (.ref w1), some (.int x2), some (.int x3), some (.int x4), some (.int x5), z6] [.int s0] 94 (I, J, xrf) Q := by
  unfold f_X10_scan_7 at h
  obtain ⟨hz, h⟩ := xif h
  refine Rn.goB 3 (c := Nat.blt w1 2999) (p1 := 86) (l1 := [some (.ref 26), some (.ref w1), some (.int x2), some (.int x3), some (.int x4), some (.int x5), some (.int s0)]) (s1 := [.ref w1, .int x2]) (n1 := 94) (M1 := (I, J, xrf)) (fun f => rfl) (zok_lt hz) ?_
  obtain ⟨hc, h⟩ := xif h
  refine Rn.callB (c := Nat.blt w1 2999 && (Nat.beq 0 2 || Nat.beq (xcl 94 w1) 20)) (d1 := d + 5) (j1 := 300) (ls1 := [some (.ref w1)]) (rest := [.int x2]) (fun f => rfl) (zok_cl hc) ?_
  refine z_len (d := d + 2) hc ?_
  exact p_X10_scan_8 w1 x2 x3 x4 x5 s0 x2 ((Int32.ofNat (zlen w1))) I J h hC
theorem p_X10_scan_6 {L : Nat} {xs : Nat → Int32} {d : Nat} {Q : xO → Prop} (w1 : Nat) (x2 : Int32) (x3 : Int32) (x4 : Int32) (z5 : Option Value) (z6 : Option Value) (s0 : Int32) (I : xI) (J : xJ) {t : (Nat × Int32 × Int32 × Int32 × (Option Value) × (Option Value) × xI × xJ) ⊕ (Unit × xI × xJ)} (h : f_X10_scan_6 w1 x2 x3 x4 z5 z6 s0 I J = some t) (hC : (c_X10_scan_2 L xs d Q) t) : Rn L xs (d + 6) 130 71 [some (.ref 26), some (.ref w1), some (.int x2), some (.int x3), some (.int x4), z5, z6] [.int s0] 94 (I, J, xrf) Q := by
  unfold f_X10_scan_6 at h
  refine Rn.go 6 (j' := 130) (pc' := 79) (ls' := [some (.ref 26), some (.ref w1), some (.int x2), some (.int x3), some (.int x4), some (.int s0), z6]) (st' := [.int ((s0 - x3)), .int x3, .ref 26]) (n' := 94) (M' := (I, J, xrf)) (fun f => rfl) ?_
  obtain ⟨o, ho, h⟩ := Option.bind_eq_some_iff.mp h
  refine Rn.call (d1 := d + 5) (j1 := 134) (ls1 := [some (.ref 26), some (.int x3), some (.int ((s0 - x3)))]) (rest := []) (fun f => rfl) ?_
  refine p_X10_kindOf (d := d + 0) x3 ((s0 - x3)) I J (t := o) ho ?_
  exact p_X10_scan_7 w1 x2 x3 x4 s0 z6 o.1 o.2.1 o.2.2 h hC
theorem p_X10_scan_5 {L : Nat} {xs : Nat → Int32} {d : Nat} {Q : xO → Prop} (w1 : Nat) (x2 : Int32) (x3 : Int32) (x4 : Int32) (z5 : Option Value) (z6 : Option Value) (I : xI) (J : xJ) {t : (Nat × Int32 × Int32 × Int32 × (Option Value) × (Option Value) × xI × xJ) ⊕ (Unit × xI × xJ)} (h : f_X10_scan_5 w1 x2 x3 x4 z5 z6 I J = some t) (hC : (c_X10_scan_2 L xs d Q) t) : Rn L xs (d + 6) 130 63 [some (.ref 26), some (.ref w1), some (.int x2), some (.int x3), some (.int x4), z5, z6] [] 94 (I, J, xrf) Q := by
  unfold f_X10_scan_5 at h
  refine Rn.go 3 (j' := 130) (pc' := 68) (ls' := [some (.ref 26), some (.ref w1), some (.int x2), some (.int x3), some (.int x4), z5, z6]) (st' := [.int x3, .ref 24]) (n' := 94) (M' := (I, J, xrf)) (fun f => rfl) ?_
  obtain ⟨o, ho, h⟩ := Option.bind_eq_some_iff.mp h
  refine Rn.call (d1 := d + 5) (j1 := 125) (ls1 := [some (.ref 24), some (.int x3), none]) (rest := []) (fun f => rfl) ?_
  refine p_X9_endOfRun (d := d + 2) x3 I J (t := o) ho ?_
  exact p_X10_scan_6 w1 x2 x3 x4 z5 z6 o.1 o.2.1 o.2.2 h hC
theorem p_X10_scan_4 {L : Nat} {xs : Nat → Int32} {d : Nat} {Q : xO → Prop} (w1 : Nat) (x2 : Int32) (x3 : Int32) (x4 : Int32) (z5 : Option Value) (z6 : Option Value) (I : xI) (J : xJ) {t : (Nat × Int32 × Int32 × Int32 × (Option Value) × (Option Value) × xI × xJ) ⊕ (Unit × xI × xJ)} (h : f_X10_scan_4 w1 x2 x3 x4 z5 z6 I J = some t) (hC : (c_X10_scan_2 L xs d Q) t) : Rn L xs (d + 6) 130 56 [some (.ref 26), some (.ref w1), some (.int x2), some (.int x3), some (.int x4), z5, z6] [] 94 (I, J, xrf) Q := by
  unfold f_X10_scan_4 at h
  refine Rn.fi 3 (c := (I 26 5) = 0) (p1 := 63) (l1 := [some (.ref 26), some (.ref w1), some (.int x2), some (.int x3), some (.int x4), z5, z6]) (s1 := []) (n1 := 94) (M1 := (I, J, xrf)) (p2 := 167) (l2 := [some (.ref 26), some (.ref w1), some (.int x2), some (.int x3), some (.int x4), z5, z6]) (s2 := []) (n2 := 94) (M2 := (I, J, xrf)) (fun f => rfl) (fun hc => ?_) (fun hc => ?_)
  · rw [if_pos hc] at h
    exact p_X10_scan_5 w1 x2 x3 x4 z5 z6 I J h hC
  · rw [if_neg hc] at h
    obtain ⟨t0, h0, rfl⟩ := Option.map_eq_some_iff.mp h
    exact p_X10_scan_23 w1 x2 x3 x4 z5 z6 I J h0 hC
theorem p_X10_scan_3 {L : Nat} {xs : Nat → Int32} {d : Nat} {Q : xO → Prop} (w1 : Nat) (x2 : Int32) (x3 : Int32) (x4 : Int32) (z5 : Option Value) (z6 : Option Value) (I : xI) (J : xJ) {t : (Nat × Int32 × Int32 × Int32 × (Option Value) × (Option Value) × xI × xJ) ⊕ (Unit × xI × xJ)} (h : f_X10_scan_3 w1 x2 x3 x4 z5 z6 I J = some t) (hC : (c_X10_scan_2 L xs d Q) t) : Rn L xs (d + 6) 130 45 [some (.ref 26), some (.ref w1), some (.int x2), some (.int x3), some (.int x4), z5, z6] [] 94 (I, J, xrf) Q := by
  unfold f_X10_scan_3 at h
  refine Rn.fi 5 (c := (I 24 1) ≤ x3) (p1 := 167) (l1 := [some (.ref 26), some (.ref w1), some (.int x2), some (.int x3), some (.int x4), z5, z6]) (s1 := []) (n1 := 94) (M1 := (I, J, xrf)) (p2 := 56) (l2 := [some (.ref 26), some (.ref w1), some (.int x2), some (.int x3), some (.int x4), z5, z6]) (s2 := []) (n2 := 94) (M2 := (I, J, xrf)) (fun f => rfl) (fun hc => ?_) (fun hc => ?_)
  · rw [if_pos hc] at h
    obtain ⟨t0, h0, rfl⟩ := Option.map_eq_some_iff.mp h
    exact p_X10_scan_23 w1 x2 x3 x4 z5 z6 I J h0 hC
  · rw [if_neg hc] at h
    exact p_X10_scan_4 w1 x2 x3 x4 z5 z6 I J h hC
theorem q_X10_scan_2 {L : Nat} {xs : Nat → Int32} {d : Nat} {Q : xO → Prop} (w1 : Nat) (x2 : Int32) (x3 : Int32) (x4 : Int32) (z5 : Option Value) (z6 : Option Value) (I : xI) (J : xJ) {t : (Nat × Int32 × Int32 × Int32 × (Option Value) × (Option Value) × xI × xJ) ⊕ (Unit × xI × xJ)} (h : b_X10_scan_2 w1 x2 x3 x4 z5 z6 I J = some t) (hC : (c_X10_scan_2 L xs d Q) t) : Rn L xs (d + 6) 130 37 [some (.ref 26), some (.ref w1), some (.int x2), some (.int x3), some (.int x4), z5, z6] [] 94 (I, J, xrf) Q := by
  unfold b_X10_scan_2 at h
  refine Rn.fi 3 (c := 400 < x4) (p1 := 167) (l1 := [some (.ref 26), some (.ref w1), some (.int x2), some (.int x3), some (.int x4), z5, z6]) (s1 := []) (n1 := 94) (M1 := (I, J, xrf)) (p2 := 45) (l2 := [some (.ref 26), some (.ref w1), some (.int x2), some (.int x3), some (.int x4), z5, z6]) (s2 := []) (n2 := 94) (M2 := (I, J, xrf)) (fun f => rfl) (fun hc => ?_) (fun hc => ?_)
  · rw [if_pos hc] at h
    obtain ⟨t0, h0, rfl⟩ := Option.map_eq_some_iff.mp h
    exact p_X10_scan_23 w1 x2 x3 x4 z5 z6 I J h0 hC
  · rw [if_neg hc] at h
    exact p_X10_scan_3 w1 x2 x3 x4 z5 z6 I J h hC
theorem p_X10_scan_2 {L : Nat} {xs : Nat → Int32} {d : Nat} {Q : xO → Prop} (w1 : Nat) (x2 : Int32) (x3 : Int32) (x4 : Int32) (z5 : Option Value) (z6 : Option Value) (I : xI) (J : xJ) {t : Unit × xI × xJ} (h : f_X10_scan_2 w1 x2 x3 x4 z5 z6 I J = some t) (hC : (c_X10_scan Q) t) : Rn L xs (d + 6) 130 37 [some (.ref 26), some (.ref w1), some (.int x2), some (.int x3), some (.int x4), z5, z6] [] 94 (I, J, xrf) Q := by
  unfold f_X10_scan_2 at h
  exact xloop_some (P := fun s : Nat × Int32 × Int32 × Int32 × (Option Value) × (Option Value) × xI × xJ => Rn L xs (d + 6) 130 37 [some (.ref 26), some (.ref s.1), some (.int s.2.1), some (.int s.2.2.1), some (.int s.2.2.2.1), s.2.2.2.2.1, s.2.2.2.2.2.1] [] 94 (s.2.2.2.2.2.2.1, s.2.2.2.2.2.2.2, xrf) Q) t (fun s ⟨s', hb, hp⟩ => q_X10_scan_2 s.1 s.2.1 s.2.2.1 s.2.2.2.1 s.2.2.2.2.1 s.2.2.2.2.2.1 s.2.2.2.2.2.2.1 s.2.2.2.2.2.2.2 hb hp) (fun s hb => q_X10_scan_2 s.1 s.2.1 s.2.2.1 s.2.2.2.1 s.2.2.2.2.1 s.2.2.2.2.2.1 s.2.2.2.2.2.2.1 s.2.2.2.2.2.2.2 hb hC) _ _ h
theorem p_X10_scan_1 {L : Nat} {xs : Nat → Int32} {d : Nat} {Q : xO → Prop} (w1 : Nat) (x2 : Int32) (s0 : Int32) (I : xI) (J : xJ) {t : Unit × xI × xJ} (h : f_X10_scan_1 w1 x2 s0 I J = some t) (hC : (c_X10_scan Q) t) : Rn L xs (d + 6) 130 33 [some (.ref 26), some (.ref w1), some (.int x2), none, none, none, none] [.int s0] 94 (I, J, xrf) Q := by
  unfold f_X10_scan_1 at h
  refine Rn.go 3 (j' := 130) (pc' := 37) (ls' := [some (.ref 26), some (.ref w1), some (.int x2), some (.int s0), some (.int 0), none, none]) (st' := []) (n' := 94) (M' := (I, J, xrf)) (fun f => rfl) ?_
  exact p_X10_scan_2 w1 x2 s0 0 none none I J h hC
theorem p_X10_scan_0 {L : Nat} {xs : Nat → Int32} {d : Nat} {Q : xO → Prop} (I : xI) (J : xJ) {t : Unit × xI × xJ} (h : f_X10_scan_0 I J = some t) (hC : (c_X10_scan Q) t) : Rn L xs (d + 6) 130 0 [some (.ref 26), none, none, none, none, none, none] [] 94 (I, J, xrf) Q := by
  unfold f_X10_scan_0 at h
  refine Rn.go 19 (j' := 130) (pc' := 30) (ls' := [some (.ref 26), some (.ref 2000), some (.int 0), none, none, none, none]) (st' := [.int 0, .ref 24]) (n' := 94) (M' := ((xup ((xup ((xup ((xup I 26 4 0)) 26 5 0)) 26 6 ((-1)))) 26 7 0), J, xrf)) (fun f => rfl) ?_
  obtain ⟨o, ho, h⟩ := Option.bind_eq_some_iff.mp h
  refine Rn.call (d1 := d + 5) (j1 := 124) (ls1 := [some (.ref 24), some (.int 0), none]) (rest := []) (fun f => rfl) ?_
  refine p_X9_skipBlanks (d := d + 2) 0 ((xup ((xup ((xup ((xup I 26 4 0)) 26 5 0)) 26 6 ((-1)))) 26 7 0)) J (t := o) ho ?_
  exact p_X10_scan_1 2000 0 o.1 o.2.1 o.2.2 h hC
theorem p_X10_scan {L : Nat} {xs : Nat → Int32} {d : Nat} {Q : xO → Prop} (I : xI) (J : xJ) {t : Unit × xI × xJ} (h : f_X10_scan I J = some t) (hC : Q (none, 94, (t.2.1, t.2.2, xrf))) : Rn L xs (d + 6) 130 0 [some (.ref 26), none, none, none, none, none, none] [] 94 (I, J, xrf) Q := p_X10_scan_0 I J h hC
/-! X8_lengthOf -/
def c_X8_lengthOf (Q : xO → Prop) (t : Int32 × xI × xJ) : Prop := Q ((some (.int t.1)), 94, (t.2.1, t.2.2, xrf))
def f_X8_lengthOf_2 (x1 : Int32) (s0 : Int32) (s1 : Int32) (I : xI) (J : xJ) : Option (Int32 × xI × xJ) := some ((s0 + s1), I, J)
def f_X8_lengthOf_1 (x1 : Int32) (s0 : Int32) (v1 : Nat) (I : xI) (J : xJ) : Option (Int32 × xI × xJ) := if ¬ zok v1 then none else f_X8_lengthOf_2 x1 s0 ((Int32.ofNat (zlen v1))) I J
def f_X8_lengthOf_0 (x1 : Int32) (I : xI) (J : xJ) : Option (Int32 × xI × xJ) := if x1 < 0 ∨ 400 ≤ x1.toNatClampNeg then none else (f_X10_shapeOf ((I 27 x1.toNatClampNeg)) I J).bind fun o => f_X8_lengthOf_1 x1 1 o.1 o.2.1 o.2.2
def f_X8_lengthOf (x1 : Int32) (I : xI) (J : xJ) : Option (Int32 × xI × xJ) := f_X8_lengthOf_0 x1 I J
theorem p_X8_lengthOf_2 {L : Nat} {xs : Nat → Int32} {d : Nat} {Q : xO → Prop} (x1 : Int32) (s0 : Int32) (s1 : Int32) (I : xI) (J : xJ) {t : Int32 × xI × xJ} (h : f_X8_lengthOf_2 x1 s0 s1 I J = some t) (hC : (c_X8_lengthOf Q) t) : Rn L xs (d + 4) 109 16 [some (.ref 30), some (.int x1)] [.int s1, .int s0] 94 (I, J, xrf) Q := by
  unfold f_X8_lengthOf_2 at h
  cases h
  exact Rn.ret 2 (o := ((some (.int ((s0 + s1)))), 94, (I, J, xrf))) (fun f => rfl) hC
theorem p_X8_lengthOf_1 {L : Nat} {xs : Nat → Int32} {d : Nat} {Q : xO → Prop} (x1 : Int32) (s0 : Int32) (v1 : Nat) (I : xI) (J : xJ) {t : Int32 × xI × xJ} (h : f_X8_lengthOf_1 x1 s0 v1 I J = some t) (hC : (c_X8_lengthOf Q) t) : Rn L xs (d + 4) 109 13 [some (.ref 30), some (.int x1)] [.ref v1, .int s0] 94 (I, J, xrf) Q := by
  unfold f_X8_lengthOf_1 at h
  obtain ⟨hc, h⟩ := xif h
  refine Rn.callB (c := Nat.blt v1 2999 && (Nat.beq 0 2 || Nat.beq (xcl 94 v1) 20)) (d1 := d + 3) (j1 := 300) (ls1 := [some (.ref v1)]) (rest := [.int s0]) (fun f => rfl) (zok_cl hc) ?_
  refine z_len (d := d + 0) hc ?_
  exact p_X8_lengthOf_2 x1 s0 ((Int32.ofNat (zlen v1))) I J h hC
theorem p_X8_lengthOf_0 {L : Nat} {xs : Nat → Int32} {d : Nat} {Q : xO → Prop} (x1 : Int32) (I : xI) (J : xJ) {t : Int32 × xI × xJ} (h : f_X8_lengthOf_0 x1 I J = some t) (hC : (c_X8_lengthOf Q) t) : Rn L xs (d + 4) 109 0 [some (.ref 30), some (.int x1)] [] 94 (I, J, xrf) Q := by
  unfold f_X8_lengthOf_0 at h
  obtain ⟨hc, h⟩ := xif h
  refine Rn.ok 6 (c := x1 < 0 ∨ 400 ≤ x1.toNatClampNeg) (p1 := 10) (l1 := [some (.ref 30), some (.int x1)]) (s1 := [.int ((I 27 x1.toNatClampNeg)), .int 1]) (n1 := 94) (M1 := (I, J, xrf)) (fun f => rfl) hc ?_
  obtain ⟨o, ho, h⟩ := Option.bind_eq_some_iff.mp h
  refine Rn.call (d1 := d + 3) (j1 := 135) (ls1 := [some (.int ((I 27 x1.toNatClampNeg)))]) (rest := [.int 1]) (fun f => rfl) ?_
  refine p_X10_shapeOf (d := d + 2) ((I 27 x1.toNatClampNeg)) I J (t := o) ho ?_
  exact p_X8_lengthOf_1 x1 1 o.1 o.2.1 o.2.2 h hC
theorem p_X8_lengthOf {L : Nat} {xs : Nat → Int32} {d : Nat} {Q : xO → Prop} (x1 : Int32) (I : xI) (J : xJ) {t : Int32 × xI × xJ} (h : f_X8_lengthOf x1 I J = some t) (hC : Q ((some (.int t.1)), 94, (t.2.1, t.2.2, xrf))) : Rn L xs (d + 4) 109 0 [some (.ref 30), some (.int x1)] [] 94 (I, J, xrf) Q := p_X8_lengthOf_0 x1 I J h hC
/-! X8_isToken -/
def c_X8_isToken (Q : xO → Prop) (t : Int32 × xI × xJ) : Prop := Q ((some (.int t.1)), 94, (t.2.1, t.2.2, xrf))
def f_X8_isToken_4 (x1 : Int32) (s0 : Int32) (I : xI) (J : xJ) : Option (Int32 × xI × xJ) := if s0 = 0 ∨ s0 = 1 then some (s0, I, J) else none
def f_X8_isToken_3 (x1 : Int32) (I : xI) (J : xJ) : Option (Int32 × xI × xJ) := f_X8_isToken_4 x1 0 I J
def f_X8_isToken_2 (x1 : Int32) (I : xI) (J : xJ) : Option (Int32 × xI × xJ) := f_X8_isToken_4 x1 1 I J
def f_X8_isToken_1 (x1 : Int32) (I : xI) (J : xJ) : Option (Int32 × xI × xJ) := if (I 26 4) ≤ x1 then f_X8_isToken_3 x1 I J else f_X8_isToken_2 x1 I J
def f_X8_isToken_0 (x1 : Int32) (I : xI) (J : xJ) : Option (Int32 × xI × xJ) := if x1 < 0 then f_X8_isToken_3 x1 I J else f_X8_isToken_1 x1 I J
def f_X8_isToken (x1 : Int32) (I : xI) (J : xJ) : Option (Int32 × xI × xJ) := f_X8_isToken_0 x1 I J
theorem p_X8_isToken_4 {L : Nat} {xs : Nat → Int32} {d : Nat} {Q : xO → Prop} (x1 : Int32) (s0 : Int32) (I : xI) (J : xJ) {t : Int32 × xI × xJ} (h : f_X8_isToken_4 x1 s0 I J = some t) (hC : (c_X8_isToken Q) t) : Rn L xs (d + 1) 112 20 [some (.ref 30), some (.int x1)] [.int s0] 94 (I, J, xrf) Q := by
  unfold f_X8_isToken_4 at h
  obtain ⟨hc, h⟩ := xifT h
  cases h
  exact Rn.retT 1 (c := s0 = 0 ∨ s0 = 1) (o := ((some (.int s0)), 94, (I, J, xrf))) (fun f => rfl) hc hC
theorem p_X8_isToken_3 {L : Nat} {xs : Nat → Int32} {d : Nat} {Q : xO → Prop} (x1 : Int32) (I : xI) (J : xJ) {t : Int32 × xI × xJ} (h : f_X8_isToken_3 x1 I J = some t) (hC : (c_X8_isToken Q) t) : Rn L xs (d + 1) 112 19 [some (.ref 30), some (.int x1)] [] 94 (I, J, xrf) Q := by
  unfold f_X8_isToken_3 at h
  refine Rn.go 1 (j' := 112) (pc' := 20) (ls' := [some (.ref 30), some (.int x1)]) (st' := [.int 0]) (n' := 94) (M' := (I, J, xrf)) (fun f => rfl) ?_
  exact p_X8_isToken_4 x1 0 I J h hC
theorem p_X8_isToken_2 {L : Nat} {xs : Nat → Int32} {d : Nat} {Q : xO → Prop} (x1 : Int32) (I : xI) (J : xJ) {t : Int32 × xI × xJ} (h : f_X8_isToken_2 x1 I J = some t) (hC : (c_X8_isToken Q) t) : Rn L xs (d + 1) 112 15 [some (.ref 30), some (.int x1)] [] 94 (I, J, xrf) Q := by
  unfold f_X8_isToken_2 at h
  refine Rn.go 2 (j' := 112) (pc' := 20) (ls' := [some (.ref 30), some (.int x1)]) (st' := [.int 1]) (n' := 94) (M' := (I, J, xrf)) (fun f => rfl) ?_
  exact p_X8_isToken_4 x1 1 I J h hC
theorem p_X8_isToken_1 {L : Nat} {xs : Nat → Int32} {d : Nat} {Q : xO → Prop} (x1 : Int32) (I : xI) (J : xJ) {t : Int32 × xI × xJ} (h : f_X8_isToken_1 x1 I J = some t) (hC : (c_X8_isToken Q) t) : Rn L xs (d + 1) 112 4 [some (.ref 30), some (.int x1)] [] 94 (I, J, xrf) Q := by
  unfold f_X8_isToken_1 at h
  refine Rn.fi 5 (c := (I 26 4) ≤ x1) (p1 := 19) (l1 := [some (.ref 30), some (.int x1)]) (s1 := []) (n1 := 94) (M1 := (I, J, xrf)) (p2 := 15) (l2 := [some (.ref 30), some (.int x1)]) (s2 := []) (n2 := 94) (M2 := (I, J, xrf)) (fun f => rfl) (fun hc => ?_) (fun hc => ?_)
  · rw [if_pos hc] at h
    exact p_X8_isToken_3 x1 I J h hC
  · rw [if_neg hc] at h
    exact p_X8_isToken_2 x1 I J h hC
theorem p_X8_isToken_0 {L : Nat} {xs : Nat → Int32} {d : Nat} {Q : xO → Prop} (x1 : Int32) (I : xI) (J : xJ) {t : Int32 × xI × xJ} (h : f_X8_isToken_0 x1 I J = some t) (hC : (c_X8_isToken Q) t) : Rn L xs (d + 1) 112 0 [some (.ref 30), some (.int x1)] [] 94 (I, J, xrf) Q := by
  unfold f_X8_isToken_0 at h
  refine Rn.fi 2 (c := x1 < 0) (p1 := 19) (l1 := [some (.ref 30), some (.int x1)]) (s1 := []) (n1 := 94) (M1 := (I, J, xrf)) (p2 := 4) (l2 := [some (.ref 30), some (.int x1)]) (s2 := []) (n2 := 94) (M2 := (I, J, xrf)) (fun f => rfl) (fun hc => ?_) (fun hc => ?_)
  · rw [if_pos hc] at h
    exact p_X8_isToken_3 x1 I J h hC
  · rw [if_neg hc] at h
    exact p_X8_isToken_1 x1 I J h hC
theorem p_X8_isToken {L : Nat} {xs : Nat → Int32} {d : Nat} {Q : xO → Prop} (x1 : Int32) (I : xI) (J : xJ) {t : Int32 × xI × xJ} (h : f_X8_isToken x1 I J = some t) (hC : Q ((some (.int t.1)), 94, (t.2.1, t.2.2, xrf))) : Rn L xs (d + 1) 112 0 [some (.ref 30), some (.int x1)] [] 94 (I, J, xrf) Q := p_X8_isToken_0 x1 I J h hC
/-! X9_numberAt -/
def c_X9_numberAt (Q : xO → Prop) (t : Int32 × xI × xJ) : Prop := Q ((some (.int t.1)), 94, (t.2.1, t.2.2, xrf))
def c_X9_numberAt_1 (L : Nat) (xs : Nat → Int32) (d : Nat) (Q : xO → Prop) (t : (Int32 × Int32 × Int32 × Int32 × xI × xJ) ⊕ (Int32 × xI × xJ)) : Prop := match t with
  | .inl s => Rn L xs (d + 2) 128 5 [some (.ref 24), some (.int s.1), some (.int s.2.1), some (.int s.2.2.1), some (.int s.2.2.2.1)] [] 94 (s.2.2.2.2.1, s.2.2.2.2.2, xrf) Q
  | .inr t => (c_X9_numberAt Q) t
def f_X9_numberAt_4 (x1 : Int32) (x2 : Int32) (x3 : Int32) (x4 : Int32) (I : xI) (J : xJ) : Option (Int32 × xI × xJ) := some (x3, I, J)
def f_X9_numberAt_3 (x1 : Int32) (x2 : Int32) (x3 : Int32) (x4 : Int32) (s0 : Int32) (s1 : Int32) (I : xI) (J : xJ) : Option ((Int32 × Int32 × Int32 × Int32 × xI × xJ) ⊕ (Int32 × xI × xJ)) := some (.inl (x1, x2, (((s0 + s1) - 48)), ((x4 + 1)), I, J))
def f_X9_numberAt_2 (x1 : Int32) (x2 : Int32) (x3 : Int32) (x4 : Int32) (I : xI) (J : xJ) : Option ((Int32 × Int32 × Int32 × Int32 × xI × xJ) ⊕ (Int32 × xI × xJ)) := (f_X9_byteAt ((x1 + x4)) I J).bind fun o => f_X9_numberAt_3 x1 x2 x3 x4 ((x3 * 10)) o.1 o.2.1 o.2.2
def b_X9_numberAt_1 (x1 : Int32) (x2 : Int32) (x3 : Int32) (x4 : Int32) (I : xI) (J : xJ) : Option ((Int32 × Int32 × Int32 × Int32 × xI × xJ) ⊕ (Int32 × xI × xJ)) := if x2 ≤ x4 then ((f_X9_numberAt_4 x1 x2 x3 x4 I J)).map .inr else f_X9_numberAt_2 x1 x2 x3 x4 I J
def f_X9_numberAt_1 (x1 : Int32) (x2 : Int32) (x3 : Int32) (x4 : Int32) (I : xI) (J : xJ) : Option (Int32 × xI × xJ) := xloop (fun s : Int32 × Int32 × Int32 × Int32 × xI × xJ => b_X9_numberAt_1 s.1 s.2.1 s.2.2.1 s.2.2.2.1 s.2.2.2.2.1 s.2.2.2.2.2) 5000 (x1, x2, x3, x4, I, J)
def f_X9_numberAt_0 (x1 : Int32) (x2 : Int32) (I : xI) (J : xJ) : Option (Int32 × xI × xJ) := f_X9_numberAt_1 x1 x2 0 0 I J
def f_X9_numberAt (x1 : Int32) (x2 : Int32) (I : xI) (J : xJ) : Option (Int32 × xI × xJ) := f_X9_numberAt_0 x1 x2 I J
theorem p_X9_numberAt_4 {L : Nat} {xs : Nat → Int32} {d : Nat} {Q : xO → Prop} (x1 : Int32) (x2 : Int32) (x3 : Int32) (x4 : Int32) (I : xI) (J : xJ) {t : Int32 × xI × xJ} (h : f_X9_numberAt_4 x1 x2 x3 x4 I J = some t) (hC : (c_X9_numberAt Q) t) : Rn L xs (d + 2) 128 34 [some (.ref 24), some (.int x1), some (.int x2), some (.int x3), some (.int x4)] [] 94 (I, J, xrf) Q := by
  unfold f_X9_numberAt_4 at h
  cases h
  exact Rn.ret 2 (o := ((some (.int x3)), 94, (I, J, xrf))) (fun f => rfl) hC
theorem p_X9_numberAt_3 {L : Nat} {xs : Nat → Int32} {d : Nat} {Q : xO → Prop} (x1 : Int32) (x2 : Int32) (x3 : Int32) (x4 : Int32) (s0 : Int32) (s1 : Int32) (I : xI) (J : xJ) {t : (Int32 × Int32 × Int32 × Int32 × xI × xJ) ⊕ (Int32 × xI × xJ)} (h : f_X9_numberAt_3 x1 x2 x3 x4 s0 s1 I J = some t) (hC : (c_X9_numberAt_1 L xs d Q) t) : Rn L xs (d + 2) 128 23 [some (.ref 24), some (.int x1), some (.int x2), some (.int x3), some (.int x4)] [.int s1, .int s0] 94 (I, J, xrf) Q := by
  unfold f_X9_numberAt_3 at h
  refine Rn.go 6 (j' := 128) (pc' := 5) (ls' := [some (.ref 24), some (.int x1), some (.int x2), some (.int (((s0 + s1) - 48))), some (.int ((x4 + 1)))]) (st' := []) (n' := 94) (M' := (I, J, xrf)) (fun f => rfl) ?_
  cases h; exact hC
theorem p_X9_numberAt_2 {L : Nat} {xs : Nat → Int32} {d : Nat} {Q : xO → Prop} (x1 : Int32) (x2 : Int32) (x3 : Int32) (x4 : Int32) (I : xI) (J : xJ) {t : (Int32 × Int32 × Int32 × Int32 × xI × xJ) ⊕ (Int32 × xI × xJ)} (h : f_X9_numberAt_2 x1 x2 x3 x4 I J = some t) (hC : (c_X9_numberAt_1 L xs d Q) t) : Rn L xs (d + 2) 128 11 [some (.ref 24), some (.int x1), some (.int x2), some (.int x3), some (.int x4)] [] 94 (I, J, xrf) Q := by
  unfold f_X9_numberAt_2 at h
  refine Rn.go 7 (j' := 128) (pc' := 20) (ls' := [some (.ref 24), some (.int x1), some (.int x2), some (.int x3), some (.int x4)]) (st' := [.int ((x1 + x4)), .ref 24, .int ((x3 * 10))]) (n' := 94) (M' := (I, J, xrf)) (fun f => rfl) ?_
  obtain ⟨o, ho, h⟩ := Option.bind_eq_some_iff.mp h
  refine Rn.call (d1 := d + 1) (j1 := 120) (ls1 := [some (.ref 24), some (.int ((x1 + x4)))]) (rest := [.int ((x3 * 10))]) (fun f => rfl) ?_
  refine p_X9_byteAt (d := d + 0) ((x1 + x4)) I J (t := o) ho ?_
  exact p_X9_numberAt_3 x1 x2 x3 x4 ((x3 * 10)) o.1 o.2.1 o.2.2 h hC
theorem q_X9_numberAt_1 {L : Nat} {xs : Nat → Int32} {d : Nat} {Q : xO → Prop} (x1 : Int32) (x2 : Int32) (x3 : Int32) (x4 : Int32) (I : xI) (J : xJ) {t : (Int32 × Int32 × Int32 × Int32 × xI × xJ) ⊕ (Int32 × xI × xJ)} (h : b_X9_numberAt_1 x1 x2 x3 x4 I J = some t) (hC : (c_X9_numberAt_1 L xs d Q) t) : Rn L xs (d + 2) 128 5 [some (.ref 24), some (.int x1), some (.int x2), some (.int x3), some (.int x4)] [] 94 (I, J, xrf) Q := by
  unfold b_X9_numberAt_1 at h
  refine Rn.fi 3 (c := x2 ≤ x4) (p1 := 34) (l1 := [some (.ref 24), some (.int x1), some (.int x2), some (.int x3), some (.int x4)]) (s1 := []) (n1 := 94) (M1 := (I, J, xrf)) (p2 := 11) (l2 := [some (.ref 24), some (.int x1), some (.int x2), some (.int x3), some (.int x4)]) (s2 := []) (n2 := 94) (M2 := (I, J, xrf)) (fun f => rfl) (fun hc => ?_) (fun hc => ?_)
  · rw [if_pos hc] at h
    obtain ⟨t0, h0, rfl⟩ := Option.map_eq_some_iff.mp h
    exact p_X9_numberAt_4 x1 x2 x3 x4 I J h0 hC
  · rw [if_neg hc] at h
    exact p_X9_numberAt_2 x1 x2 x3 x4 I J h hC
theorem p_X9_numberAt_1 {L : Nat} {xs : Nat → Int32} {d : Nat} {Q : xO → Prop} (x1 : Int32) (x2 : Int32) (x3 : Int32) (x4 : Int32) (I : xI) (J : xJ) {t : Int32 × xI × xJ} (h : f_X9_numberAt_1 x1 x2 x3 x4 I J = some t) (hC : (c_X9_numberAt Q) t) : Rn L xs (d + 2) 128 5 [some (.ref 24), some (.int x1), some (.int x2), some (.int x3), some (.int x4)] [] 94 (I, J, xrf) Q := by
  unfold f_X9_numberAt_1 at h
  exact xloop_some (P := fun s : Int32 × Int32 × Int32 × Int32 × xI × xJ => Rn L xs (d + 2) 128 5 [some (.ref 24), some (.int s.1), some (.int s.2.1), some (.int s.2.2.1), some (.int s.2.2.2.1)] [] 94 (s.2.2.2.2.1, s.2.2.2.2.2, xrf) Q) t (fun s ⟨s', hb, hp⟩ => q_X9_numberAt_1 s.1 s.2.1 s.2.2.1 s.2.2.2.1 s.2.2.2.2.1 s.2.2.2.2.2 hb hp) (fun s hb => q_X9_numberAt_1 s.1 s.2.1 s.2.2.1 s.2.2.2.1 s.2.2.2.2.1 s.2.2.2.2.2 hb hC) _ _ h
theorem p_X9_numberAt_0 {L : Nat} {xs : Nat → Int32} {d : Nat} {Q : xO → Prop} (x1 : Int32) (x2 : Int32) (I : xI) (J : xJ) {t : Int32 × xI × xJ} (h : f_X9_numberAt_0 x1 x2 I J = some t) (hC : (c_X9_numberAt Q) t) : Rn L xs (d + 2) 128 0 [some (.ref 24), some (.int x1), some (.int x2), none, none] [] 94 (I, J, xrf) Q := by
  unfold f_X9_numberAt_0 at h
  refine Rn.go 4 (j' := 128) (pc' := 5) (ls' := [some (.ref 24), some (.int x1), some (.int x2), some (.int 0), some (.int 0)]) (st' := []) (n' := 94) (M' := (I, J, xrf)) (fun f => rfl) ?_
  exact p_X9_numberAt_1 x1 x2 0 0 I J h hC
theorem p_X9_numberAt {L : Nat} {xs : Nat → Int32} {d : Nat} {Q : xO → Prop} (x1 : Int32) (x2 : Int32) (I : xI) (J : xJ) {t : Int32 × xI × xJ} (h : f_X9_numberAt x1 x2 I J = some t) (hC : Q ((some (.int t.1)), 94, (t.2.1, t.2.2, xrf))) : Rn L xs (d + 2) 128 0 [some (.ref 24), some (.int x1), some (.int x2), none, none] [] 94 (I, J, xrf) Q := p_X9_numberAt_0 x1 x2 I J h hC
/-! X8_valueOf -/
def c_X8_valueOf (Q : xO → Prop) (t : Int32 × xI × xJ) : Prop := Q ((some (.int t.1)), 94, (t.2.1, t.2.2, xrf))
def f_X8_valueOf_5 (x1 : Int32) (s0 : Int32) (I : xI) (J : xJ) : Option (Int32 × xI × xJ) := some (s0, I, J)
def f_X8_valueOf_4 (x1 : Int32) (I : xI) (J : xJ) : Option (Int32 × xI × xJ) := f_X8_valueOf_5 x1 ((-1)) I J
def f_X8_valueOf_3 (x1 : Int32) (s0 : Int32) (I : xI) (J : xJ) : Option (Int32 × xI × xJ) := f_X8_valueOf_5 x1 s0 I J
def f_X8_valueOf_2 (x1 : Int32) (I : xI) (J : xJ) : Option (Int32 × xI × xJ) := if x1 < 0 ∨ 400 ≤ x1.toNatClampNeg then none else if x1 < 0 ∨ 400 ≤ x1.toNatClampNeg then none else (f_X9_numberAt ((I 28 x1.toNatClampNeg)) ((I 29 x1.toNatClampNeg)) I J).bind fun o => f_X8_valueOf_3 x1 o.1 o.2.1 o.2.2
def f_X8_valueOf_1 (x1 : Int32) (s0 : Int32) (I : xI) (J : xJ) : Option (Int32 × xI × xJ) := if s0 = 0 then f_X8_valueOf_4 x1 I J else f_X8_valueOf_2 x1 I J
def f_X8_valueOf_0 (x1 : Int32) (I : xI) (J : xJ) : Option (Int32 × xI × xJ) := (f_X8_isToken x1 I J).bind fun o => f_X8_valueOf_1 x1 o.1 o.2.1 o.2.2
def f_X8_valueOf (x1 : Int32) (I : xI) (J : xJ) : Option (Int32 × xI × xJ) := f_X8_valueOf_0 x1 I J
theorem p_X8_valueOf_5 {L : Nat} {xs : Nat → Int32} {d : Nat} {Q : xO → Prop} (x1 : Int32) (s0 : Int32) (I : xI) (J : xJ) {t : Int32 × xI × xJ} (h : f_X8_valueOf_5 x1 s0 I J = some t) (hC : (c_X8_valueOf Q) t) : Rn L xs (d + 3) 114 37 [some (.ref 30), some (.int x1)] [.int s0] 94 (I, J, xrf) Q := by
  unfold f_X8_valueOf_5 at h
  cases h
  exact Rn.ret 1 (o := ((some (.int s0)), 94, (I, J, xrf))) (fun f => rfl) hC
theorem p_X8_valueOf_4 {L : Nat} {xs : Nat → Int32} {d : Nat} {Q : xO → Prop} (x1 : Int32) (I : xI) (J : xJ) {t : Int32 × xI × xJ} (h : f_X8_valueOf_4 x1 I J = some t) (hC : (c_X8_valueOf Q) t) : Rn L xs (d + 3) 114 36 [some (.ref 30), some (.int x1)] [] 94 (I, J, xrf) Q := by
  unfold f_X8_valueOf_4 at h
  refine Rn.go 1 (j' := 114) (pc' := 37) (ls' := [some (.ref 30), some (.int x1)]) (st' := [.int ((-1))]) (n' := 94) (M' := (I, J, xrf)) (fun f => rfl) ?_
  exact p_X8_valueOf_5 x1 ((-1)) I J h hC
theorem p_X8_valueOf_3 {L : Nat} {xs : Nat → Int32} {d : Nat} {Q : xO → Prop} (x1 : Int32) (s0 : Int32) (I : xI) (J : xJ) {t : Int32 × xI × xJ} (h : f_X8_valueOf_3 x1 s0 I J = some t) (hC : (c_X8_valueOf Q) t) : Rn L xs (d + 3) 114 33 [some (.ref 30), some (.int x1)] [.int s0] 94 (I, J, xrf) Q := by
  unfold f_X8_valueOf_3 at h
  refine Rn.go 1 (j' := 114) (pc' := 37) (ls' := [some (.ref 30), some (.int x1)]) (st' := [.int s0]) (n' := 94) (M' := (I, J, xrf)) (fun f => rfl) ?_
  exact p_X8_valueOf_5 x1 s0 I J h hC
theorem p_X8_valueOf_2 {L : Nat} {xs : Nat → Int32} {d : Nat} {Q : xO → Prop} (x1 : Int32) (I : xI) (J : xJ) {t : Int32 × xI × xJ} (h : f_X8_valueOf_2 x1 I J = some t) (hC : (c_X8_valueOf Q) t) : Rn L xs (d + 3) 114 8 [some (.ref 30), some (.int x1)] [] 94 (I, J, xrf) Q := by
  unfold f_X8_valueOf_2 at h
  obtain ⟨hc, h⟩ := xif h
  refine Rn.ok 7 (c := x1 < 0 ∨ 400 ≤ x1.toNatClampNeg) (p1 := 21) (l1 := [some (.ref 30), some (.int x1)]) (s1 := [.int ((I 28 x1.toNatClampNeg)), .ref 24]) (n1 := 94) (M1 := (I, J, xrf)) (fun f => rfl) hc ?_
  obtain ⟨hc, h⟩ := xif h
  refine Rn.ok 5 (c := x1 < 0 ∨ 400 ≤ x1.toNatClampNeg) (p1 := 30) (l1 := [some (.ref 30), some (.int x1)]) (s1 := [.int ((I 29 x1.toNatClampNeg)), .int ((I 28 x1.toNatClampNeg)), .ref 24]) (n1 := 94) (M1 := (I, J, xrf)) (fun f => rfl) hc ?_
  obtain ⟨o, ho, h⟩ := Option.bind_eq_some_iff.mp h
  refine Rn.call (d1 := d + 2) (j1 := 128) (ls1 := [some (.ref 24), some (.int ((I 28 x1.toNatClampNeg))), some (.int ((I 29 x1.toNatClampNeg))), none, none]) (rest := []) (fun f => rfl) ?_
  refine p_X9_numberAt (d := d + 0) ((I 28 x1.toNatClampNeg)) ((I 29 x1.toNatClampNeg)) I J (t := o) ho ?_
  exact p_X8_valueOf_3 x1 o.1 o.2.1 o.2.2 h hC
theorem p_X8_valueOf_1 {L : Nat} {xs : Nat → Int32} {d : Nat} {Q : xO → Prop} (x1 : Int32) (s0 : Int32) (I : xI) (J : xJ) {t : Int32 × xI × xJ} (h : f_X8_valueOf_1 x1 s0 I J = some t) (hC : (c_X8_valueOf Q) t) : Rn L xs (d + 3) 114 5 [some (.ref 30), some (.int x1)] [.int s0] 94 (I, J, xrf) Q := by
  unfold f_X8_valueOf_1 at h
  refine Rn.fi 1 (c := s0 = 0) (p1 := 36) (l1 := [some (.ref 30), some (.int x1)]) (s1 := []) (n1 := 94) (M1 := (I, J, xrf)) (p2 := 8) (l2 := [some (.ref 30), some (.int x1)]) (s2 := []) (n2 := 94) (M2 := (I, J, xrf)) (fun f => rfl) (fun hc => ?_) (fun hc => ?_)
  · rw [if_pos hc] at h
    exact p_X8_valueOf_4 x1 I J h hC
  · rw [if_neg hc] at h
    exact p_X8_valueOf_2 x1 I J h hC
theorem p_X8_valueOf_0 {L : Nat} {xs : Nat → Int32} {d : Nat} {Q : xO → Prop} (x1 : Int32) (I : xI) (J : xJ) {t : Int32 × xI × xJ} (h : f_X8_valueOf_0 x1 I J = some t) (hC : (c_X8_valueOf Q) t) : Rn L xs (d + 3) 114 0 [some (.ref 30), some (.int x1)] [] 94 (I, J, xrf) Q := by
  unfold f_X8_valueOf_0 at h
  refine Rn.go 2 (j' := 114) (pc' := 2) (ls' := [some (.ref 30), some (.int x1)]) (st' := [.int x1, .ref 30]) (n' := 94) (M' := (I, J, xrf)) (fun f => rfl) ?_
  obtain ⟨o, ho, h⟩ := Option.bind_eq_some_iff.mp h
  refine Rn.call (d1 := d + 2) (j1 := 112) (ls1 := [some (.ref 30), some (.int x1)]) (rest := []) (fun f => rfl) ?_
  refine p_X8_isToken (d := d + 1) x1 I J (t := o) ho ?_
  exact p_X8_valueOf_1 x1 o.1 o.2.1 o.2.2 h hC
theorem p_X8_valueOf {L : Nat} {xs : Nat → Int32} {d : Nat} {Q : xO → Prop} (x1 : Int32) (I : xI) (J : xJ) {t : Int32 × xI × xJ} (h : f_X8_valueOf x1 I J = some t) (hC : Q ((some (.int t.1)), 94, (t.2.1, t.2.2, xrf))) : Rn L xs (d + 3) 114 0 [some (.ref 30), some (.int x1)] [] 94 (I, J, xrf) Q := p_X8_valueOf_0 x1 I J h hC
/-! X8_isInputs -/
def c_X8_isInputs (Q : xO → Prop) (t : Int32 × xI × xJ) : Prop := Q ((some (.int t.1)), 94, (t.2.1, t.2.2, xrf))
def f_X8_isInputs_4 (x0 : Int32) (s0 : Int32) (I : xI) (J : xJ) : Option (Int32 × xI × xJ) := if s0 = 0 ∨ s0 = 1 then some (s0, I, J) else none
def f_X8_isInputs_3 (x0 : Int32) (I : xI) (J : xJ) : Option (Int32 × xI × xJ) := f_X8_isInputs_4 x0 0 I J
def f_X8_isInputs_2 (x0 : Int32) (I : xI) (J : xJ) : Option (Int32 × xI × xJ) := f_X8_isInputs_4 x0 1 I J
def f_X8_isInputs_1 (x0 : Int32) (I : xI) (J : xJ) : Option (Int32 × xI × xJ) := if 4 < x0 then f_X8_isInputs_3 x0 I J else f_X8_isInputs_2 x0 I J
def f_X8_isInputs_0 (x0 : Int32) (I : xI) (J : xJ) : Option (Int32 × xI × xJ) := if x0 < 1 then f_X8_isInputs_3 x0 I J else f_X8_isInputs_1 x0 I J
def f_X8_isInputs (x0 : Int32) (I : xI) (J : xJ) : Option (Int32 × xI × xJ) := f_X8_isInputs_0 x0 I J
theorem p_X8_isInputs_4 {L : Nat} {xs : Nat → Int32} {d : Nat} {Q : xO → Prop} (x0 : Int32) (s0 : Int32) (I : xI) (J : xJ) {t : Int32 × xI × xJ} (h : f_X8_isInputs_4 x0 s0 I J = some t) (hC : (c_X8_isInputs Q) t) : Rn L xs (d + 1) 108 15 [some (.int x0)] [.int s0] 94 (I, J, xrf) Q := by
  unfold f_X8_isInputs_4 at h
  obtain ⟨hc, h⟩ := xifT h
  cases h
  exact Rn.retT 1 (c := s0 = 0 ∨ s0 = 1) (o := ((some (.int s0)), 94, (I, J, xrf))) (fun f => rfl) hc hC
theorem p_X8_isInputs_3 {L : Nat} {xs : Nat → Int32} {d : Nat} {Q : xO → Prop} (x0 : Int32) (I : xI) (J : xJ) {t : Int32 × xI × xJ} (h : f_X8_isInputs_3 x0 I J = some t) (hC : (c_X8_isInputs Q) t) : Rn L xs (d + 1) 108 14 [some (.int x0)] [] 94 (I, J, xrf) Q := by
  unfold f_X8_isInputs_3 at h
  refine Rn.go 1 (j' := 108) (pc' := 15) (ls' := [some (.int x0)]) (st' := [.int 0]) (n' := 94) (M' := (I, J, xrf)) (fun f => rfl) ?_
  exact p_X8_isInputs_4 x0 0 I J h hC
theorem p_X8_isInputs_2 {L : Nat} {xs : Nat → Int32} {d : Nat} {Q : xO → Prop} (x0 : Int32) (I : xI) (J : xJ) {t : Int32 × xI × xJ} (h : f_X8_isInputs_2 x0 I J = some t) (hC : (c_X8_isInputs Q) t) : Rn L xs (d + 1) 108 10 [some (.int x0)] [] 94 (I, J, xrf) Q := by
  unfold f_X8_isInputs_2 at h
  refine Rn.go 2 (j' := 108) (pc' := 15) (ls' := [some (.int x0)]) (st' := [.int 1]) (n' := 94) (M' := (I, J, xrf)) (fun f => rfl) ?_
  exact p_X8_isInputs_4 x0 1 I J h hC
theorem p_X8_isInputs_1 {L : Nat} {xs : Nat → Int32} {d : Nat} {Q : xO → Prop} (x0 : Int32) (I : xI) (J : xJ) {t : Int32 × xI × xJ} (h : f_X8_isInputs_1 x0 I J = some t) (hC : (c_X8_isInputs Q) t) : Rn L xs (d + 1) 108 5 [some (.int x0)] [] 94 (I, J, xrf) Q := by
  unfold f_X8_isInputs_1 at h
  refine Rn.fi 3 (c := 4 < x0) (p1 := 14) (l1 := [some (.int x0)]) (s1 := []) (n1 := 94) (M1 := (I, J, xrf)) (p2 := 10) (l2 := [some (.int x0)]) (s2 := []) (n2 := 94) (M2 := (I, J, xrf)) (fun f => rfl) (fun hc => ?_) (fun hc => ?_)
  · rw [if_pos hc] at h
    exact p_X8_isInputs_3 x0 I J h hC
  · rw [if_neg hc] at h
    exact p_X8_isInputs_2 x0 I J h hC
theorem p_X8_isInputs_0 {L : Nat} {xs : Nat → Int32} {d : Nat} {Q : xO → Prop} (x0 : Int32) (I : xI) (J : xJ) {t : Int32 × xI × xJ} (h : f_X8_isInputs_0 x0 I J = some t) (hC : (c_X8_isInputs Q) t) : Rn L xs (d + 1) 108 0 [some (.int x0)] [] 94 (I, J, xrf) Q := by
  unfold f_X8_isInputs_0 at h
  refine Rn.fi 3 (c := x0 < 1) (p1 := 14) (l1 := [some (.int x0)]) (s1 := []) (n1 := 94) (M1 := (I, J, xrf)) (p2 := 5) (l2 := [some (.int x0)]) (s2 := []) (n2 := 94) (M2 := (I, J, xrf)) (fun f => rfl) (fun hc => ?_) (fun hc => ?_)
  · rw [if_pos hc] at h
    exact p_X8_isInputs_3 x0 I J h hC
  · rw [if_neg hc] at h
    exact p_X8_isInputs_1 x0 I J h hC
theorem p_X8_isInputs {L : Nat} {xs : Nat → Int32} {d : Nat} {Q : xO → Prop} (x0 : Int32) (I : xI) (J : xJ) {t : Int32 × xI × xJ} (h : f_X8_isInputs x0 I J = some t) (hC : Q ((some (.int t.1)), 94, (t.2.1, t.2.2, xrf))) : Rn L xs (d + 1) 108 0 [some (.int x0)] [] 94 (I, J, xrf) Q := p_X8_isInputs_0 x0 I J h hC
/-! X8_gather -/
def c_X8_gather (Q : xO → Prop) (t : Unit × xI × xJ) : Prop := Q (none, 94, (t.2.1, t.2.2, xrf))
def c_X8_gather_1 (L : Nat) (xs : Nat → Int32) (d : Nat) (Q : xO → Prop) (t : (Int32 × (Option Value) × xI × xJ) ⊕ (Unit × xI × xJ)) : Prop := match t with
  | .inl s => Rn L xs (d + 5) 107 12 [some (.ref 30), some (.int s.1), s.2.1] [] 94 (s.2.2.1, s.2.2.2, xrf) Q
  | .inr t => (c_X8_gather Q) t
def f_X8_gather_13 (x1 : Int32) (z2 : Option Value) (I : xI) (J : xJ) : Option (Unit × xI × xJ) := some ((), I, J)
def f_X8_gather_12 (x1 : Int32) (x2 : Int32) (s0 : Int32) (s1 : Int32) (I : xI) (J : xJ) : Option ((Int32 × (Option Value) × xI × xJ) ⊕ (Unit × xI × xJ)) := some (.inl (((s0 + s1)), (some (.int x2)), I, J))
def f_X8_gather_11 (x1 : Int32) (x2 : Int32) (I : xI) (J : xJ) : Option ((Int32 × (Option Value) × xI × xJ) ⊕ (Unit × xI × xJ)) := (f_X8_lengthOf x1 I J).bind fun o => f_X8_gather_12 x1 x2 x1 o.1 o.2.1 o.2.2
def f_X8_gather_10 (x1 : Int32) (x2 : Int32) (s1 : Int32) (I : xI) (J : xJ) : Option ((Int32 × (Option Value) × xI × xJ) ⊕ (Unit × xI × xJ)) := f_X8_gather_11 x1 x2 ((xup I 30 4 s1)) J
def f_X8_gather_9 (x1 : Int32) (x2 : Int32) (I : xI) (J : xJ) : Option ((Int32 × (Option Value) × xI × xJ) ⊕ (Unit × xI × xJ)) := (f_X8_valueOf ((x1 + 1)) I J).bind fun o => f_X8_gather_10 x1 x2 o.1 o.2.1 o.2.2
def f_X8_gather_8 (x1 : Int32) (x2 : Int32) (s0 : Int32) (I : xI) (J : xJ) : Option ((Int32 × (Option Value) × xI × xJ) ⊕ (Unit × xI × xJ)) := if s0 = 0 then f_X8_gather_11 x1 x2 I J else f_X8_gather_9 x1 x2 I J
def f_X8_gather_7 (x1 : Int32) (x2 : Int32) (s0 : Int32) (I : xI) (J : xJ) : Option ((Int32 × (Option Value) × xI × xJ) ⊕ (Unit × xI × xJ)) := (f_X8_isInputs s0 I J).bind fun o => f_X8_gather_8 x1 x2 o.1 o.2.1 o.2.2
def f_X8_gather_6 (x1 : Int32) (x2 : Int32) (I : xI) (J : xJ) : Option ((Int32 × (Option Value) × xI × xJ) ⊕ (Unit × xI × xJ)) := (f_X8_valueOf ((x1 + 1)) I J).bind fun o => f_X8_gather_7 x1 x2 o.1 o.2.1 o.2.2
def f_X8_gather_5 (x1 : Int32) (x2 : Int32) (I : xI) (J : xJ) : Option ((Int32 × (Option Value) × xI × xJ) ⊕ (Unit × xI × xJ)) := if x2 = 5 then f_X8_gather_6 x1 x2 I J else f_X8_gather_11 x1 x2 I J
def f_X8_gather_4 (x1 : Int32) (x2 : Int32) (I : xI) (J : xJ) : Option ((Int32 × (Option Value) × xI × xJ) ⊕ (Unit × xI × xJ)) := if (I 30 3) < 0 ∨ 6 ≤ ((I 30 3)).toNatClampNeg then none else f_X8_gather_11 x1 x2 ((xup ((xup I 31 ((I 30 3)).toNatClampNeg ((x1 + 1)))) 30 3 (((((xup I 31 ((I 30 3)).toNatClampNeg ((x1 + 1)))) 30 3) + 1)))) J
def f_X8_gather_3 (x1 : Int32) (x2 : Int32) (I : xI) (J : xJ) : Option ((Int32 × (Option Value) × xI × xJ) ⊕ (Unit × xI × xJ)) := if 6 ≤ (I 30 3) then f_X8_gather_5 x1 x2 I J else f_X8_gather_4 x1 x2 I J
def f_X8_gather_2 (x1 : Int32) (z2 : Option Value) (I : xI) (J : xJ) : Option ((Int32 × (Option Value) × xI × xJ) ⊕ (Unit × xI × xJ)) := if x1 < 0 ∨ 400 ≤ x1.toNatClampNeg then none else if (I 27 x1.toNatClampNeg) = 4 then f_X8_gather_3 x1 ((I 27 x1.toNatClampNeg)) I J else f_X8_gather_5 x1 ((I 27 x1.toNatClampNeg)) I J
def b_X8_gather_1 (x1 : Int32) (z2 : Option Value) (I : xI) (J : xJ) : Option ((Int32 × (Option Value) × xI × xJ) ⊕ (Unit × xI × xJ)) := if (I 26 4) ≤ x1 then ((f_X8_gather_13 x1 z2 I J)).map .inr else f_X8_gather_2 x1 z2 I J
def f_X8_gather_1 (x1 : Int32) (z2 : Option Value) (I : xI) (J : xJ) : Option (Unit × xI × xJ) := xloop (fun s : Int32 × (Option Value) × xI × xJ => b_X8_gather_1 s.1 s.2.1 s.2.2.1 s.2.2.2) 5000 (x1, z2, I, J)
def f_X8_gather_0 (I : xI) (J : xJ) : Option (Unit × xI × xJ) := f_X8_gather_1 0 none ((xup ((xup I 30 3 0)) 30 4 2)) J
def f_X8_gather (I : xI) (J : xJ) : Option (Unit × xI × xJ) := f_X8_gather_0 I J
theorem p_X8_gather_13 {L : Nat} {xs : Nat → Int32} {d : Nat} {Q : xO → Prop} (x1 : Int32) (z2 : Option Value) (I : xI) (J : xJ) {t : Unit × xI × xJ} (h : f_X8_gather_13 x1 z2 I J = some t) (hC : (c_X8_gather Q) t) : Rn L xs (d + 5) 107 112 [some (.ref 30), some (.int x1), z2] [] 94 (I, J, xrf) Q := by
  unfold f_X8_gather_13 at h
  cases h
  exact Rn.ret 1 (o := (none, 94, (I, J, xrf))) (fun f => rfl) hC
theorem p_X8_gather_12 {L : Nat} {xs : Nat → Int32} {d : Nat} {Q : xO → Prop} (x1 : Int32) (x2 : Int32) (s0 : Int32) (s1 : Int32) (I : xI) (J : xJ) {t : (Int32 × (Option Value) × xI × xJ) ⊕ (Unit × xI × xJ)} (h : f_X8_gather_12 x1 x2 s0 s1 I J = some t) (hC : (c_X8_gather_1 L xs d Q) t) : Rn L xs (d + 5) 107 107 [some (.ref 30), some (.int x1), some (.int x2)] [.int s1, .int s0] 94 (I, J, xrf) Q := by
  unfold f_X8_gather_12 at h
  refine Rn.go 3 (j' := 107) (pc' := 12) (ls' := [some (.ref 30), some (.int ((s0 + s1))), some (.int x2)]) (st' := []) (n' := 94) (M' := (I, J, xrf)) (fun f => rfl) ?_
  cases h; exact hC
theorem p_X8_gather_11 {L : Nat} {xs : Nat → Int32} {d : Nat} {Q : xO → Prop} (x1 : Int32) (x2 : Int32) (I : xI) (J : xJ) {t : (Int32 × (Option Value) × xI × xJ) ⊕ (Unit × xI × xJ)} (h : f_X8_gather_11 x1 x2 I J = some t) (hC : (c_X8_gather_1 L xs d Q) t) : Rn L xs (d + 5) 107 101 [some (.ref 30), some (.int x1), some (.int x2)] [] 94 (I, J, xrf) Q := by
  unfold f_X8_gather_11 at h
  refine Rn.go 3 (j' := 107) (pc' := 104) (ls' := [some (.ref 30), some (.int x1), some (.int x2)]) (st' := [.int x1, .ref 30, .int x1]) (n' := 94) (M' := (I, J, xrf)) (fun f => rfl) ?_
  obtain ⟨o, ho, h⟩ := Option.bind_eq_some_iff.mp h
  refine Rn.call (d1 := d + 4) (j1 := 109) (ls1 := [some (.ref 30), some (.int x1)]) (rest := [.int x1]) (fun f => rfl) ?_
  refine p_X8_lengthOf (d := d + 0) x1 I J (t := o) ho ?_
  exact p_X8_gather_12 x1 x2 x1 o.1 o.2.1 o.2.2 h hC
theorem p_X8_gather_10 {L : Nat} {xs : Nat → Int32} {d : Nat} {Q : xO → Prop} (x1 : Int32) (x2 : Int32) (s1 : Int32) (I : xI) (J : xJ) {t : (Int32 × (Option Value) × xI × xJ) ⊕ (Unit × xI × xJ)} (h : f_X8_gather_10 x1 x2 s1 I J = some t) (hC : (c_X8_gather_1 L xs d Q) t) : Rn L xs (d + 5) 107 98 [some (.ref 30), some (.int x1), some (.int x2)] [.int s1, .ref 30] 94 (I, J, xrf) Q := by
  unfold f_X8_gather_10 at h
  refine Rn.go 1 (j' := 107) (pc' := 101) (ls' := [some (.ref 30), some (.int x1), some (.int x2)]) (st' := []) (n' := 94) (M' := ((xup I 30 4 s1), J, xrf)) (fun f => rfl) ?_
  exact p_X8_gather_11 x1 x2 ((xup I 30 4 s1)) J h hC
theorem p_X8_gather_9 {L : Nat} {xs : Nat → Int32} {d : Nat} {Q : xO → Prop} (x1 : Int32) (x2 : Int32) (I : xI) (J : xJ) {t : (Int32 × (Option Value) × xI × xJ) ⊕ (Unit × xI × xJ)} (h : f_X8_gather_9 x1 x2 I J = some t) (hC : (c_X8_gather_1 L xs d Q) t) : Rn L xs (d + 5) 107 90 [some (.ref 30), some (.int x1), some (.int x2)] [] 94 (I, J, xrf) Q := by
  unfold f_X8_gather_9 at h
  refine Rn.go 5 (j' := 107) (pc' := 95) (ls' := [some (.ref 30), some (.int x1), some (.int x2)]) (st' := [.int ((x1 + 1)), .ref 30, .ref 30]) (n' := 94) (M' := (I, J, xrf)) (fun f => rfl) ?_
  obtain ⟨o, ho, h⟩ := Option.bind_eq_some_iff.mp h
  refine Rn.call (d1 := d + 4) (j1 := 114) (ls1 := [some (.ref 30), some (.int ((x1 + 1)))]) (rest := [.ref 30]) (fun f => rfl) ?_
  refine p_X8_valueOf (d := d + 1) ((x1 + 1)) I J (t := o) ho ?_
  exact p_X8_gather_10 x1 x2 o.1 o.2.1 o.2.2 h hC
theorem p_X8_gather_8 {L : Nat} {xs : Nat → Int32} {d : Nat} {Q : xO → Prop} (x1 : Int32) (x2 : Int32) (s0 : Int32) (I : xI) (J : xJ) {t : (Int32 × (Option Value) × xI × xJ) ⊕ (Unit × xI × xJ)} (h : f_X8_gather_8 x1 x2 s0 I J = some t) (hC : (c_X8_gather_1 L xs d Q) t) : Rn L xs (d + 5) 107 87 [some (.ref 30), some (.int x1), some (.int x2)] [.int s0] 94 (I, J, xrf) Q := by
  unfold f_X8_gather_8 at h
  refine Rn.fi 1 (c := s0 = 0) (p1 := 101) (l1 := [some (.ref 30), some (.int x1), some (.int x2)]) (s1 := []) (n1 := 94) (M1 := (I, J, xrf)) (p2 := 90) (l2 := [some (.ref 30), some (.int x1), some (.int x2)]) (s2 := []) (n2 := 94) (M2 := (I, J, xrf)) (fun f => rfl) (fun hc => ?_) (fun hc => ?_)
  · rw [if_pos hc] at h
    exact p_X8_gather_11 x1 x2 I J h hC
  · rw [if_neg hc] at h
    exact p_X8_gather_9 x1 x2 I J h hC
theorem p_X8_gather_7 {L : Nat} {xs : Nat → Int32} {d : Nat} {Q : xO → Prop} (x1 : Int32) (x2 : Int32) (s0 : Int32) (I : xI) (J : xJ) {t : (Int32 × (Option Value) × xI × xJ) ⊕ (Unit × xI × xJ)} (h : f_X8_gather_7 x1 x2 s0 I J = some t) (hC : (c_X8_gather_1 L xs d Q) t) : Rn L xs (d + 5) 107 84 [some (.ref 30), some (.int x1), some (.int x2)] [.int s0] 94 (I, J, xrf) Q := by
  unfold f_X8_gather_7 at h
  obtain ⟨o, ho, h⟩ := Option.bind_eq_some_iff.mp h
  refine Rn.call (d1 := d + 4) (j1 := 108) (ls1 := [some (.int s0)]) (rest := []) (fun f => rfl) ?_
  refine p_X8_isInputs (d := d + 3) s0 I J (t := o) ho ?_
  exact p_X8_gather_8 x1 x2 o.1 o.2.1 o.2.2 h hC
theorem p_X8_gather_6 {L : Nat} {xs : Nat → Int32} {d : Nat} {Q : xO → Prop} (x1 : Int32) (x2 : Int32) (I : xI) (J : xJ) {t : (Int32 × (Option Value) × xI × xJ) ⊕ (Unit × xI × xJ)} (h : f_X8_gather_6 x1 x2 I J = some t) (hC : (c_X8_gather_1 L xs d Q) t) : Rn L xs (d + 5) 107 77 [some (.ref 30), some (.int x1), some (.int x2)] [] 94 (I, J, xrf) Q := by
  unfold f_X8_gather_6 at h
  refine Rn.go 4 (j' := 107) (pc' := 81) (ls' := [some (.ref 30), some (.int x1), some (.int x2)]) (st' := [.int ((x1 + 1)), .ref 30]) (n' := 94) (M' := (I, J, xrf)) (fun f => rfl) ?_
  obtain ⟨o, ho, h⟩ := Option.bind_eq_some_iff.mp h
  refine Rn.call (d1 := d + 4) (j1 := 114) (ls1 := [some (.ref 30), some (.int ((x1 + 1)))]) (rest := []) (fun f => rfl) ?_
  refine p_X8_valueOf (d := d + 1) ((x1 + 1)) I J (t := o) ho ?_
  exact p_X8_gather_7 x1 x2 o.1 o.2.1 o.2.2 h hC
theorem p_X8_gather_5 {L : Nat} {xs : Nat → Int32} {d : Nat} {Q : xO → Prop} (x1 : Int32) (x2 : Int32) (I : xI) (J : xJ) {t : (Int32 × (Option Value) × xI × xJ) ⊕ (Unit × xI × xJ)} (h : f_X8_gather_5 x1 x2 I J = some t) (hC : (c_X8_gather_1 L xs d Q) t) : Rn L xs (d + 5) 107 72 [some (.ref 30), some (.int x1), some (.int x2)] [] 94 (I, J, xrf) Q := by
  unfold f_X8_gather_5 at h
  refine Rn.fi 3 (c := x2 = 5) (p1 := 77) (l1 := [some (.ref 30), some (.int x1), some (.int x2)]) (s1 := []) (n1 := 94) (M1 := (I, J, xrf)) (p2 := 101) (l2 := [some (.ref 30), some (.int x1), some (.int x2)]) (s2 := []) (n2 := 94) (M2 := (I, J, xrf)) (fun f => rfl) (fun hc => ?_) (fun hc => ?_)
  · rw [if_pos hc] at h
    exact p_X8_gather_6 x1 x2 I J h hC
  · rw [if_neg hc] at h
    exact p_X8_gather_11 x1 x2 I J h hC
theorem p_X8_gather_4 {L : Nat} {xs : Nat → Int32} {d : Nat} {Q : xO → Prop} (x1 : Int32) (x2 : Int32) (I : xI) (J : xJ) {t : (Int32 × (Option Value) × xI × xJ) ⊕ (Unit × xI × xJ)} (h : f_X8_gather_4 x1 x2 I J = some t) (hC : (c_X8_gather_1 L xs d Q) t) : Rn L xs (d + 5) 107 47 [some (.ref 30), some (.int x1), some (.int x2)] [] 94 (I, J, xrf) Q := by
  unfold f_X8_gather_4 at h
  obtain ⟨hc, h⟩ := xif h
  refine Rn.ok 8 (c := (I 30 3) < 0 ∨ 6 ≤ ((I 30 3)).toNatClampNeg) (p1 := 59) (l1 := [some (.ref 30), some (.int x1), some (.int x2)]) (s1 := []) (n1 := 94) (M1 := ((xup I 31 ((I 30 3)).toNatClampNeg ((x1 + 1))), J, xrf)) (fun f => rfl) hc ?_
  refine Rn.go 7 (j' := 107) (pc' := 101) (ls' := [some (.ref 30), some (.int x1), some (.int x2)]) (st' := []) (n' := 94) (M' := ((xup ((xup I 31 ((I 30 3)).toNatClampNeg ((x1 + 1)))) 30 3 (((((xup I 31 ((I 30 3)).toNatClampNeg ((x1 + 1)))) 30 3) + 1))), J, xrf)) (fun f => rfl) ?_
  exact p_X8_gather_11 x1 x2 ((xup ((xup I 31 ((I 30 3)).toNatClampNeg ((x1 + 1)))) 30 3 (((((xup I 31 ((I 30 3)).toNatClampNeg ((x1 + 1)))) 30 3) + 1)))) J h hC
theorem p_X8_gather_3 {L : Nat} {xs : Nat → Int32} {d : Nat} {Q : xO → Prop} (x1 : Int32) (x2 : Int32) (I : xI) (J : xJ) {t : (Int32 × (Option Value) × xI × xJ) ⊕ (Unit × xI × xJ)} (h : f_X8_gather_3 x1 x2 I J = some t) (hC : (c_X8_gather_1 L xs d Q) t) : Rn L xs (d + 5) 107 38 [some (.ref 30), some (.int x1), some (.int x2)] [] 94 (I, J, xrf) Q := by
  unfold f_X8_gather_3 at h
  refine Rn.fi 4 (c := 6 ≤ (I 30 3)) (p1 := 72) (l1 := [some (.ref 30), some (.int x1), some (.int x2)]) (s1 := []) (n1 := 94) (M1 := (I, J, xrf)) (p2 := 47) (l2 := [some (.ref 30), some (.int x1), some (.int x2)]) (s2 := []) (n2 := 94) (M2 := (I, J, xrf)) (fun f => rfl) (fun hc => ?_) (fun hc => ?_)
  · rw [if_pos hc] at h
    exact p_X8_gather_5 x1 x2 I J h hC
  · rw [if_neg hc] at h
    exact p_X8_gather_4 x1 x2 I J h hC
theorem p_X8_gather_2 {L : Nat} {xs : Nat → Int32} {d : Nat} {Q : xO → Prop} (x1 : Int32) (z2 : Option Value) (I : xI) (J : xJ) {t : (Int32 × (Option Value) × xI × xJ) ⊕ (Unit × xI × xJ)} (h : f_X8_gather_2 x1 z2 I J = some t) (hC : (c_X8_gather_1 L xs d Q) t) : Rn L xs (d + 5) 107 23 [some (.ref 30), some (.int x1), z2] [] 94 (I, J, xrf) Q := by
  unfold f_X8_gather_2 at h
  obtain ⟨hc, h⟩ := xif h
  refine Rn.ok 5 (c := x1 < 0 ∨ 400 ≤ x1.toNatClampNeg) (p1 := 32) (l1 := [some (.ref 30), some (.int x1), z2]) (s1 := [.int ((I 27 x1.toNatClampNeg))]) (n1 := 94) (M1 := (I, J, xrf)) (fun f => rfl) hc ?_
  refine Rn.fi 4 (c := (I 27 x1.toNatClampNeg) = 4) (p1 := 38) (l1 := [some (.ref 30), some (.int x1), some (.int ((I 27 x1.toNatClampNeg)))]) (s1 := []) (n1 := 94) (M1 := (I, J, xrf)) (p2 := 72) (l2 := [some (.ref 30), some (.int x1), some (.int ((I 27 x1.toNatClampNeg)))]) (s2 := []) (n2 := 94) (M2 := (I, J, xrf)) (fun f => rfl) (fun hc => ?_) (fun hc => ?_)
  · rw [if_pos hc] at h
    exact p_X8_gather_3 x1 ((I 27 x1.toNatClampNeg)) I J h hC
  · rw [if_neg hc] at h
    exact p_X8_gather_5 x1 ((I 27 x1.toNatClampNeg)) I J h hC
theorem q_X8_gather_1 {L : Nat} {xs : Nat → Int32} {d : Nat} {Q : xO → Prop} (x1 : Int32) (z2 : Option Value) (I : xI) (J : xJ) {t : (Int32 × (Option Value) × xI × xJ) ⊕ (Unit × xI × xJ)} (h : b_X8_gather_1 x1 z2 I J = some t) (hC : (c_X8_gather_1 L xs d Q) t) : Rn L xs (d + 5) 107 12 [some (.ref 30), some (.int x1), z2] [] 94 (I, J, xrf) Q := by
  unfold b_X8_gather_1 at h
  refine Rn.fi 5 (c := (I 26 4) ≤ x1) (p1 := 112) (l1 := [some (.ref 30), some (.int x1), z2]) (s1 := []) (n1 := 94) (M1 := (I, J, xrf)) (p2 := 23) (l2 := [some (.ref 30), some (.int x1), z2]) (s2 := []) (n2 := 94) (M2 := (I, J, xrf)) (fun f => rfl) (fun hc => ?_) (fun hc => ?_)
  · rw [if_pos hc] at h
    obtain ⟨t0, h0, rfl⟩ := Option.map_eq_some_iff.mp h
    exact p_X8_gather_13 x1 z2 I J h0 hC
  · rw [if_neg hc] at h
    exact p_X8_gather_2 x1 z2 I J h hC
theorem p_X8_gather_1 {L : Nat} {xs : Nat → Int32} {d : Nat} {Q : xO → Prop} (x1 : Int32) (z2 : Option Value) (I : xI) (J : xJ) {t : Unit × xI × xJ} (h : f_X8_gather_1 x1 z2 I J = some t) (hC : (c_X8_gather Q) t) : Rn L xs (d + 5) 107 12 [some (.ref 30), some (.int x1), z2] [] 94 (I, J, xrf) Q := by
  unfold f_X8_gather_1 at h
  exact xloop_some (P := fun s : Int32 × (Option Value) × xI × xJ => Rn L xs (d + 5) 107 12 [some (.ref 30), some (.int s.1), s.2.1] [] 94 (s.2.2.1, s.2.2.2, xrf) Q) t (fun s ⟨s', hb, hp⟩ => q_X8_gather_1 s.1 s.2.1 s.2.2.1 s.2.2.2 hb hp) (fun s hb => q_X8_gather_1 s.1 s.2.1 s.2.2.1 s.2.2.2 hb hC) _ _ h
theorem p_X8_gather_0 {L : Nat} {xs : Nat → Int32} {d : Nat} {Q : xO → Prop} (I : xI) (J : xJ) {t : Unit × xI × xJ} (h : f_X8_gather_0 I J = some t) (hC : (c_X8_gather Q) t) : Rn L xs (d + 5) 107 0 [some (.ref 30), none, none] [] 94 (I, J, xrf) Q := by
  unfold f_X8_gather_0 at h
  refine Rn.go 8 (j' := 107) (pc' := 12) (ls' := [some (.ref 30), some (.int 0), none]) (st' := []) (n' := 94) (M' := ((xup ((xup I 30 3 0)) 30 4 2), J, xrf)) (fun f => rfl) ?_
  exact p_X8_gather_1 0 none ((xup ((xup I 30 3 0)) 30 4 2)) J h hC
theorem p_X8_gather {L : Nat} {xs : Nat → Int32} {d : Nat} {Q : xO → Prop} (I : xI) (J : xJ) {t : Unit × xI × xJ} (h : f_X8_gather I J = some t) (hC : Q (none, 94, (t.2.1, t.2.2, xrf))) : Rn L xs (d + 5) 107 0 [some (.ref 30), none, none] [] 94 (I, J, xrf) Q := p_X8_gather_0 I J h hC
/-! X9_saysAlike -/
def c_X9_saysAlike (Q : xO → Prop) (t : Int32 × xI × xJ) : Prop := Q ((some (.int t.1)), 94, (t.2.1, t.2.2, xrf))
def c_X9_saysAlike_1 (L : Nat) (xs : Nat → Int32) (d : Nat) (Q : xO → Prop) (t : (Int32 × Int32 × Int32 × Int32 × xI × xJ) ⊕ (Int32 × xI × xJ)) : Prop := match t with
  | .inl s => Rn L xs (d + 2) 127 3 [some (.ref 24), some (.int s.1), some (.int s.2.1), some (.int s.2.2.1), some (.int s.2.2.2.1)] [] 94 (s.2.2.2.2.1, s.2.2.2.2.2, xrf) Q
  | .inr t => (c_X9_saysAlike Q) t
def f_X9_saysAlike_7 (x1 : Int32) (x2 : Int32) (x3 : Int32) (x4 : Int32) (I : xI) (J : xJ) : Option (Int32 × xI × xJ) := some (1, I, J)
def f_X9_saysAlike_6 (x1 : Int32) (x2 : Int32) (x3 : Int32) (x4 : Int32) (I : xI) (J : xJ) : Option ((Int32 × Int32 × Int32 × Int32 × xI × xJ) ⊕ (Int32 × xI × xJ)) := some (.inl (x1, x2, x3, ((x4 + 1)), I, J))
def f_X9_saysAlike_5 (x1 : Int32) (x2 : Int32) (x3 : Int32) (x4 : Int32) (I : xI) (J : xJ) : Option (Int32 × xI × xJ) := some (0, I, J)
def f_X9_saysAlike_4 (x1 : Int32) (x2 : Int32) (x3 : Int32) (x4 : Int32) (s0 : Int32) (s1 : Int32) (I : xI) (J : xJ) : Option ((Int32 × Int32 × Int32 × Int32 × xI × xJ) ⊕ (Int32 × xI × xJ)) := if s0 = s1 then f_X9_saysAlike_6 x1 x2 x3 x4 I J else ((f_X9_saysAlike_5 x1 x2 x3 x4 I J)).map .inr
def f_X9_saysAlike_3 (x1 : Int32) (x2 : Int32) (x3 : Int32) (x4 : Int32) (s0 : Int32) (I : xI) (J : xJ) : Option ((Int32 × Int32 × Int32 × Int32 × xI × xJ) ⊕ (Int32 × xI × xJ)) := (f_X9_byteAt ((x2 + x4)) I J).bind fun o => f_X9_saysAlike_4 x1 x2 x3 x4 s0 o.1 o.2.1 o.2.2
def f_X9_saysAlike_2 (x1 : Int32) (x2 : Int32) (x3 : Int32) (x4 : Int32) (I : xI) (J : xJ) : Option ((Int32 × Int32 × Int32 × Int32 × xI × xJ) ⊕ (Int32 × xI × xJ)) := (f_X9_byteAt ((x1 + x4)) I J).bind fun o => f_X9_saysAlike_3 x1 x2 x3 x4 o.1 o.2.1 o.2.2
def b_X9_saysAlike_1 (x1 : Int32) (x2 : Int32) (x3 : Int32) (x4 : Int32) (I : xI) (J : xJ) : Option ((Int32 × Int32 × Int32 × Int32 × xI × xJ) ⊕ (Int32 × xI × xJ)) := if x3 ≤ x4 then ((f_X9_saysAlike_7 x1 x2 x3 x4 I J)).map .inr else f_X9_saysAlike_2 x1 x2 x3 x4 I J
def f_X9_saysAlike_1 (x1 : Int32) (x2 : Int32) (x3 : Int32) (x4 : Int32) (I : xI) (J : xJ) : Option (Int32 × xI × xJ) := xloop (fun s : Int32 × Int32 × Int32 × Int32 × xI × xJ => b_X9_saysAlike_1 s.1 s.2.1 s.2.2.1 s.2.2.2.1 s.2.2.2.2.1 s.2.2.2.2.2) 5000 (x1, x2, x3, x4, I, J)
def f_X9_saysAlike_0 (x1 : Int32) (x2 : Int32) (x3 : Int32) (I : xI) (J : xJ) : Option (Int32 × xI × xJ) := f_X9_saysAlike_1 x1 x2 x3 0 I J
def f_X9_saysAlike (x1 : Int32) (x2 : Int32) (x3 : Int32) (I : xI) (J : xJ) : Option (Int32 × xI × xJ) := f_X9_saysAlike_0 x1 x2 x3 I J
theorem p_X9_saysAlike_7 {L : Nat} {xs : Nat → Int32} {d : Nat} {Q : xO → Prop} (x1 : Int32) (x2 : Int32) (x3 : Int32) (x4 : Int32) (I : xI) (J : xJ) {t : Int32 × xI × xJ} (h : f_X9_saysAlike_7 x1 x2 x3 x4 I J = some t) (hC : (c_X9_saysAlike Q) t) : Rn L xs (d + 2) 127 36 [some (.ref 24), some (.int x1), some (.int x2), some (.int x3), some (.int x4)] [] 94 (I, J, xrf) Q := by
  unfold f_X9_saysAlike_7 at h
  cases h
  exact Rn.ret 2 (o := ((some (.int 1)), 94, (I, J, xrf))) (fun f => rfl) hC
theorem p_X9_saysAlike_6 {L : Nat} {xs : Nat → Int32} {d : Nat} {Q : xO → Prop} (x1 : Int32) (x2 : Int32) (x3 : Int32) (x4 : Int32) (I : xI) (J : xJ) {t : (Int32 × Int32 × Int32 × Int32 × xI × xJ) ⊕ (Int32 × xI × xJ)} (h : f_X9_saysAlike_6 x1 x2 x3 x4 I J = some t) (hC : (c_X9_saysAlike_1 L xs d Q) t) : Rn L xs (d + 2) 127 30 [some (.ref 24), some (.int x1), some (.int x2), some (.int x3), some (.int x4)] [] 94 (I, J, xrf) Q := by
  unfold f_X9_saysAlike_6 at h
  refine Rn.go 2 (j' := 127) (pc' := 3) (ls' := [some (.ref 24), some (.int x1), some (.int x2), some (.int x3), some (.int ((x4 + 1)))]) (st' := []) (n' := 94) (M' := (I, J, xrf)) (fun f => rfl) ?_
  cases h; exact hC
theorem p_X9_saysAlike_5 {L : Nat} {xs : Nat → Int32} {d : Nat} {Q : xO → Prop} (x1 : Int32) (x2 : Int32) (x3 : Int32) (x4 : Int32) (I : xI) (J : xJ) {t : Int32 × xI × xJ} (h : f_X9_saysAlike_5 x1 x2 x3 x4 I J = some t) (hC : (c_X9_saysAlike Q) t) : Rn L xs (d + 2) 127 28 [some (.ref 24), some (.int x1), some (.int x2), some (.int x3), some (.int x4)] [] 94 (I, J, xrf) Q := by
  unfold f_X9_saysAlike_5 at h
  cases h
  exact Rn.ret 2 (o := ((some (.int 0)), 94, (I, J, xrf))) (fun f => rfl) hC
theorem p_X9_saysAlike_4 {L : Nat} {xs : Nat → Int32} {d : Nat} {Q : xO → Prop} (x1 : Int32) (x2 : Int32) (x3 : Int32) (x4 : Int32) (s0 : Int32) (s1 : Int32) (I : xI) (J : xJ) {t : (Int32 × Int32 × Int32 × Int32 × xI × xJ) ⊕ (Int32 × xI × xJ)} (h : f_X9_saysAlike_4 x1 x2 x3 x4 s0 s1 I J = some t) (hC : (c_X9_saysAlike_1 L xs d Q) t) : Rn L xs (d + 2) 127 25 [some (.ref 24), some (.int x1), some (.int x2), some (.int x3), some (.int x4)] [.int s1, .int s0] 94 (I, J, xrf) Q := by
  unfold f_X9_saysAlike_4 at h
  refine Rn.fi 1 (c := s0 = s1) (p1 := 30) (l1 := [some (.ref 24), some (.int x1), some (.int x2), some (.int x3), some (.int x4)]) (s1 := []) (n1 := 94) (M1 := (I, J, xrf)) (p2 := 28) (l2 := [some (.ref 24), some (.int x1), some (.int x2), some (.int x3), some (.int x4)]) (s2 := []) (n2 := 94) (M2 := (I, J, xrf)) (fun f => rfl) (fun hc => ?_) (fun hc => ?_)
  · rw [if_pos hc] at h
    exact p_X9_saysAlike_6 x1 x2 x3 x4 I J h hC
  · rw [if_neg hc] at h
    obtain ⟨t0, h0, rfl⟩ := Option.map_eq_some_iff.mp h
    exact p_X9_saysAlike_5 x1 x2 x3 x4 I J h0 hC
theorem p_X9_saysAlike_3 {L : Nat} {xs : Nat → Int32} {d : Nat} {Q : xO → Prop} (x1 : Int32) (x2 : Int32) (x3 : Int32) (x4 : Int32) (s0 : Int32) (I : xI) (J : xJ) {t : (Int32 × Int32 × Int32 × Int32 × xI × xJ) ⊕ (Int32 × xI × xJ)} (h : f_X9_saysAlike_3 x1 x2 x3 x4 s0 I J = some t) (hC : (c_X9_saysAlike_1 L xs d Q) t) : Rn L xs (d + 2) 127 17 [some (.ref 24), some (.int x1), some (.int x2), some (.int x3), some (.int x4)] [.int s0] 94 (I, J, xrf) Q := by
  unfold f_X9_saysAlike_3 at h
  refine Rn.go 4 (j' := 127) (pc' := 22) (ls' := [some (.ref 24), some (.int x1), some (.int x2), some (.int x3), some (.int x4)]) (st' := [.int ((x2 + x4)), .ref 24, .int s0]) (n' := 94) (M' := (I, J, xrf)) (fun f => rfl) ?_
  obtain ⟨o, ho, h⟩ := Option.bind_eq_some_iff.mp h
  refine Rn.call (d1 := d + 1) (j1 := 120) (ls1 := [some (.ref 24), some (.int ((x2 + x4)))]) (rest := [.int s0]) (fun f => rfl) ?_
  refine p_X9_byteAt (d := d + 0) ((x2 + x4)) I J (t := o) ho ?_
  exact p_X9_saysAlike_4 x1 x2 x3 x4 s0 o.1 o.2.1 o.2.2 h hC
theorem p_X9_saysAlike_2 {L : Nat} {xs : Nat → Int32} {d : Nat} {Q : xO → Prop} (x1 : Int32) (x2 : Int32) (x3 : Int32) (x4 : Int32) (I : xI) (J : xJ) {t : (Int32 × Int32 × Int32 × Int32 × xI × xJ) ⊕ (Int32 × xI × xJ)} (h : f_X9_saysAlike_2 x1 x2 x3 x4 I J = some t) (hC : (c_X9_saysAlike_1 L xs d Q) t) : Rn L xs (d + 2) 127 9 [some (.ref 24), some (.int x1), some (.int x2), some (.int x3), some (.int x4)] [] 94 (I, J, xrf) Q := by
  unfold f_X9_saysAlike_2 at h
  refine Rn.go 4 (j' := 127) (pc' := 14) (ls' := [some (.ref 24), some (.int x1), some (.int x2), some (.int x3), some (.int x4)]) (st' := [.int ((x1 + x4)), .ref 24]) (n' := 94) (M' := (I, J, xrf)) (fun f => rfl) ?_
  obtain ⟨o, ho, h⟩ := Option.bind_eq_some_iff.mp h
  refine Rn.call (d1 := d + 1) (j1 := 120) (ls1 := [some (.ref 24), some (.int ((x1 + x4)))]) (rest := []) (fun f => rfl) ?_
  refine p_X9_byteAt (d := d + 0) ((x1 + x4)) I J (t := o) ho ?_
  exact p_X9_saysAlike_3 x1 x2 x3 x4 o.1 o.2.1 o.2.2 h hC
theorem q_X9_saysAlike_1 {L : Nat} {xs : Nat → Int32} {d : Nat} {Q : xO → Prop} (x1 : Int32) (x2 : Int32) (x3 : Int32) (x4 : Int32) (I : xI) (J : xJ) {t : (Int32 × Int32 × Int32 × Int32 × xI × xJ) ⊕ (Int32 × xI × xJ)} (h : b_X9_saysAlike_1 x1 x2 x3 x4 I J = some t) (hC : (c_X9_saysAlike_1 L xs d Q) t) : Rn L xs (d + 2) 127 3 [some (.ref 24), some (.int x1), some (.int x2), some (.int x3), some (.int x4)] [] 94 (I, J, xrf) Q := by
  unfold b_X9_saysAlike_1 at h
  refine Rn.fi 3 (c := x3 ≤ x4) (p1 := 36) (l1 := [some (.ref 24), some (.int x1), some (.int x2), some (.int x3), some (.int x4)]) (s1 := []) (n1 := 94) (M1 := (I, J, xrf)) (p2 := 9) (l2 := [some (.ref 24), some (.int x1), some (.int x2), some (.int x3), some (.int x4)]) (s2 := []) (n2 := 94) (M2 := (I, J, xrf)) (fun f => rfl) (fun hc => ?_) (fun hc => ?_)
  · rw [if_pos hc] at h
    obtain ⟨t0, h0, rfl⟩ := Option.map_eq_some_iff.mp h
    exact p_X9_saysAlike_7 x1 x2 x3 x4 I J h0 hC
  · rw [if_neg hc] at h
    exact p_X9_saysAlike_2 x1 x2 x3 x4 I J h hC
theorem p_X9_saysAlike_1 {L : Nat} {xs : Nat → Int32} {d : Nat} {Q : xO → Prop} (x1 : Int32) (x2 : Int32) (x3 : Int32) (x4 : Int32) (I : xI) (J : xJ) {t : Int32 × xI × xJ} (h : f_X9_saysAlike_1 x1 x2 x3 x4 I J = some t) (hC : (c_X9_saysAlike Q) t) : Rn L xs (d + 2) 127 3 [some (.ref 24), some (.int x1), some (.int x2), some (.int x3), some (.int x4)] [] 94 (I, J, xrf) Q := by
  unfold f_X9_saysAlike_1 at h
  exact xloop_some (P := fun s : Int32 × Int32 × Int32 × Int32 × xI × xJ => Rn L xs (d + 2) 127 3 [some (.ref 24), some (.int s.1), some (.int s.2.1), some (.int s.2.2.1), some (.int s.2.2.2.1)] [] 94 (s.2.2.2.2.1, s.2.2.2.2.2, xrf) Q) t (fun s ⟨s', hb, hp⟩ => q_X9_saysAlike_1 s.1 s.2.1 s.2.2.1 s.2.2.2.1 s.2.2.2.2.1 s.2.2.2.2.2 hb hp) (fun s hb => q_X9_saysAlike_1 s.1 s.2.1 s.2.2.1 s.2.2.2.1 s.2.2.2.2.1 s.2.2.2.2.2 hb hC) _ _ h
theorem p_X9_saysAlike_0 {L : Nat} {xs : Nat → Int32} {d : Nat} {Q : xO → Prop} (x1 : Int32) (x2 : Int32) (x3 : Int32) (I : xI) (J : xJ) {t : Int32 × xI × xJ} (h : f_X9_saysAlike_0 x1 x2 x3 I J = some t) (hC : (c_X9_saysAlike Q) t) : Rn L xs (d + 2) 127 0 [some (.ref 24), some (.int x1), some (.int x2), some (.int x3), none] [] 94 (I, J, xrf) Q := by
  unfold f_X9_saysAlike_0 at h
  refine Rn.go 2 (j' := 127) (pc' := 3) (ls' := [some (.ref 24), some (.int x1), some (.int x2), some (.int x3), some (.int 0)]) (st' := []) (n' := 94) (M' := (I, J, xrf)) (fun f => rfl) ?_
  exact p_X9_saysAlike_1 x1 x2 x3 0 I J h hC
theorem p_X9_saysAlike {L : Nat} {xs : Nat → Int32} {d : Nat} {Q : xO → Prop} (x1 : Int32) (x2 : Int32) (x3 : Int32) (I : xI) (J : xJ) {t : Int32 × xI × xJ} (h : f_X9_saysAlike x1 x2 x3 I J = some t) (hC : Q ((some (.int t.1)), 94, (t.2.1, t.2.2, xrf))) : Rn L xs (d + 2) 127 0 [some (.ref 24), some (.int x1), some (.int x2), some (.int x3), none] [] 94 (I, J, xrf) Q := p_X9_saysAlike_0 x1 x2 x3 I J h hC
